/-! the first coefficient of a block, read -/
def zDir (D : Nat → Nat) (n : Nat) (W : zT) (bf b c at' : Nat) (a : zS) : Nat ⊕ zS :=
  if 0 < bf then zOb (tB D n a.1) fun u s => .inr (s, a.2.1, a.2.2.1, if u = 1 then upd a.2.2.2 at' (orB b (a.2.2.2 at')) else a.2.2.2)
  else zSb (zSy D n W a.1) fun k s => if 11 < k then .inl 3 else zOb (tN D n k 0 s) fun v s2 => if -1024 ≤ (a.2.2.1 c + nmb k v) * 2 ^ b ∧ (a.2.2.1 c + nmb k v) * 2 ^ b ≤ 1023 then .inr (s2, a.2.1, (fun j => if j = c then a.2.2.1 c + nmb k v else a.2.2.1 j), upd a.2.2.2 at' (iI ((a.2.2.1 c + nmb k v) * 2 ^ b))) else .inl 4
theorem dr_no {z : Int} {b : Nat} (hb : b ≤ 9) (h : z < -1024 ∨ 1023 < z) : ¬ (-1024 ≤ z * 2 ^ b ∧ z * 2 ^ b ≤ 1023) := by
  rcases (show b = 0 ∨ b = 1 ∨ b = 2 ∨ b = 3 ∨ b = 4 ∨ b = 5 ∨ b = 6 ∨ b = 7 ∨ b = 8 ∨ b = 9 by omega) with rfl | rfl | rfl | rfl | rfl | rfl | rfl | rfl | rfl | rfl <;> omega
theorem dr_b {z : Int} {b M : Nat} (hb : b ≤ 9) (h : z.natAbs ≤ M) : (z * 2 ^ b).natAbs ≤ 512 * M := by
  rcases (show b = 0 ∨ b = 1 ∨ b = 2 ∨ b = 3 ∨ b = 4 ∨ b = 5 ∨ b = 6 ∨ b = 7 ∨ b = 8 ∨ b = 9 by omega) with rfl | rfl | rfl | rfl | rfl | rfl | rfl | rfl | rfl | rfl <;> omega
theorem iI_pw (z : Int) (b : Nat) : iI z * nI (2 ^ b) = iI (z * 2 ^ b) := by
  rw [iI_n, iI_mul, Int.natCast_pow]
  rfl
section
variable {X : px_X} {b B : Nat} {w0 w1 : px_W} {x x' y y' : rg_S} {D : Nat → Nat} {n d0 t P mm m first last bf bb T q : Nat} {cm bs : Nat → Nat} {s s' : bSt} {W : zT} {a : zS}
theorem x_sb (ht : t < 8) (hT : tbOk W.1 W.2.1 W.2.2) (h : xR x D n d0 s) (hw : wX x t W.1 W.2.1 W.2.2) : ∃ u x', fX6_takeSymbol X (rg_p lX B w0 x) (B + 95) (B + (55 + 5 * t)) = some (u, rg_p lX B w0 x') ∧ FXr x x' ∧ ((∃ f, zSy D n W s = .inl f ∧ 0 < f ∧ f < 100 ∧ x'.1 95 6 = nI f ∧ u = -1) ∨ ∃ k s', zSy D n W s = .inr (k, s') ∧ k < 256 ∧ u = nI k ∧ xR x' D n d0 s') := by
  obtain ⟨u, x', e, F, hh⟩ := x_sy (X := X) (B := B) (w0 := w0) ht hT 16 0 0 FU x s (by omega) (by unfold FU; omega) (Nat.le_refl 0) (by decide) h hw
  refine ⟨u, x', ?_, F, ?_⟩
  · unfold fX6_takeSymbol
    exact e
  · unfold zSy
    rcases hh with ⟨f, e1, e2, e3, e4⟩ | ⟨i, s', e1, e2, e3, e4⟩
    · rw [e1]
      exact Or.inl ⟨f, rfl, by omega, by omega, e3, e4⟩
    · rw [e1]
      exact Or.inr ⟨_, s', rfl, hT.2.2.2.2.1 i e2, e3, e4⟩
theorem m_sb (ht : t < 8) (hT : tbOk W.1 W.2.1 W.2.2) (h : yR y D n s) (hw : rT y t W.1 W.2.1 W.2.2) : ∃ u y', fX13_symbol X (rg_p lM b w0 y) (b + 24) (nI t) = some (u, rg_p lM b w0 y') ∧ FYr y y' ∧ ((∃ f, zSy D n W s = .inl f ∧ 0 < f ∧ f < 100 ∧ y'.1 24 46 = nI f ∧ u = 0) ∨ ∃ k s', zSy D n W s = .inr (k, s') ∧ k < 256 ∧ u = nI k ∧ yR y' D n s') := by
  obtain ⟨u, y', e, F, hh⟩ := m_sy (X := X) (b := b) (w0 := w0) ht hT 16 0 0 FU y s (by omega) (by unfold FU; omega) (Nat.le_refl 0) (by decide) h hw
  refine ⟨u, y', ?_, F, ?_⟩
  · unfold fX13_symbol
    exact e
  · unfold zSy
    rcases hh with ⟨f, e1, e2, e3, e4⟩ | ⟨i, s', e1, e2, e3, e4⟩
    · rw [e1]
      exact Or.inl ⟨f, rfl, by omega, by omega, e3, e4⟩
    · rw [e1]
      exact Or.inr ⟨_, s', rfl, hT.2.2.2.2.1 i e2, e3, e4⟩
theorem x_isRf (hx : x.1 41 3 = nI bf) (hb : bf ≤ 10) : fX5_isRefinement X (rg_p lX B w0 x) (B + 41) = some (if 0 < bf then 1 else 0, rg_p lX B w0 x) := by
  unfold fX5_isRefinement
  refine ob_v (rg_I rfl rfl) ?_
  rw [hx]
  by_cases q : 0 < bf
  · rw [if_pos q]
    exact ei_n (nI_nle q (by omega)) rfl
  · rw [if_neg q]
    exact ei_t (by rw [show bf = 0 by omega]; decide) rfl
theorem x_setC0 {f : Nat} {A K V : Int32} (hf : x.1 95 6 = nI f) (h0 : 0 < f) (h9 : f < 100) : fX6_setCoefficientOf X (rg_p lX B w0 x) (B + 95) A K V = some (rg_p lX B w0 x) := by
  unfold fX6_setCoefficientOf
  exact ob_v (rg_I rfl rfl) (ei_n (by rw [hf]; exact nI_ne0 h0 (by omega)) rfl)
theorem zKx.g1 (k : zKx x P first last bf bb) : gR (rg_p lX B w0 x) (B + 95) 6 1 = some (B + P) := by
  rw [← k.2.1]
  exact rg_R rfl rfl
theorem zKx.g2 (k : zKx x P first last bf bb) : gR (rg_p lX B w0 x) (B + 95) 6 2 = some (B + 41) := by
  rw [← k.2.2.1]
  exact rg_R rfl rfl
theorem x_dir66 (k : zKx x P first last bf bb) (h : zX P cm mm D n d0 x a) (ok : zOk a) (hm : m < mm) (m4 : mm ≤ 4) (inj : ∀ i j, i < mm → j < mm → cm i = cm j → i = j) (hT : 64 * T + 64 ≤ 12288) {u : Nat} (hu : u ≤ 11) :
    ∃ x', fX6_readDirect_66 X (B + 95) (nI (64 * T)) (nI m) (nI u) (rg_p lX B w0 x) = some (rg_p lX B w0 x') ∧ zFX P x x' ∧ zXo P cm mm D n d0 (zOb (tN D n u 0 a.1) fun v s2 => if -1024 ≤ (a.2.2.1 (cm m) + nmb u v) * 2 ^ bb ∧ (a.2.2.1 (cm m) + nmb u v) * 2 ^ bb ≤ 1023 then .inr (s2, a.2.1, (fun j => if j = cm m then a.2.2.1 (cm m) + nmb u v else a.2.2.1 j), upd a.2.2.2 (64 * T) (iI ((a.2.2.1 (cm m) + nmb u v) * 2 ^ bb))) else .inl 4) x' := by
  obtain ⟨v0, x1, e1, F1, hh⟩ := x_numO (X := X) (B := B) (w0 := w0) (k := u) (by omega) h.1
  have hb : bb ≤ 9 := k.2.2.2.2.2.2.2.2.2.2
  have p104 : x.2.2.1 104 m = iI (a.2.2.1 (cm m)) := h.2.2.1 m hm
  have F2 : zFX P x (rg_wA x1 104 (upd (x1.2.2.1 104) m (x.2.2.1 104 m + v0))) := F1.q.trans (zFX.w104 _)
  have k2 := k.f F2
  have st : ∀ r, fX6_setCoefficientOf X (rg_p lX B w0 (rg_wA x1 104 (upd (x1.2.2.1 104) m (x.2.2.1 104 m + v0)))) (B + 95) (nI (64 * T)) 0 ((x.2.2.1 104 m + v0) * nI (2 ^ bb)) = some r → fX6_readDirect_66 X (B + 95) (nI (64 * T)) (nI m) (nI u) (rg_p lX B w0 x) = some r := by
    intro r hr
    unfold fX6_readDirect_66
    refine ob_v (rg_I rfl rfl) (ei_t h.1.2.2.2.1 (ob_v (rg_C rfl rfl) (ob_v (rg_A rfl (by decide) _ (by omega) (by decide)) (ob_v (rg_O rfl) (ob_v e1 (ob_v (rg_C rfl rfl) (ob_v (rg_sA id rfl (by decide) _ _ (by omega) (by decide)) (ob_v k2.g2 (ob_v (rg_I rfl rfl) (ob_v (rg_O rfl) ?_))))))))))
    show (fX6_setCoefficientOf X _ _ _ 0 ((x.2.2.1 104 m + v0) * ((1 : Int32) <<< (x1.1 41 4 &&& 31)))).bind _ = _
    rw [(k.f F1.q (P := P)).2.2.2.2.2.2.1, pw_16 (by omega)]
    exact ob_v hr rfl
  rcases hh with ⟨t1, t2⟩ | ⟨v, s1, t1, t2, t3, t4⟩
  · refine ⟨_, st _ (x_setC0 (f := 1) (by show x1.1 95 6 = _; rw [t2]; rfl) (by decide) (by decide)), F2, Or.inl ⟨1, ?_, by decide, by decide, by show x1.1 95 6 = _; rw [t2]; rfl⟩⟩
    rw [t1]
    rfl
  · have hz : (a.2.2.1 (cm m) + nmb u v).natAbs ≤ 3072 := by
      have h1 := ok.2.1 (cm m)
      have h2 := nmb_b t2
      have h3 : 2 ^ u ≤ 2 ^ 11 := Nat.pow_le_pow_right (by decide) hu
      omega
    rw [t1]
    show ∃ x', _ ∧ _ ∧ zXo P cm mm D n d0 (if -1024 ≤ (a.2.2.1 (cm m) + nmb u v) * 2 ^ bb ∧ (a.2.2.1 (cm m) + nmb u v) * 2 ^ bb ≤ 1023 then .inr (s1, a.2.1, (fun j => if j = cm m then a.2.2.1 (cm m) + nmb u v else a.2.2.1 j), upd a.2.2.2 (64 * T) (iI ((a.2.2.1 (cm m) + nmb u v) * 2 ^ bb))) else .inl 4) x'
    rw [p104, t3, iI_add, iI_pw] at st
    rw [p104, t3, iI_add] at F2 k2
    generalize a.2.2.1 (cm m) + nmb u v = z at st F2 k2 hz ⊢
    have h2 : zX P cm mm D n d0 (rg_wA x1 104 (upd (x1.2.2.1 104) m (iI z))) (s1, a.2.1, (fun j => if j = cm m then z else a.2.2.1 j), a.2.2.2) := (h.s F1 t4).p (a := (s1, a.2)) k.1 hm inj
    have zb := dr_b hb hz
    rcases x_setC (X := X) (B := B) (w0 := w0) (k := 0) (z := z * 2 ^ bb) k.1 k2.2.1 hT (by decide) (by omega) h2.1.2.2.2.1 with ⟨e, c⟩ | ⟨e, c⟩
    · have c' : -1024 ≤ z * 2 ^ bb ∧ z * 2 ^ bb ≤ 1023 := c
      rw [if_pos c']
      refine ⟨_, st _ e, F2.trans (zFX.w6 _), Or.inr ⟨_, rfl, ?_, h2.q k.1⟩⟩
      have z1 : z.natAbs ≤ 1024 := by
        have := dr_no (z := z) hb
        omega
      refine (((ok.s s1).p (c := cm m) (z := z) z1).q (i := 64 * T) ?_)
      rw [show 64 * T % 64 = 0 by omega]
      unfold cfOk
      rw [if_pos rfl, iI_t (by omega) (by omega)]
      exact c'
    · have c' : ¬ (-1024 ≤ z * 2 ^ bb ∧ z * 2 ^ bb ≤ 1023) := c
      rw [if_neg c']
      exact ⟨_, st _ e, F2.trans (zFX.wI (by omega)), Or.inl ⟨4, rfl, by decide, by decide, wI_s _ _ _ _⟩⟩
theorem x_zDir (k : zKx x P first last bf bb) (h : zX P cm mm D n d0 x a) (ok : zOk a) (ht : t < 8) (hm : m < mm) (m4 : mm ≤ 4) (inj : ∀ i j, i < mm → j < mm → cm i = cm j → i = j) (hT : 64 * T + 64 ≤ 12288) (hW : bf = 0 → tbOk W.1 W.2.1 W.2.2 ∧ wX x t W.1 W.2.1 W.2.2) :
    ∃ x', fX6_readDirect X (rg_p lX B w0 x) (B + 95) (nI (64 * T)) (nI m) (B + (55 + 5 * t)) = some (rg_p lX B w0 x') ∧ zFX P x x' ∧ zXo P cm mm D n d0 (zDir D n W bf bb (cm m) (64 * T) a) x' := by
  have hb : bb ≤ 9 := k.2.2.2.2.2.2.2.2.2.2
  have hbf : bf ≤ 10 := k.2.2.2.2.2.2.2.2.2.1
  unfold zDir
  by_cases q0 : 0 < bf
  · rw [if_pos q0]
    obtain ⟨v, x1, e1, F1, hh⟩ := x_tB (X := X) (B := B) (w0 := w0) h.1
    have k1 := k.f F1.q
    have st : ∀ r, (if v = 1 then (gR (rg_p lX B w0 x1) (B + 95) 6 1).bind fun v52 => (gR (rg_p lX B w0 x1) v52 2 11).bind fun v53 => (aN (rg_p lX B w0 x1) 0 v53 (nI (64 * T))).bind fun v54 => (gR (rg_p lX B w0 x1) (B + 95) 6 2).bind fun v55 => (gI (rg_p lX B w0 x1) v55 5 4).bind fun v56 => (sN id (rg_p lX B w0 x1) 0 v53 (nI (64 * T)) (v54 ||| ((1 : Int32) <<< (v56 &&& 31)))).bind fun w57 => some w57 else some (rg_p lX B w0 x1)) = r → fX6_readDirect X (rg_p lX B w0 x) (B + 95) (nI (64 * T)) (nI m) (B + (55 + 5 * t)) = r := by
      intro r hr
      unfold fX6_readDirect
      refine ob_v k.g2 (ob_v (rg_O rfl) (ob_v (x_isRf k.2.2.2.2.2.1 hbf) ?_))
      rw [if_pos q0]
      exact ei_n n10 (ob_v (rg_O rfl) (ob_v e1 hr))
    rcases hh with ⟨t1, t2, t3⟩ | ⟨u, s1, t1, t2, t3⟩
    · refine ⟨x1, st _ (ei_n (by rw [t3]; decide) rfl), F1.q, Or.inl ⟨1, by rw [t1]; rfl, by decide, by decide, by rw [t2]; rfl⟩⟩
    · rw [t1]
      have h1 := h.s F1 t3
      by_cases u1 : u = 1
      · refine ⟨_, st _ (ei_t (by rw [t2, u1]; rfl) (ob_v k1.g1 (ob_v (rg_C k.1.o rfl) (ob_v (rg_A k.1.a6 (by decide) _ (by omega) (by decide)) (ob_v k1.g2 (ob_v (rg_I rfl rfl) (ob_v (rg_sA id k.1.a6 (by decide) _ _ (by omega) (by decide)) rfl))))))), F1.q.trans (zFX.w6 _), Or.inr ⟨_, rfl, ?_, ?_⟩⟩
        · show zOk (s1, a.2.1, a.2.2.1, if u = 1 then _ else _)
          rw [if_pos u1]
          refine (ok.s s1).q ?_
          rw [show 64 * T % 64 = 0 by omega]
          exact cf_or hb (ok.2.2 (64 * T) (by omega))
        · show zX P cm mm D n d0 _ (s1, a.2.1, a.2.2.1, if u = 1 then _ else _)
          rw [if_pos u1, k1.2.2.2.2.2.2.1, pw_16 (by omega), h1.2.2.2 _ (by omega)]
          exact h1.q k.1
      · refine ⟨x1, st _ (ei_n (fun e => ?_) rfl), F1.q, Or.inr ⟨_, rfl, ?_, ?_⟩⟩
        · rw [t2] at e
          have := (tB_ok h.1.2.2.2.2.2.2.2.2.1 h.1.2.2.2.2.2.2.2.2.2 t1).2
          exact u1 ((nI_eq (b := 1) (by omega) (by omega)).mp e)
        · show zOk (s1, a.2.1, a.2.2.1, if u = 1 then _ else _)
          rw [if_neg u1]
          exact ok.s s1
        · show zX P cm mm D n d0 _ (s1, a.2.1, a.2.2.1, if u = 1 then _ else _)
          rw [if_neg u1]
          exact h1
  · rw [if_neg q0]
    obtain ⟨hT1, hT2⟩ := hW (by omega)
    obtain ⟨v, x1, e1, F1, hh⟩ := x_sb (X := X) (B := B) (w0 := w0) ht hT1 h.1 hT2
    have k1 := k.f F1.q
    have st : ∀ r, (if x1.1 95 6 = 0 then (if v ≤ 11 then fX6_readDirect_66 X (B + 95) (nI (64 * T)) (nI m) v (rg_p lX B w0 x1) else (pV (rg_p lX B w0 x1) (B + 95) 6 6 (.int 3)).bind fun w48 => fX6_readDirect_66 X (B + 95) (nI (64 * T)) (nI m) v w48) else fX6_readDirect_66 X (B + 95) (nI (64 * T)) (nI m) v (rg_p lX B w0 x1)) = r → fX6_readDirect X (rg_p lX B w0 x) (B + 95) (nI (64 * T)) (nI m) (B + (55 + 5 * t)) = r := by
      intro r hr
      unfold fX6_readDirect
      refine ob_v k.g2 (ob_v (rg_O rfl) (ob_v (x_isRf k.2.2.2.2.2.1 hbf) ?_))
      rw [if_neg q0]
      exact ei_t rfl (ob_v (rg_O rfl) (ob_v e1 (ob_v (rg_I rfl rfl) hr)))
    have f66 : ∀ (z : rg_S) (f : Nat) (V : Int32), z.1 95 6 = nI f → 0 < f → f < 100 → fX6_readDirect_66 X (B + 95) (nI (64 * T)) (nI m) V (rg_p lX B w0 z) = some (rg_p lX B w0 z) := by
      intro z f V hz h0 h9
      unfold fX6_readDirect_66
      exact ob_v (rg_I rfl rfl) (ei_n (by rw [hz]; exact nI_ne0 h0 (by omega)) rfl)
    rcases hh with ⟨f, t1, t2, t3, t4, t5⟩ | ⟨u, s1, t1, t2, t3, t4⟩
    · refine ⟨x1, st _ (ei_n (by rw [t4]; exact nI_ne0 t2 (by omega)) (f66 x1 f _ t4 t2 t3)), F1.q, Or.inl ⟨f, by rw [t1]; rfl, t2, t3, t4⟩⟩
    · rw [t1]
      show ∃ x', _ ∧ _ ∧ zXo P cm mm D n d0 (if 11 < u then .inl 3 else _) x'
      by_cases u1 : 11 < u
      · rw [if_pos u1]
        refine ⟨_, st _ (ei_t t4.2.2.2.1 (ei_n ?_ (ob_v (rg_pI rfl rfl _) (f66 _ 3 _ (wI_s _ _ _ _) (by decide) (by decide))))), F1.q.trans (zFX.wI (by omega)), Or.inl ⟨3, rfl, by decide, by decide, wI_s _ _ _ _⟩⟩
        rw [t3]
        exact nI_ge (b := u) u1 (by omega)
      · rw [if_neg u1]
        obtain ⟨x2, e2, F2, o2⟩ := x_dir66 (X := X) (B := B) (w0 := w0) k1 (h.s F1 t4) (ok.s s1) hm m4 inj hT (u := u) (by omega)
        refine ⟨x2, st _ (ei_t t4.2.2.2.1 (ei_t ?_ ?_)), F1.q.trans F2, o2⟩
        · rw [t3]
          exact nI_le (b := 11) (by omega) (by omega)
        · rw [t3]
          exact e2
end
