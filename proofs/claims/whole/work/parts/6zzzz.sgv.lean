/-! counts and symbols read by the class -/
def FXys (t : Nat) (x x' : rg_S) : Prop := (∀ p k, ¬ (p = 40 ∧ 6 ≤ k ∧ k ≤ 8) → x'.1 p k = x.1 p k) ∧ x'.2.1 = x.2.1 ∧ (∀ a, a ≠ 54 → a ≠ 59 + 5 * t → x'.2.2.1 a = x.2.2.1 a) ∧ x'.2.2.2 = x.2.2.2
theorem FXys.rfl {o : Nat} {x : rg_S} : FXys o x x := ⟨fun _ _ _ => Eq.refl _, Eq.refl _, fun _ _ _ => Eq.refl _, Eq.refl _⟩
theorem FXys.trans {o : Nat} {x x1 x2 : rg_S} (h : FXys o x x1) (h2 : FXys o x1 x2) : FXys o x x2 := ⟨fun p k a => (h2.1 p k a).trans (h.1 p k a), h2.2.1.trans h.2.1, fun a e d => (h2.2.2.1 a e d).trans (h.2.2.1 a e d), h2.2.2.2.trans h.2.2.2⟩
theorem FXp.y {o : Nat} {x x' : rg_S} (h : FXp x x') : FXys o x x' := ⟨h.1, by rw [h.2], fun _ _ _ => by rw [h.2], by rw [h.2]⟩
theorem FXys.wA {o a : Nat} {x : rg_S} {f : Nat → Int32} (h : a = 54 ∨ a = 59 + 5 * o) : FXys o x (rg_wA x a f) := ⟨fun _ _ _ => Eq.refl _, Eq.refl _, fun _ _ _ => wA_n _ _ (by omega), Eq.refl _⟩
theorem FXys.t {o : Nat} {x x' : rg_S} (h : FXys o x x') : FXt o x x' := ⟨fun p k a _ => h.1 p k a, h.2.1, fun a e d => h.2.2.1 a e (by omega), h.2.2.2⟩
def wsX1 (x : rg_S) (t : Nat) (n : Nat → Nat) : Prop := x.1 (55 + 5 * t) 4 = nI (lgst n 16) ∧ (0 < lgst n 16 → x.1 (55 + 5 * t) 5 = nI (nx n (lgst n 16) - 1)) ∧ ∀ l, 1 ≤ l → l ≤ 16 → x.2.2.1 (55 + 5 * t + 1) l = nI (n l) ∧ x.2.2.1 (55 + 5 * t + 2) l = nI (2 * nx n (l - 1)) ∧ x.2.2.1 (55 + 5 * t + 3) l = nI (dn n (l - 1))
section
variable {X : px_X} {b B : Nat} {w0 w1 : px_W} {x x' : rg_S} {c : sgC} {p t : Nat} {f : sgF} {q : Nat → Nat}
theorem kX.tt (ht : t < 8) (h : kX x c p) (F : FXt t x x') (h6 : x'.1 40 6 = x.1 40 6) (h8 : x'.1 40 8 = x.1 40 8) : kX x' c p := by
  obtain ⟨h1, h2, h3, h4, h5, h7, h9⟩ := h
  exact ⟨h8.trans h1, by rw [F.1 _ _ (by omega) (by omega)]; exact h2, by rw [F.1 _ _ (by omega) (by omega)]; exact h3, h6.trans h4, by rw [F.1 _ _ (by omega) (by omega)]; exact h5, h7, by rw [F.2.2.1 2 (by omega) (by omega)]; exact h9⟩
theorem x_ck (ht : t < 8) : ∀ (r l p s w M : Nat) (n : Nat → Nat) (x : rg_S), l + r = 17 → 1 ≤ l → r < M → 1 ≤ p → s = dn n (l - 1) → w = nx n (l - 1) → (∀ k, k ≤ l - 1 → nx n k < 2 ^ k) → (∀ j, n j ≤ 255) → s ≤ 256 → (∀ j, 1 ≤ j → j < l → x.2.2.1 (55 + 5 * t + 1) j = nI (n j)) → kX x c p → ∃ v x', fX8_readCounts_7 X M (B + 40) (B + (55 + 5 * t)) (nI s) (nI w) (nI l) (rg_p lX B w0 x) = some (v, rg_p lX B w0 x') ∧ FXt t x x' ∧ ((∃ f, sgCk c r l p s w n = .inl f ∧ v = 0 ∧ ftX x' f) ∨ ∃ p' s' n', sgCk c r l p s w n = .inr (p', s', n') ∧ v = 1 ∧ kX x' c p' ∧ wsX1 x' t n') := by
  have wo := wd_o ht
  intro r
  induction r with
  | zero =>
    intro l p s w M n x hl l1 hM p1 hs hw hn hf s6 hc h
    obtain rfl : l = 17 := by omega
    obtain ⟨M, rfl⟩ : ∃ M', M = M' + 1 := ⟨M - 1, by omega⟩
    unfold sgCk
    by_cases s0 : s = 0
    · rw [if_pos s0]
      obtain ⟨x1, e1, F1, f1⟩ := x_ref (X := X) (B := B) (w0 := w0) h p1
      refine ⟨0, x1, ?_, F1.t, Or.inl ⟨_, rfl, rfl, f1⟩⟩
      rw [fX8_readCounts_7.eq_2]
      refine ei_t (by decide) ?_
      unfold fX8_readCounts_75
      exact ei_t (by rw [s0]; rfl) (ob_v (rg_O rfl) (ob_v e1 rfl))
    · rw [if_neg s0]
      obtain ⟨x1, e1, F1, g1, g2, g3, g4, g5⟩ := x_wset (X := X) (B := B) (w0 := w0) (x := x) (n := n) ht hn (by rw [show (17 : Nat) - 1 = 16 from rfl] at hs; omega) hf (fun l a b => hc l a (by omega))
      refine ⟨1, x1, ?_, F1, Or.inr ⟨_, _, _, rfl, rfl, h.tt ht F1 g4 g5, g1, g2, g3⟩⟩
      rw [fX8_readCounts_7.eq_2]
      refine ei_t (by decide) ?_
      unfold fX8_readCounts_75
      exact ei_n (nI_ne0 (by omega) (by omega)) (ob_v (rg_O wo) (ob_v e1 rfl))
  | succ r ih =>
    intro l p s w M n x hl l1 hM p1 hs hw hn hf s6 hc h
    obtain ⟨M, rfl⟩ : ∃ M', M = M' + 1 := ⟨M - 1, by omega⟩
    obtain ⟨v, x1, e1, F1, o1⟩ := x_nx (X := X) (B := B) (w0 := w0) h
    have hwl := hn (l - 1) (Nat.le_refl _)
    rw [← hw] at hwl
    have p16 : 2 ^ (l - 1) ≤ 2 ^ 15 := Nat.pow_le_pow_right (by decide) (by omega)
    have p17 : 2 ^ l ≤ 2 ^ 16 := Nat.pow_le_pow_right (by decide) (by omega)
    unfold sgCk
    rcases o1 with ⟨f, r1, r2, r3⟩ | ⟨u, q1, r1, r2, r3, r4⟩
    · rw [r1]
      refine ⟨0, x1, ?_, F1.t, Or.inl ⟨f, rfl, rfl, r3⟩⟩
      rw [fX8_readCounts_7.eq_2]
      exact ei_n (nI_nlt (a := 16) (by omega) (by omega)) (ob_v (rg_O rfl) (ob_v e1 (ei_t r2 rfl)))
    · have hq := sgN_p r1
      rw [r1]
      show ∃ v x', _ ∧ _ ∧ ((∃ f, (if 256 < s + u ∨ 2 ^ l ≤ 2 * w + u then .inl (6, p) else sgCk c r (l + 1) q1 (s + u) (2 * w + u) (uG n l u)) = .inl f ∧ _) ∨ ∃ p' s' n', (if 256 < s + u ∨ 2 ^ l ≤ 2 * w + u then .inl (6, p) else sgCk c r (l + 1) q1 (s + u) (2 * w + u) (uG n l u)) = .inr (p', s', n') ∧ _)
      have nv : ¬ v = -1 := by rw [r3]; exact ne1 (by omega)
      obtain ⟨x2, e2, F2, f2⟩ := x_ref (X := X) (B := B) (w0 := w0) r4 (by omega)
      rw [show (6, q1 - 1) = (6, p) by rw [hq.1]; rfl] at f2
      have e55 : fX8_readCounts_55 X (B + 40) (rg_p lX B w0 x1) = some (0, rg_p lX B w0 x2) := by
        unfold fX8_readCounts_55
        exact ob_v (rg_O rfl) (ob_v e2 rfl)
      have st : ∀ z, (if (256 : Int32) < nI (s + u) then fX8_readCounts_55 X (B + 40) (rg_p lX B w0 x1) else if nI (2 * w + u) < nI (2 ^ l) then (gR (rg_p lX B w0 x1) (B + (55 + 5 * t)) 10 0).bind fun v24 => (sN id (rg_p lX B w0 x1) 0 v24 (nI l) (nI u)).bind fun w25 => fX8_readCounts_7 X M (B + 40) (B + (55 + 5 * t)) (nI (s + u)) (nI (2 * w + u)) (nI l + 1) w25 else fX8_readCounts_55 X (B + 40) (rg_p lX B w0 x1)) = z → fX8_readCounts_7 X (M + 1) (B + 40) (B + (55 + 5 * t)) (nI s) (nI w) (nI l) (rg_p lX B w0 x) = z := by
        intro z hz
        rw [fX8_readCounts_7.eq_2]
        refine ei_n (nI_nlt (a := 16) (by omega) (by omega)) (ob_v (rg_O rfl) (ob_v e1 (ei_n nv ?_)))
        dsimp only
        rw [r3, nI_add, show (2 : Int32) * nI w + nI u = nI (2 * w + u) from by rw [show (2 : Int32) = nI 2 from rfl, pk_mul, nI_add], pw_16 (by omega)]
        exact hz
      by_cases d1 : 256 < s + u
      · rw [if_pos (Or.inl d1)]
        exact ⟨0, x2, st _ (ei_t (nI_lt (a := 256) d1 (by omega)) e55), (F1.trans F2).t, Or.inl ⟨_, rfl, rfl, f2⟩⟩
      · by_cases d2 : 2 ^ l ≤ 2 * w + u
        · rw [if_pos (Or.inr d2)]
          exact ⟨0, x2, st _ (ei_n (nI_nlt (a := 256) (by omega) (by omega)) (ei_n (nI_nlt d2 (by omega)) e55)), (F1.trans F2).t, Or.inl ⟨_, rfl, rfl, f2⟩⟩
        · rw [if_neg (by omega)]
          have a1 := wd_a (t := t) (j := 1) ht (by decide) (by decide)
          rw [if_pos (by decide)] at a1
          have cg : ∀ j, j ≤ l - 1 → uG n l u j = n j := fun j hj => uG_n _ _ (by omega)
          have n1 : nx (uG n l u) (l - 1) = nx n (l - 1) := nx_cg _ cg
          have d1' : dn (uG n l u) (l - 1) = dn n (l - 1) := dn_cg _ cg
          have n2 : nx (uG n l u) l = 2 * w + u := by
            obtain ⟨m, rfl⟩ : ∃ m, l = m + 1 := ⟨l - 1, by omega⟩
            show 2 * nx (uG n (m + 1) u) m + uG n (m + 1) u (m + 1) = _
            rw [uG_s, hw]
            rw [show m + 1 - 1 = m by omega] at n1 ⊢
            rw [n1]
          have d2' : dn (uG n l u) l = s + u := by
            obtain ⟨m, rfl⟩ : ∃ m, l = m + 1 := ⟨l - 1, by omega⟩
            show dn (uG n (m + 1) u) m + uG n (m + 1) u (m + 1) = _
            rw [uG_s, hs]
            rw [show m + 1 - 1 = m by omega] at d1' ⊢
            rw [d1']
          obtain ⟨v3, x3, e3, F3, o3⟩ := ih (l + 1) q1 (s + u) (2 * w + u) M (uG n l u) (rg_wA x1 (55 + 5 * t + 1) (upd (x1.2.2.1 (55 + 5 * t + 1)) l (nI u))) (by omega) (by omega) (by omega) (by omega) (by rw [show l + 1 - 1 = l by omega]; exact d2'.symm) (by rw [show l + 1 - 1 = l by omega]; exact n2.symm) (by
            intro k hk
            rcases Nat.lt_or_ge k l with z | z
            · rw [nx_cg k (fun j hj => cg j (by omega))]
              exact hn k (by omega)
            · rw [show k = l by omega, n2]
              omega) (by
            intro j
            by_cases z : j = l
            · rw [z, uG_s]
              omega
            · rw [uG_n _ _ z]
              exact hf j) (by omega) (by
            intro j ja jb
            rw [wA_s]
            by_cases z : j = l
            · rw [z, pk_us, uG_s]
            · rw [pk_un z, uG_n _ _ z, F1.2]
              exact hc j ja (by omega)) (r4.w (by omega))
          refine ⟨v3, x3, st _ (ei_n (nI_nlt (a := 256) (by omega) (by omega)) (ei_t (nI_lt (by omega) (by omega)) (ob_v (rg_C wo rfl) (ob_v (rg_sA id a1 (by decide) _ _ (by omega) (by decide)) ?_)))), F1.t.trans ((FXt.wA (by omega)).trans F3), o3⟩
          rw [nI_1]
          exact e3
theorem x_sk {m most : Nat} (ht : t < 8) (hm : m ≤ 256) (hmo : most < 256) : ∀ (r p M : Nat) (S : List Nat) (x : rg_S), S.length + r = m → r < M → kX x c p → (∀ s, s < 256 → x.2.2.1 54 s = if s ∈ S then 1 else 0) → (∀ j, j < S.length → x.2.2.1 (55 + 5 * t + 4) j = nI (S.getD j 0)) → ∃ v x', fX8_readSymbols_27 X M (B + 40) (B + (55 + 5 * t)) (nI most) (nI m) (nI S.length) (rg_p lX B w0 x) = some (v, rg_p lX B w0 x') ∧ FXys t x x' ∧ ((∃ f, sgSk c most r p S = .inl f ∧ v = 0 ∧ ftX x' f) ∨ ∃ p' S', sgSk c most r p S = .inr (p', S') ∧ v = 1 ∧ kX x' c p' ∧ ∀ j, j < m → x'.2.2.1 (55 + 5 * t + 4) j = nI (S'.getD j 0)) := by
  have wo := wd_o ht
  have a4 := wd_a (t := t) (j := 4) ht (by decide) (by decide)
  rw [if_neg (by decide)] at a4
  intro r
  induction r with
  | zero =>
    intro p M S x hl hM h hu hs
    obtain ⟨M, rfl⟩ : ∃ M', M = M' + 1 := ⟨M - 1, by omega⟩
    refine ⟨1, x, ?_, FXys.rfl, Or.inr ⟨p, S, rfl, rfl, h, fun j hj => hs j (by omega)⟩⟩
    rw [fX8_readSymbols_27.eq_2]
    exact ei_t (nI_le (by omega) (by omega)) rfl
  | succ r ih =>
    intro p M S x hl hM h hu hs
    obtain ⟨M, rfl⟩ : ∃ M', M = M' + 1 := ⟨M - 1, by omega⟩
    obtain ⟨v, x1, e1, F1, o1⟩ := x_in (X := X) (B := B) (w0 := w0) (lo := 0) (hi := most) h (by omega) (by omega)
    unfold sgSk
    rcases o1 with ⟨f, r1, r2, r3⟩ | ⟨u, q1, r1, r2, r3, r4⟩
    · rw [r1]
      refine ⟨0, x1, ?_, F1.y, Or.inl ⟨f, rfl, rfl, r3⟩⟩
      rw [fX8_readSymbols_27.eq_2]
      exact ei_n (nI_ge (by omega) (by omega)) (ob_v (rg_O rfl) (ob_v e1 (ei_t r2 rfl)))
    · have hq := sgI_p r1
      rw [r1]
      show ∃ v x', _ ∧ _ ∧ ((∃ f, (if u ∈ S then .inl (6, p) else sgSk c most r q1 (S ++ [u])) = .inl f ∧ _) ∨ ∃ p' S', (if u ∈ S then .inl (6, p) else sgSk c most r q1 (S ++ [u])) = .inr (p', S') ∧ _)
      have nv : ¬ v = -1 := by rw [r3]; exact ne1 (by omega)
      have hu1 := hu u (by omega)
      have st : ∀ z, (if x1.2.2.1 54 u = 0 then (gR (rg_p lX B w0 x1) (B + 40) 8 19).bind fun v26 => (sN id (rg_p lX B w0 x1) 0 v26 (nI u) 1).bind fun w27 => (gR w27 (B + (55 + 5 * t)) 10 3).bind fun v28 => (sN id w27 0 v28 (nI S.length) (nI u)).bind fun w29 => fX8_readSymbols_27 X M (B + 40) (B + (55 + 5 * t)) (nI most) (nI m) (nI S.length + 1) w29 else fX8_readSymbols_59 X (B + 40) (rg_p lX B w0 x1)) = z → fX8_readSymbols_27 X (M + 1) (B + 40) (B + (55 + 5 * t)) (nI most) (nI m) (nI S.length) (rg_p lX B w0 x) = z := by
        intro z hz
        rw [fX8_readSymbols_27.eq_2]
        refine ei_n (nI_ge (by omega) (by omega)) (ob_v (rg_O rfl) (ob_v e1 (ei_n nv (ob_v (rg_C rfl rfl) ?_))))
        dsimp only
        rw [r3]
        exact ob_v (rg_A rfl (by decide) _ (by omega) (by decide)) hz
      rw [F1.2] at st
      rw [hu1] at st
      by_cases d : u ∈ S
      · obtain ⟨x2, e2, F2, f2⟩ := x_ref (X := X) (B := B) (w0 := w0) r4 (by omega)
        rw [show (6, q1 - 1) = (6, p) by rw [hq.1]; rfl] at f2
        rw [if_pos d] at st ⊢
        refine ⟨0, x2, st _ (ei_n (by decide) ?_), (F1.trans F2).y, Or.inl ⟨_, rfl, rfl, f2⟩⟩
        unfold fX8_readSymbols_59
        exact ob_v (rg_O rfl) (ob_v e2 rfl)
      · rw [if_neg d] at st ⊢
        have gl : (S ++ [u]).length = S.length + 1 := by rw [List.length_append]; rfl
        generalize hx2 : rg_wA (rg_wA x1 54 (upd (x1.2.2.1 54) u 1)) (55 + 5 * t + 4) (upd (x1.2.2.1 (55 + 5 * t + 4)) S.length (nI u)) = x2
        have F2 : FXys t x1 x2 := by
          rw [← hx2]
          exact (FXys.wA (Or.inl rfl)).trans (FXys.wA (by omega))
        obtain ⟨v3, x3, e3, F3, o3⟩ := ih q1 M (S ++ [u]) x2 (by omega) (by omega) (by rw [← hx2]; exact (r4.w (by decide)).w (by omega)) (by
          intro s hs2
          rw [← hx2, wA_n _ _ (by omega), wA_s]
          by_cases z : s = u
          · rw [z, pk_us, if_pos (List.mem_append_right _ (List.mem_singleton.mpr rfl))]
          · rw [pk_un z, F1.2, hu s hs2]
            by_cases zz : s ∈ S
            · rw [if_pos zz, if_pos (List.mem_append_left _ zz)]
            · rw [if_neg zz, if_neg (fun e => (List.mem_append.mp e).elim zz (fun e2 => z (List.mem_singleton.mp e2)))]) (by
          intro j hj
          rw [← hx2, wA_s]
          by_cases z : j = S.length
          · rw [z, pk_us, List.getD_eq_getElem?_getD, List.getElem?_append_right (Nat.le_refl _), Nat.sub_self]
            rfl
          · rw [pk_un z, F1.2, hs j (by omega), List.getD_eq_getElem?_getD, List.getD_eq_getElem?_getD, List.getElem?_append_left (by omega)])
        refine ⟨v3, x3, st _ (ei_t rfl (ob_v (rg_C rfl rfl) (ob_v (rg_sA id rfl (by decide) _ _ (by omega) (by decide)) (ob_v (rg_C wo rfl) (ob_v (rg_sA id a4 (by decide) _ _ (by omega) (by decide)) ?_))))), F1.y.trans (F2.trans F3), o3⟩
        dsimp only [id]
        rw [wA_n _ _ (show 55 + 5 * t + 4 ≠ 54 by omega), hx2, nI_1, ← gl]
        exact e3
end
