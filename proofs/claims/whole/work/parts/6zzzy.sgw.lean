/-! word tables read by the class -/
def FXt (t : Nat) (x x' : rg_S) : Prop := (∀ p k, ¬ (p = 40 ∧ 6 ≤ k ∧ k ≤ 8) → p ≠ 55 + 5 * t → x'.1 p k = x.1 p k) ∧ x'.2.1 = x.2.1 ∧ (∀ a, a ≠ 54 → ¬ (56 + 5 * t ≤ a ∧ a ≤ 59 + 5 * t) → x'.2.2.1 a = x.2.2.1 a) ∧ x'.2.2.2 = x.2.2.2
theorem FXt.rfl {o : Nat} {x : rg_S} : FXt o x x := ⟨fun _ _ _ _ => Eq.refl _, Eq.refl _, fun _ _ _ => Eq.refl _, Eq.refl _⟩
theorem FXt.trans {o : Nat} {x x1 x2 : rg_S} (h : FXt o x x1) (h2 : FXt o x1 x2) : FXt o x x2 := ⟨fun p k a b => (h2.1 p k a b).trans (h.1 p k a b), h2.2.1.trans h.2.1, fun a e d => (h2.2.2.1 a e d).trans (h.2.2.1 a e d), h2.2.2.2.trans h.2.2.2⟩
theorem FXp.t {o : Nat} {x x' : rg_S} (h : FXp x x') : FXt o x x' := ⟨fun p k a _ => h.1 p k a, by rw [h.2], fun _ _ _ => by rw [h.2], by rw [h.2]⟩
theorem FXt.wA {o a : Nat} {x : rg_S} {f : Nat → Int32} (h : a = 54 ∨ 56 + 5 * o ≤ a ∧ a ≤ 59 + 5 * o) : FXt o x (rg_wA x a f) := ⟨fun _ _ _ _ => Eq.refl _, Eq.refl _, fun _ _ _ => wA_n _ _ (by omega), Eq.refl _⟩
theorem FXt.wI {o k : Nat} {x : rg_S} {v : Int32} : FXt o x (rg_wI x (55 + 5 * o) k v) := ⟨fun p k' _ b => wI_n _ _ (Or.inl b), Eq.refl _, fun _ _ _ => Eq.refl _, Eq.refl _⟩
def FXws (x x' : rg_S) : Prop := (∀ p k, ¬ (p = 40 ∧ 6 ≤ k ∧ k ≤ 8) → ¬ (55 ≤ p ∧ p ≤ 94) → x'.1 p k = x.1 p k) ∧ x'.2.1 = x.2.1 ∧ (∀ a, ¬ (54 ≤ a ∧ a ≤ 94) → x'.2.2.1 a = x.2.2.1 a) ∧ x'.2.2.2 = x.2.2.2
theorem FXws.rfl {x : rg_S} : FXws x x := ⟨fun _ _ _ _ => Eq.refl _, Eq.refl _, fun _ _ => Eq.refl _, Eq.refl _⟩
theorem FXws.trans {x x1 x2 : rg_S} (h : FXws x x1) (h2 : FXws x1 x2) : FXws x x2 := ⟨fun p k a b => (h2.1 p k a b).trans (h.1 p k a b), h2.2.1.trans h.2.1, fun a e => (h2.2.2.1 a e).trans (h.2.2.1 a e), h2.2.2.2.trans h.2.2.2⟩
theorem FXt.w {t : Nat} {x x' : rg_S} (ht : t < 8) (h : FXt t x x') : FXws x x' := ⟨fun p k a b => h.1 p k a (by omega), h.2.1, fun a e => h.2.2.1 a (by omega) (by omega), h.2.2.2⟩
theorem FXp.w {x x' : rg_S} (h : FXp x x') : FXws x x' := ⟨fun p k a _ => h.1 p k a, by rw [h.2], fun _ _ => by rw [h.2], by rw [h.2]⟩
def wsX (x : rg_S) (T : sgW) : Prop := ∀ t, t < 8 → (T t = none ∧ x.1 (55 + 5 * t) 4 = 0) ∨ ∃ W, T t = some W ∧ tbOk W.1 W.2 W.2.length ∧ 0 < lgst W.1 16 ∧ wX x t W.1 W.2 W.2.length
theorem nx_cg {f g : Nat → Nat} : ∀ n, (∀ j, j ≤ n → f j = g j) → nx f n = nx g n
  | 0, _ => rfl
  | n + 1, h => by
    show 2 * nx f n + f (n + 1) = 2 * nx g n + g (n + 1)
    rw [nx_cg n (fun j hj => h j (by omega)), h (n + 1) (by omega)]
theorem dn_cg {f g : Nat → Nat} : ∀ n, (∀ j, j ≤ n → f j = g j) → dn f n = dn g n
  | 0, _ => rfl
  | n + 1, h => by
    show dn f n + f (n + 1) = dn g n + g (n + 1)
    rw [dn_cg n (fun j hj => h j (by omega)), h (n + 1) (by omega)]
theorem lgst_0 {f : Nat → Nat} : ∀ n, lgst f n = 0 → dn f n = 0
  | 0, _ => rfl
  | n + 1, h => by
    unfold lgst at h
    show dn f n + f (n + 1) = 0
    split at h
    · omega
    · rw [lgst_0 n h]
      omega
section
variable {c : sgC}
theorem sgCk_ok {p' s' : Nat} {f' : Nat → Nat} (hD : ∀ i, i < c.2.1 → c.1 i < 256) : ∀ (r l p s w : Nat) (f : Nat → Nat), l + r = 17 → 1 ≤ l → s = dn f (l - 1) → w = nx f (l - 1) → (∀ k, k ≤ l - 1 → nx f k < 2 ^ k) → (∀ j, f j ≤ 255) → s ≤ 256 → sgCk c r l p s w f = .inr (p', s', f') → (dn f' 16 = s' ∧ 0 < s' ∧ s' ≤ 256) ∧ (∀ k, k ≤ 16 → nx f' k < 2 ^ k) ∧ (∀ j, f' j ≤ 255) ∧ (∀ j, j < l → f' j = f j) ∧ p' = p + r := by
  intro r
  induction r with
  | zero =>
    intro l p s w f hl l1 hs hw hn hf s6 e
    obtain rfl : l = 17 := by omega
    unfold sgCk at e
    split at e
    · cases e
    · have := Sum.inr.inj e
      have e1 := congrArg Prod.fst this
      have e2 := congrArg (fun z => z.2.1) this
      have e3 := congrArg (fun z => z.2.2) this
      dsimp only at e1 e2 e3
      subst e1 e2 e3
      exact ⟨⟨hs.symm, by omega, s6⟩, hn, hf, fun _ _ => rfl, rfl⟩
  | succ r ih =>
    intro l p s w f hl l1 hs hw hn hf s6 e
    unfold sgCk at e
    cases e' : sgN c p with
    | inl q => rw [e'] at e; cases e
    | inr a =>
      obtain ⟨v, p1⟩ := a
      have hq := sgN_p e'
      rw [e'] at e
      have e : (if 256 < s + v ∨ 2 ^ l ≤ 2 * w + v then .inl (6, p) else sgCk c r (l + 1) p1 (s + v) (2 * w + v) (uG f l v)) = .inr (p', s', f') := e
      split at e
      · cases e
      · rename_i hc
        have hv : v < 256 := by rw [hq.2.2.2]; exact hD p hq.2.2.1
        have cg : ∀ j, j ≤ l - 1 → uG f l v j = f j := fun j hj => uG_n _ _ (by omega)
        have n1 : nx (uG f l v) (l - 1) = nx f (l - 1) := nx_cg _ cg
        have d1 : dn (uG f l v) (l - 1) = dn f (l - 1) := dn_cg _ cg
        have n2 : nx (uG f l v) l = 2 * w + v := by
          obtain ⟨m, rfl⟩ : ∃ m, l = m + 1 := ⟨l - 1, by omega⟩
          show 2 * nx (uG f (m + 1) v) m + uG f (m + 1) v (m + 1) = _
          rw [uG_s, hw]
          rw [show m + 1 - 1 = m by omega] at n1 ⊢
          rw [n1]
        have d2 : dn (uG f l v) l = s + v := by
          obtain ⟨m, rfl⟩ : ∃ m, l = m + 1 := ⟨l - 1, by omega⟩
          show dn (uG f (m + 1) v) m + uG f (m + 1) v (m + 1) = _
          rw [uG_s, hs]
          rw [show m + 1 - 1 = m by omega] at d1 ⊢
          rw [d1]
        obtain ⟨i1, i2, i3, i4, i5⟩ := ih (l + 1) p1 (s + v) (2 * w + v) (uG f l v) (by omega) (by omega) (by rw [show l + 1 - 1 = l by omega]; exact d2.symm) (by rw [show l + 1 - 1 = l by omega]; exact n2.symm) (by
          intro k hk
          rcases Nat.lt_or_ge k l with z | z
          · rw [nx_cg k (fun j hj => cg j (by omega))]
            exact hn k (by omega)
          · rw [show k = l by omega, n2]
            omega) (by
          intro j
          by_cases z : j = l
          · rw [z, uG_s]
            omega
          · rw [uG_n _ _ z]
            exact hf j) (by omega) e
        exact ⟨i1, i2, i3, fun j hj => (i4 j (by omega)).trans (uG_n _ _ (by omega)), by omega⟩
theorem sgSk_ok {most p' : Nat} {S' : List Nat} (hm : most < 256) : ∀ (r p : Nat) (S : List Nat), (∀ i, i < S.length → S.getD i 0 < 256) → (∀ i j, i < S.length → j < i → S.getD i 0 ≠ S.getD j 0) → sgSk c most r p S = .inr (p', S') → S'.length = S.length + r ∧ (∀ i, i < S'.length → S'.getD i 0 < 256) ∧ (∀ i j, i < S'.length → j < i → S'.getD i 0 ≠ S'.getD j 0) ∧ p' = p + r := by
  intro r
  induction r with
  | zero =>
    intro p S h1 h2 e
    have := Sum.inr.inj e
    have e1 := congrArg Prod.fst this
    have e2 := congrArg Prod.snd this
    dsimp only at e1 e2
    subst e1 e2
    exact ⟨rfl, h1, h2, rfl⟩
  | succ r ih =>
    intro p S h1 h2 e
    unfold sgSk at e
    cases e' : sgI c 0 most p with
    | inl q => rw [e'] at e; cases e
    | inr a =>
      obtain ⟨v, p1⟩ := a
      have hq := sgI_p e'
      rw [e'] at e
      have e : (if v ∈ S then .inl (6, p) else sgSk c most r p1 (S ++ [v])) = .inr (p', S') := e
      split at e
      · cases e
      · rename_i hc
        have g1 : ∀ i, i < S.length → (S ++ [v]).getD i 0 = S.getD i 0 := by
          intro i hi
          rw [List.getD_eq_getElem?_getD, List.getD_eq_getElem?_getD, List.getElem?_append_left hi]
        have g2 : (S ++ [v]).getD S.length 0 = v := by
          rw [List.getD_eq_getElem?_getD, List.getElem?_append_right (Nat.le_refl _), Nat.sub_self]
          rfl
        have gl : (S ++ [v]).length = S.length + 1 := by rw [List.length_append]; rfl
        have nm : ∀ j, j < S.length → S.getD j 0 ≠ v := by
          intro j hj e2
          apply hc
          rw [← e2, List.getD_eq_getElem?_getD, List.getElem?_eq_getElem hj]
          exact List.getElem_mem hj
        obtain ⟨i1, i2, i3, i4⟩ := ih p1 (S ++ [v]) (by
          intro i hi
          rcases Nat.lt_or_ge i S.length with z | z
          · rw [g1 i z]
            exact h1 i z
          · rw [show i = S.length by omega, g2]
            omega) (by
          intro i j hi hj
          rcases Nat.lt_or_ge i S.length with z | z
          · rw [g1 i z, g1 j (by omega)]
            exact h2 i j z hj
          · rw [show i = S.length by omega, g2, g1 j (by omega)]
            exact fun e2 => nm j (by omega) e2.symm) e
        exact ⟨by omega, i2, i3, by omega⟩
end
section
variable {X : px_X} {b B : Nat} {w0 w1 : px_W} {x x' : rg_S} {c : sgC} {p t : Nat} {f : sgF} {q : Nat → Nat}
theorem x_wset {n : Nat → Nat} (ht : t < 8) (hn : ∀ k, k ≤ 16 → nx n k < 2 ^ k) (hd : dn n 16 ≤ 256) (h255 : ∀ j, n j ≤ 255) (hc : ∀ l, 1 ≤ l → l ≤ 16 → x.2.2.1 (55 + 5 * t + 1) l = nI (n l)) : ∃ x', fX10_settle X (rg_p lX B w0 x) (B + (55 + 5 * t)) = some (rg_p lX B w0 x') ∧ FXt t x x' ∧ x'.1 (55 + 5 * t) 4 = nI (lgst n 16) ∧ (0 < lgst n 16 → x'.1 (55 + 5 * t) 5 = nI (nx n (lgst n 16) - 1)) ∧ (∀ l, 1 ≤ l → l ≤ 16 → x'.2.2.1 (55 + 5 * t + 1) l = nI (n l) ∧ x'.2.2.1 (55 + 5 * t + 2) l = nI (2 * nx n (l - 1)) ∧ x'.2.2.1 (55 + 5 * t + 3) l = nI (dn n (l - 1))) ∧ x'.1 40 6 = x.1 40 6 ∧ x'.1 40 8 = x.1 40 8 := by
  have wo := wd_o ht
  have key : ∀ (r l M : Nat) (x : rg_S), l + r = 17 → 1 ≤ l → r < M → (∀ l, 1 ≤ l → l ≤ 16 → x.2.2.1 (55 + 5 * t + 1) l = nI (n l)) → x.1 (55 + 5 * t) 4 = nI (lgst n (l - 1)) → (0 < lgst n (l - 1) → x.1 (55 + 5 * t) 5 = nI (nx n (lgst n (l - 1)) - 1)) → (∀ j, 1 ≤ j → j < l → x.2.2.1 (55 + 5 * t + 2) j = nI (2 * nx n (j - 1)) ∧ x.2.2.1 (55 + 5 * t + 3) j = nI (dn n (j - 1))) → ∃ x', fX10_settle_11 X M (B + (55 + 5 * t)) (nI (nx n (l - 1))) (nI (dn n (l - 1))) (nI l) (rg_p lX B w0 x) = some (rg_p lX B w0 x') ∧ FXt t x x' ∧ x'.1 (55 + 5 * t) 4 = nI (lgst n 16) ∧ (0 < lgst n 16 → x'.1 (55 + 5 * t) 5 = nI (nx n (lgst n 16) - 1)) ∧ (∀ l, 1 ≤ l → l ≤ 16 → x'.2.2.1 (55 + 5 * t + 1) l = nI (n l) ∧ x'.2.2.1 (55 + 5 * t + 2) l = nI (2 * nx n (l - 1)) ∧ x'.2.2.1 (55 + 5 * t + 3) l = nI (dn n (l - 1))) ∧ x'.1 40 6 = x.1 40 6 ∧ x'.1 40 8 = x.1 40 8 := by
    intro r
    induction r with
    | zero =>
      intro l M x hl l1 hM h1 h4 h5 h23
      obtain rfl : l = 17 := by omega
      obtain ⟨M, rfl⟩ : ∃ M', M = M' + 1 := ⟨M - 1, by omega⟩
      refine ⟨x, ?_, FXt.rfl, h4, h5, fun l a b => ⟨h1 l a b, h23 l a (by omega)⟩, rfl, rfl⟩
      rw [fX10_settle_11.eq_2]
      exact ei_t (by decide) rfl
    | succ r ih =>
      intro l M x hl l1 hM h1 h4 h5 h23
      obtain ⟨M, rfl⟩ : ∃ M', M = M' + 1 := ⟨M - 1, by omega⟩
      obtain ⟨m, rfl⟩ : ∃ m, l = m + 1 := ⟨l - 1, by omega⟩
      rw [show m + 1 - 1 = m by omega] at h4 h5 ⊢
      have hx : nx n (m + 1) = 2 * nx n m + n (m + 1) := rfl
      have hy : dn n (m + 1) = dn n m + n (m + 1) := rfl
      have hl1 : lgst n (m + 1) = if 0 < n (m + 1) then m + 1 else lgst n m := rfl
      have a2 := wd_a (t := t) (j := 2) ht (by decide) (by decide)
      have a3 := wd_a (t := t) (j := 3) ht (by decide) (by decide)
      have a1 := wd_a (t := t) (j := 1) ht (by decide) (by decide)
      rw [if_pos (by decide)] at a1 a2 a3
      have hnm := hn (m + 1) (by omega)
      have p16 : 2 ^ (m + 1) ≤ 2 ^ 16 := Nat.pow_le_pow_right (by decide) (by omega)
      have n55 := h255 (m + 1)
      generalize hx1 : rg_wA (rg_wA x (55 + 5 * t + 2) (upd (x.2.2.1 (55 + 5 * t + 2)) (m + 1) (nI (2 * nx n m)))) (55 + 5 * t + 3) (upd (x.2.2.1 (55 + 5 * t + 3)) (m + 1) (nI (dn n m))) = x1
      have F1 : FXt t x x1 := by
        rw [← hx1]
        exact (FXt.wA (by omega)).trans (FXt.wA (by omega))
      have c1 : ∀ l, 1 ≤ l → l ≤ 16 → x1.2.2.1 (55 + 5 * t + 1) l = nI (n l) := by
        rw [← hx1, wA_n _ _ (by omega), wA_n _ _ (by omega)]
        exact h1
      have c23 : ∀ j, 1 ≤ j → j < m + 1 + 1 → x1.2.2.1 (55 + 5 * t + 2) j = nI (2 * nx n (j - 1)) ∧ x1.2.2.1 (55 + 5 * t + 3) j = nI (dn n (j - 1)) := by
        intro j ja jb
        rw [← hx1, wA_n _ _ (show 55 + 5 * t + 2 ≠ 55 + 5 * t + 3 by omega), wA_s, wA_s]
        by_cases e : j = m + 1
        · rw [e, pk_us, pk_us, show m + 1 - 1 = m by omega]
          exact ⟨rfl, rfl⟩
        · rw [pk_un e, pk_un e]
          exact h23 j ja (by omega)
      have i1 : x1.1 = x.1 := by rw [← hx1]; rfl
      have st : ∀ z, (if nI (n (m + 1)) ≤ 0 then fX10_settle_74 X (fX10_settle_11 X M) (B + (55 + 5 * t)) (nI (nx n (m + 1))) (nI (dn n (m + 1))) (nI (m + 1)) (rg_p lX B w0 x1) else (pV (rg_p lX B w0 x1) (B + (55 + 5 * t)) 10 4 (.int (nI (m + 1)))).bind fun w26 => (pV w26 (B + (55 + 5 * t)) 10 5 (.int (nI (nx n (m + 1)) - 1))).bind fun w27 => fX10_settle_74 X (fX10_settle_11 X M) (B + (55 + 5 * t)) (nI (nx n (m + 1))) (nI (dn n (m + 1))) (nI (m + 1)) w27) = z → fX10_settle_11 X (M + 1) (B + (55 + 5 * t)) (nI (nx n m)) (nI (dn n m)) (nI (m + 1)) (rg_p lX B w0 x) = z := by
        intro z hz
        rw [fX10_settle_11.eq_2]
        refine ei_n (nI_nlt (a := 16) (by omega) (by omega)) (ob_v (rg_C wo rfl) ?_)
        rw [show nI (nx n m) * 2 = nI (2 * nx n m) from by rw [show (2 : Int32) = nI 2 from rfl, pk_mul, Nat.mul_comm]]
        refine ob_v (rg_sA id a2 (by decide) _ _ (by omega) (by decide)) (ob_v (rg_C wo rfl) (ob_v (rg_sA id a3 (by decide) _ _ (by omega) (by decide)) ?_))
        dsimp only [id]
        rw [wA_n _ _ (show 55 + 5 * t + 3 ≠ 55 + 5 * t + 2 by omega), hx1]
        refine ob_v (rg_C wo rfl) (ob_v (rg_A a1 (by decide) _ (by omega) (by decide)) (ob_v (rg_C wo rfl) (ob_v (rg_A a1 (by decide) _ (by omega) (by decide)) (ob_v (rg_C wo rfl) (ob_v (rg_A a1 (by decide) _ (by omega) (by decide)) ?_)))))
        rw [c1 (m + 1) (by omega) (by omega), nI_add, nI_add, ← hx, ← hy]
        exact hz
      by_cases n0 : n (m + 1) = 0
      · have el : lgst n (m + 1) = lgst n m := by rw [hl1, if_neg (by omega)]
        obtain ⟨x2, e2, F2, o2⟩ := ih (m + 1 + 1) M x1 (by omega) (by omega) (by omega) c1 (by rw [i1, show m + 1 + 1 - 1 = m + 1 by omega, el]; exact h4) (by rw [i1, show m + 1 + 1 - 1 = m + 1 by omega, el]; exact h5) c23
        rw [i1] at o2
        refine ⟨x2, st _ (ei_t (by rw [n0]; decide) ?_), F1.trans F2, o2⟩
        unfold fX10_settle_74
        rw [nI_1]
        exact e2
      · have el : lgst n (m + 1) = m + 1 := by rw [hl1, if_pos (by omega)]
        generalize hx2 : rg_wI (rg_wI x1 (55 + 5 * t) 4 (nI (m + 1))) (55 + 5 * t) 5 (nI (nx n (m + 1) - 1)) = x2
        have F2 : FXt t x1 x2 := by
          rw [← hx2]
          exact FXt.wI.trans FXt.wI
        have i2 : x2.2 = x1.2 := by rw [← hx2]; rfl
        obtain ⟨x3, e3, F3, o3⟩ := ih (m + 1 + 1) M x2 (by omega) (by omega) (by omega) (by rw [i2]; exact c1) (by rw [← hx2, wI_n _ _ (by omega), wI_s, show m + 1 + 1 - 1 = m + 1 by omega, el]) (by intro _; rw [← hx2, wI_s, show m + 1 + 1 - 1 = m + 1 by omega, el]) (by rw [i2]; exact c23)
        have k6 : x2.1 40 6 = x.1 40 6 := by rw [← hx2, wI_n _ _ (by omega), wI_n _ _ (by omega), i1]
        have k8 : x2.1 40 8 = x.1 40 8 := by rw [← hx2, wI_n _ _ (by omega), wI_n _ _ (by omega), i1]
        rw [k6, k8] at o3
        refine ⟨x3, st _ (ei_n (nI_nle (by omega) (by omega)) (ob_v (rg_pI wo rfl _) ?_)), (F1.trans F2).trans F3, o3⟩
        rw [show nI (nx n (m + 1)) - 1 = nI (nx n (m + 1) - 1) from pk_sub (b := 1) (by omega)]
        refine ob_v (rg_pI wo rfl _) ?_
        rw [hx2]
        unfold fX10_settle_74
        rw [nI_1]
        exact e3
  have F0 : FXt t x (rg_wI x (55 + 5 * t) 4 0) := FXt.wI
  obtain ⟨x', e, F, o⟩ := key 16 1 FU (rg_wI x (55 + 5 * t) 4 0) (by omega) (by omega) (by unfold FU; omega) hc (by rw [wI_s]; rfl) (fun e => absurd e (by show ¬ 0 < 0; decide)) (fun j a b => absurd b (by omega))
  rw [wI_n _ _ (by omega), wI_n _ _ (by omega)] at o
  refine ⟨x', ?_, F0.trans F, o⟩
  unfold fX10_settle
  exact ob_v (rg_pI wo rfl _) e
end
