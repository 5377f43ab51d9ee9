/-! a whole scan told by the class -/
def preL (L0 : List Int32) (e : eS) : eS := (L0 ++ e.1, e.2)
theorem eb_pre (L0 : List Int32) (c : Nat) (e : eS) : eb c (preL L0 e) = preL L0 (eb c e) := by
  unfold eb preL
  dsimp only
  by_cases q : e.2.2 + 1 = 8
  · rw [if_pos q, if_pos q]
    by_cases r : 2 * e.2.1 + c = 255
    · rw [if_pos r, if_pos r, List.append_assoc, List.append_assoc, List.append_assoc]
    · rw [if_neg r, if_neg r, List.append_assoc]
  · rw [if_neg q, if_neg q]
theorem ebs_pre (L0 : List Int32) (v : Int32) : ∀ (n : Nat) (e : eS), ebs v n (preL L0 e) = preL L0 (ebs v n e) := by
  intro n
  induction n with
  | zero => intro e; rfl
  | succ n ih =>
    intro e
    show ebs v n (eb (vb v n) (preL L0 e)) = preL L0 (ebs v n (eb (vb v n) e))
    rw [eb_pre, ih]
theorem em_pre (L0 : List Int32) (cw cl : Nat → Nat → Nat) (v : ev) (e : eS) : em1 cw cl v (preL L0 e) = preL L0 (em1 cw cl v e) := by
  match v with
  | .inl p => exact ebs_pre L0 _ _ e
  | .inr (.inl p) => exact ebs_pre L0 _ _ e
  | .inr (.inr none) =>
    show al (preL L0 e) = preL L0 (al e)
    unfold al
    have e2 : (preL L0 e).2.2 = e.2.2 := rfl
    rw [e2]
    split
    · rfl
    · exact ebs_pre L0 _ _ e
  | .inr (.inr (some c)) =>
    show (L0 ++ e.1 ++ [bt 255] ++ [bt (nI c)], e.2) = (L0 ++ (e.1 ++ [bt 255] ++ [bt (nI c)]), e.2)
    rw [List.append_assoc, List.append_assoc, List.append_assoc]
theorem emit_pre (L0 : List Int32) (cw cl : Nat → Nat → Nat) (E : List ev) (e : eS) : emit 0 cw cl E (preL L0 e) = preL L0 (emit 0 cw cl E e) := by
  have k : ∀ (E : List ev) (e : eS), E.foldl (fun e v => em1 cw cl v e) (preL L0 e) = preL L0 (E.foldl (fun e v => em1 cw cl v e) e) := by
    intro E
    induction E with
    | nil => intro e; rfl
    | cons v E ih =>
      intro e
      show List.foldl _ (em1 cw cl v (preL L0 e)) E = preL L0 (List.foldl _ (em1 cw cl v e) E)
      rw [em_pre, ih]
  unfold emit
  rw [if_neg (by decide), if_neg (by decide)]
  exact k E e
/-- codes and lengths of the words of a list -/
def cwF (E : List ev) (t s : Nat) : Nat := (aW (bO (fF E t)) (gW (bC (fF E t))) 0 (fun _ => 0) (cn (fF E t) 256) s).toBitVec.toNat
def clF (E : List ev) (t s : Nat) : Nat := (aW (bO (fF E t)) (gL (bC (fF E t)) 16) 0 (fun _ => 0) (cn (fF E t) 256) s).toBitVec.toNat
theorem aW_at {S : List Nat} {g : Nat → Nat} {o : Nat} {Z : Nat → Int32} {s : Nat} : ∀ {d : Nat}, (∃ j, j < d ∧ S.getD j 0 = s) → ∃ j, j < d ∧ aW S g o Z d (o + s) = nI (g j) := by
  intro d
  induction d with
  | zero => intro ⟨j, hj, _⟩; exact absurd hj (Nat.not_lt_zero _)
  | succ d ih =>
    intro ⟨j, hj, e⟩
    rw [aW.eq_2]
    by_cases q : S.getD d 0 = s
    · rw [q, pk_us]
      exact ⟨d, Nat.lt_succ_self _, rfl⟩
    · rw [pk_un (by omega)]
      have hjd : j < d := by
        rcases Nat.lt_or_ge j d with l | l
        · exact l
        · exact absurd (by rw [← e, show j = d by omega]) q
      obtain ⟨i, hi, ei⟩ := ih ⟨j, hjd, e⟩
      exact ⟨i, by omega, ei⟩
theorem gL_b (c : Nat → Nat) (h0 : dn c 0 = 0) (i : Nat) : ∀ n, gL c n i ≤ n ∧ (1 ≤ n → 1 ≤ gL c n i)
  | 0 => ⟨Nat.le_refl _, fun h => absurd h (by decide)⟩
  | n + 1 => by
    have := gL_b c h0 i n
    rw [gL.eq_2]
    split
    · omega
    · rename_i q
      refine ⟨by omega, fun _ => ?_⟩
      rcases Nat.eq_zero_or_pos n with z | z
      · rw [z, h0] at q
        exact absurd (Nat.zero_le _) q
      · exact this.2 z
theorem clF_b {E : List ev} {t s : Nat} (hs : s < 256) (h : 0 < cnt E t s) : 1 ≤ clF E t s ∧ clF E t s ≤ 16 := by
  obtain ⟨j, hj, e⟩ := aW_at (g := gL (bC (fF E t)) 16) (o := 0) (Z := fun _ => 0) (bO_has (fF_256 E t) hs (by rw [fF_lt hs]; exact h))
  rw [Nat.zero_add] at e
  have b := gL_b (bC (fF E t)) rfl j 16
  unfold clF
  rw [e, pk_tn (by omega)]
  exact ⟨b.2 (by decide), b.1⟩
/-- what a scan adds to the file -/
def cmL (c0 : Nat) : Nat → List Int32
  | 0 => []
  | i + 1 => cmL c0 i ++ [bt (nI (c0 + i + 1)), bt (nI (17 * (c0 + i)))]
def hdL (p : scP) (c0 m : Nat) : List Int32 := sg 218 (4 + 2 * m) ++ [bt (nI m)] ++ cmL c0 m ++ [bt (nI p.1), bt (nI p.2.1), bt (nI (16 * p.2.2.1 + p.2.2.2))]
def dtL (E : List ev) : List Int32 := (emit 0 (cwF E) (clF E) E ([], 0, 0)).1
def scL (E : List ev) (p : scP) (c0 m : Nat) : List Int32 := wdS E p c0 m ++ hdL p c0 m ++ dtL E
/-- what a scan leaves alone in the class -/
def FXs (o : Nat) (x x' : rg_S) : Prop := (∀ p k, p ≤ 105 ∨ p = 106 ∧ 1 ≤ k ∧ k ≤ 4 → ¬ (p = o ∧ (k = 1 ∨ k = 2)) → x'.1 p k = x.1 p k) ∧ x'.2.1 = x.2.1 ∧ ∀ p, p < 105 → p ≠ o + 1 → x'.2.2.1 p = x.2.2.1 p
theorem FXs.rfl {o : Nat} {x : rg_S} : FXs o x x := ⟨fun _ _ _ _ => Eq.refl _, Eq.refl _, fun _ _ _ => Eq.refl _⟩
theorem FXs.trans {o : Nat} {x x1 x2 : rg_S} (h : FXs o x x1) (h2 : FXs o x1 x2) : FXs o x x2 := ⟨fun p k a c => (h2.1 p k a c).trans (h.1 p k a c), h2.2.1.trans h.2.1, fun p a c => (h2.2.2 p a c).trans (h.2.2 p a c)⟩
theorem FXo.s {o : Nat} {x x' : rg_S} (So : o = 3 ∨ o = 5) (h : FXo o x x') : FXs o x x' := ⟨fun p k _ hk => h.1 p k (by omega), h.2.1, fun p _ hp => h.2.2.1 p hp⟩
theorem FXq.s {o : Nat} {x x' : rg_S} (h : FXq x x') : FXs o x x' := ⟨fun p k hp _ => h.1 p k (by omega), h.2.1, fun p hp _ => h.2.2.1 p (by omega)⟩
theorem FXy.s {o : Nat} {x x' : rg_S} (h : FXy x x') : FXs o x x' := ⟨fun p k hp _ => h.1 p k (by omega), h.2.1, fun p hp _ => h.2.2 p (by omega)⟩
theorem FXw.s {o : Nat} {x x' : rg_S} (So : o = 3 ∨ o = 5) (h : FXw o x x') : FXs o x x' := ⟨fun p k hp hk => h.1 p k (by omega) hk, h.2.1, fun p hp hk => h.2.2.1 p hk (by omega) (by omega) (by omega) (fun t _ => by omega)⟩
theorem xBeg_s {o md : Nat} {x : rg_S} : FXs o x (xBeg x md) := by
  refine ⟨fun p k hp _ => ?_, rfl, fun p hp _ => ?_⟩
  · unfold xBeg
    rw [wA_1, wI_n _ _ (by omega), wI_n _ _ (by omega), wI_n _ _ (by omega)]
  · unfold xBeg
    rw [wA_n _ _ (by omega)]
    rfl
section
variable {X : px_X} {b B : Nat} {w0 w1 : px_W} {x x' x0 y : rg_S} {o n c0 m P iv N : Nat} {p : scP} {L : List Int32} {E : List ev} {g : gG} {Z : Nat → Int}
/-- members, and tables forgotten -/
def mbX (c0 i : Nat) (x0 x : rg_S) : Prop := (∀ p k, x.1 p k = x0.1 p k) ∧ x.2.1 = x0.2.1 ∧ (∀ p, p ≠ 107 → (∀ t, t < 8 → p ≠ 115 + 10 * t + 1) → x.2.2.1 p = x0.2.2.1 p) ∧ (∀ j, j < i → x.2.2.1 107 j = nI (c0 + j)) ∧ ∀ j s, j < i → s < 256 → x.2.2.1 (115 + 10 * (c0 + j) + 1) s = 0 ∧ x.2.2.1 (115 + 10 * (4 + c0 + j) + 1) s = 0
theorem x_forget {t : Nat} (ht : t < 8) : fX0_forget X (rg_p lX B w0 x) (B + (115 + 10 * t)) = some (rg_p lX B w0 (rg_wA x (115 + 10 * t + 1) fun i => if i < 256 then 0 else x.2.2.1 (115 + 10 * t + 1) i)) := by
  have hT : isT (115 + 10 * t) := ⟨t, ht, rfl⟩
  unfold fX0_forget
  exact ob_v (rg_C hT.o rfl) (ob_v (rg_fill hT.a1 (by decide) 0) rfl)
theorem x_m10 (hm : c0 + m ≤ 4) : ∀ (k M i : Nat) (x : rg_S), i + k = m → k < M → mbX c0 i x0 x → ∃ x', fX4_tellScan_10 X M (B + 105) (nI c0) (nI m) (nI i) (rg_p lX B w0 x) = fX4_tellScan_57 X (B + 105) (nI c0) (nI m) (rg_p lX B w0 x') ∧ mbX c0 m x0 x' := by
  intro k
  induction k with
  | zero =>
    intro M i x hi hM h
    obtain rfl : i = m := by omega
    obtain ⟨M, rfl⟩ : ∃ M', M = M' + 1 := ⟨M - 1, by omega⟩
    refine ⟨x, ?_, h⟩
    rw [fX4_tellScan_10.eq_2]
    exact ei_t (nI_le (Nat.le_refl _) (by omega)) rfl
  | succ k ih =>
    intro M i x hi hM h
    obtain ⟨M, rfl⟩ : ∃ M', M = M' + 1 := ⟨M - 1, by omega⟩
    generalize hx1 : rg_wA x 107 (upd (x.2.2.1 107) i (nI (c0 + i))) = x1
    generalize hx2 : rg_wA x1 (115 + 10 * (c0 + i) + 1) (fun j => if j < 256 then 0 else x1.2.2.1 (115 + 10 * (c0 + i) + 1) j) = x2
    generalize hx3 : rg_wA x2 (115 + 10 * (4 + c0 + i) + 1) (fun j => if j < 256 then 0 else x2.2.2.1 (115 + 10 * (4 + c0 + i) + 1) j) = x3
    have h3 : mbX c0 (i + 1) x0 x3 := by
      obtain ⟨q1, q2, q3, q4, q5⟩ := h
      rw [← hx3, ← hx2, ← hx1]
      refine ⟨q1, q2, fun p p1 p2 => ?_, fun j hj => ?_, fun j s hj hs => ⟨?_, ?_⟩⟩
      · rw [wA_n _ _ (p2 _ (by omega)), wA_n _ _ (p2 _ (by omega)), wA_n _ _ p1]
        exact q3 p p1 p2
      · rw [wA_n _ _ (by omega), wA_n _ _ (by omega), wA_s]
        by_cases e : j = i
        · rw [e, pk_us]
        · rw [pk_un e]
          exact q4 j (by omega)
      · rw [wA_n _ _ (by omega)]
        by_cases e : j = i
        · rw [e, wA_s, if_pos hs]
        · rw [wA_n _ _ (by omega), wA_n _ _ (by omega)]
          exact (q5 j s (by omega) hs).1
      · by_cases e : j = i
        · rw [e, wA_s, if_pos hs]
        · rw [wA_n _ _ (by omega), wA_n _ _ (by omega), wA_n _ _ (by omega)]
          exact (q5 j s (by omega) hs).2
    obtain ⟨x4, e4, h4⟩ := ih M (i + 1) x3 (by omega) (by omega) h3
    refine ⟨x4, ?_, h4⟩
    rw [fX4_tellScan_10.eq_2, nI_add, show (4 : Int32) + nI c0 + nI i = nI (4 + c0 + i) by rw [show (4 : Int32) = nI 4 from rfl, nI_add, nI_add]]
    refine ei_n (nI_ge (by omega) (by omega)) (ob_v (rg_C rfl rfl) (ob_v (rg_C rfl rfl) (ob_v (rg_sA _ rfl (by decide) _ _ (by omega) (by decide)) ?_)))
    rw [id, hx1]
    refine ob_v (rg_C rfl rfl) (ob_v (rg_Q rfl (by decide) (c0 + i) (by omega) (by decide) (if_pos (by omega))) (ob_v (rg_O (isT.o ⟨c0 + i, by omega, rfl⟩)) (ob_v (x_forget (by omega)) ?_)))
    rw [hx2]
    refine ob_v (rg_C rfl rfl) (ob_v (rg_Q rfl (by decide) (4 + c0 + i) (by omega) (by decide) (if_pos (by omega))) (ob_v (rg_O (isT.o ⟨4 + c0 + i, by omega, rfl⟩)) (ob_v (x_forget (by omega)) ?_)))
    rw [hx3, nI_1]
    exact e4
theorem x_c108 (So : o = 3 ∨ o = 5) (hm : c0 + m ≤ 4) : ∀ (k M i : Nat) (x : rg_S) (L : List Int32), i + k = m → k < M → x.2.1 105 0 = o → xO x o (L ++ cmL c0 i) → ∃ x', fX4_tellScan_108 X M (B + 105) (nI c0) (nI m) (nI (c0 + i)) (rg_p lX B w0 x) = fX4_tellScan_142 X (B + 105) (rg_p lX B w0 x') ∧ xO x' o (L ++ cmL c0 m) ∧ FXo o x x' := by
  have hby : isBy o := Or.inr So
  intro k
  induction k with
  | zero =>
    intro M i x L hi hM hR h
    obtain rfl : i = m := by omega
    obtain ⟨M, rfl⟩ : ∃ M', M = M' + 1 := ⟨M - 1, by omega⟩
    refine ⟨x, ?_, h, FXo.rfl⟩
    rw [fX4_tellScan_108.eq_2, nI_add]
    exact ei_t (nI_le (Nat.le_refl _) (by omega)) rfl
  | succ k ih =>
    intro M i x L hi hM hR h
    obtain ⟨M, rfl⟩ : ∃ M', M = M' + 1 := ⟨M - 1, by omega⟩
    obtain ⟨x1, e1, h1, F1⟩ := x_oadd (X := X) (B := B) (w0 := w0) hby h (nI (c0 + i + 1))
    obtain ⟨x2, e2, h2, F2⟩ := x_oadd (X := X) (B := B) (w0 := w0) hby h1 (nI (17 * (c0 + i)))
    rw [List.append_assoc, List.append_assoc, show cmL c0 i ++ ([bt (nI (c0 + i + 1))] ++ [bt (nI (17 * (c0 + i)))]) = cmL c0 (i + 1) from rfl] at h2
    obtain ⟨x3, e3, h3, F3⟩ := ih M (i + 1) x2 L (by omega) (by omega) (by rw [F2.2.1, F1.2.1]; exact hR) h2
    refine ⟨x3, ?_, h3, FXo.trans F1 (FXo.trans F2 F3)⟩
    rw [fX4_tellScan_108.eq_2, nI_add, show (17 : Int32) * nI (c0 + i) = nI (17 * (c0 + i)) from pk_mul 17 _, nI_1]
    exact ei_n (nI_ge (by omega) (by omega)) (ob_v (gOut hR) (ob_v (rg_O hby.o) (ob_v e1 (ob_v (gOut (by rw [F1.2.1]; exact hR)) (ob_v (rg_O hby.o) (ob_v e2 e3))))))
end
