/-! the law's loop -/
theorem op2_q {X : px_X} {B b : Nat} {α : Type} {F G : px_W → Option (α × px_W)} {x y : rg_S} (h : op2 X B b F G x y) : op2' B b F G x y := by
  obtain ⟨a, x', y', e1, e2, r⟩ := h
  exact fun w0 => ⟨a, x', e1 w0, fun w1 => ⟨y', e2 w1, r⟩⟩
theorem lw_cond {L i : Nat} (hL : L ≤ 3072) (hi : i ≤ 4000) : (nI L - 6 < nI i) ↔ L < i + 6 := by
  rw [iI_n, iI_n, show (6 : Int32) = iI 6 from rfl, iI_sub, iI_lt (by omega) (by omega) (by omega) (by omega)]
  omega
section
variable {X : px_X} {B b s L : Nat} {xs : Nat → Int32} {w0 : px_W} {x y : rg_S}
theorem lw_cm (hb : b = B + 199) (w0 : px_W) (x y : rg_S) : rg_p lX B (rg_p lM b w0 y) x = rg_p lM b (rg_p lX B w0 x) y := by
  refine rg_comm (fun q h1 h2 h3 => ?_)
  exfalso
  refine h3 (List.getElem?_eq_none ?_)
  rw [lxL_len]
  omega
theorem lw_gy {ks : List (Nat × Nat)} (hb : b = B + 199) (h : lM 0 = some (.inl (15, ks))) : gO (rg_p lX B (rg_p lM b w0 y) x) (b + 0) 15 = some (rg_vs b y 0 ks) := by
  rw [lw_cm hb]
  exact rg_O h
theorem lw_call {α : Type} {F G : px_W → Option (α × px_W)} (hb : b = B + 199) (h : op2' B b F G x y) (w0 : px_W) : ∃ a x' y', F (rg_p lX B (rg_p lM b w0 y) x) = some (a, rg_p lX B (rg_p lM b w0 y) x') ∧ G (rg_p lX B (rg_p lM b w0 y) x') = some (a, rg_p lX B (rg_p lM b w0 y') x') ∧ Rel x' y' := by
  obtain ⟨a, x', e1, h2⟩ := h (rg_p lM b w0 y)
  obtain ⟨y', e2, r⟩ := h2 (rg_p lX B w0 x')
  refine ⟨a, x', y', e1, ?_, r⟩
  rw [lw_cm hb, lw_cm hb]
  exact e2
theorem lw_call1 {F G : px_W → Option px_W} (hb : b = B + 199) (h : op1 X B b F G x y) (w0 : px_W) : ∃ x' y', F (rg_p lX B (rg_p lM b w0 y) x) = some (rg_p lX B (rg_p lM b w0 y) x') ∧ G (rg_p lX B (rg_p lM b w0 y) x') = some (rg_p lX B (rg_p lM b w0 y') x') ∧ Rel x' y' := by
  obtain ⟨x', y', e1, e2, r⟩ := h
  refine ⟨x', y', e1 _, ?_, r⟩
  rw [lw_cm hb, lw_cm hb]
  exact e2 _
theorem lw_ax (hs : X.2.2.2.2.1 s = some (L, xs)) (hL : L ≤ 3072) {j : Nat} (hj : j < L) : aX X s (nI j) = some (xs j) := by
  simp only [aX, hs, nI_clamp (show j < 2 ^ 31 by omega), nI_0le (show j < 2 ^ 31 by omega), hj, and_self, if_true]
theorem lw_loop (hst : px_st X) (hs : X.2.2.2.2.1 s = some (L, xs)) (hL : L ≤ 3072) (hb : b = B + 199) (w0 : px_W) : ∀ (r M i : Nat) (x y : rg_S), L < i + 6 * r → i ≤ L + 6 → r + 1 < M → Rel x y → ∃ x' y', fL_law_18 X M s (B + 0) (b + 0) (nI i) (rg_p lX B (rg_p lM b w0 y) x) = some (1, rg_p lX B (rg_p lM b w0 y') x') := by
  intro r
  induction r with
  | zero =>
    intro M i x y hr hi hM hR
    obtain ⟨M, rfl⟩ : ∃ M', M = M' + 1 := ⟨M - 1, by omega⟩
    refine ⟨x, y, ?_⟩
    rw [fL_law_18.eq_2]
    refine ob_v (v := nI L) (by simp only [aLX, hs]; rfl) (ei_t ((lw_cond hL (by omega)).mpr (by omega)) rfl)
  | succ r ih =>
    intro M i x y hr hi hM hR
    obtain ⟨M, rfl⟩ : ∃ M', M = M' + 1 := ⟨M - 1, by omega⟩
    by_cases c : L < i + 6
    · refine ⟨x, y, ?_⟩
      rw [fL_law_18.eq_2]
      exact ob_v (v := nI L) (by simp only [aLX, hs]; rfl) (ei_t ((lw_cond hL (by omega)).mpr c) rfl)
    have ih := fun x' y' (h : Rel x' y') => ih M (i + 6) x' y' (by omega) (by omega) (by omega) h
    have t0 : aX X s (nI i) = some (xs i) := lw_ax hs hL (by omega)
    have t1 : aX X s (nI i + 1) = some (xs (i + 1)) := by
      rw [show nI i + 1 = nI (i + 1) from nI_add i 1]
      exact lw_ax hs hL (by omega)
    have t2 : aX X s (nI i + 2) = some (xs (i + 2)) := by
      rw [show nI i + 2 = nI (i + 2) from nI_add i 2]
      exact lw_ax hs hL (by omega)
    have t3 : aX X s (nI i + 3) = some (xs (i + 3)) := by
      rw [show nI i + 3 = nI (i + 3) from nI_add i 3]
      exact lw_ax hs hL (by omega)
    have t4 : aX X s (nI i + 4) = some (xs (i + 4)) := by
      rw [show nI i + 4 = nI (i + 4) from nI_add i 4]
      exact lw_ax hs hL (by omega)
    have t5 : aX X s (nI i + 5) = some (xs (i + 5)) := by
      rw [show nI i + 5 = nI (i + 5) from nI_add i 5]
      exact lw_ax hs hL (by omega)
    have go : ∀ (x' y' : rg_S), Rel x' y' → ∃ x2 y2, fL_law_854 X (fL_law_18 X M) s (B + 0) (b + 0) (nI i) (rg_p lX B (rg_p lM b w0 y') x') = some (1, rg_p lX B (rg_p lM b w0 y2) x2) := by
      intro x' y' h
      obtain ⟨x2, y2, e⟩ := ih x' y' h
      refine ⟨x2, y2, ?_⟩
      unfold fL_law_854
      rw [show nI i + 6 = nI (i + 6) from nI_add i 6]
      exact e
    rw [fL_law_18.eq_2]
    have hd : ∀ z, ((aX X s (nI i)).bind z : Option (Int32 × px_W)) = z (xs i) := fun z => by rw [t0]; rfl
    have st : ∀ (z : Int32 → Option (Int32 × px_W)) (q : Option (Int32 × px_W)), z (xs i) = q → ((aLX X s).bind fun v177 => if v177 - 6 < nI i then some (1, rg_p lX B (rg_p lM b w0 y) x) else (aX X s (nI i)).bind z) = q := by
      intro z q hq
      exact ob_v (v := nI L) (by simp only [aLX, hs]; rfl) (ei_n (fun e => c ((lw_cond hL (by omega)).mp e)) (ob_v t0 hq))
    by_cases h0 : xs i &&& 31 = 0
    · obtain ⟨a, x', y', e1, e2, hR'⟩ := lw_call hb (op2_q (o_give (X := X) (B := B) (b := b) hR (((xs (i + 1)).toInt64 <<< ((32 : Int32).toInt64 &&& 63)) ||| ((xs (i + 2)).toInt64 &&& 4294967295)) (xs (i + 3)))) w0
      obtain ⟨x2, y2, e3⟩ := go x' y' hR'
      exact ⟨x2, y2, st _ _ (ei_t h0 (ob_v t1 (ob_v t2 (ob_v t3 (ob_v (rg_O rfl) (ob_v e1 (ob_v t1 (ob_v t2 (ob_v t3 (ob_v (lw_gy hb rfl) (ob_v e2 (ei_t rfl e3))))))))))))⟩
    by_cases h1 : xs i &&& 31 = 1
    · obtain ⟨x', y', e1, e2, hR'⟩ := lw_call1 hb (o_wipe (X := X) (B := B) (b := b) hR) w0
      obtain ⟨x2, y2, e3⟩ := go x' y' hR'
      exact ⟨x2, y2, st _ _ (ei_n h0 (ei_t h1 (ob_v (rg_O rfl) (ob_v e1 (ob_v (lw_gy hb rfl) (ob_v e2 e3))))))⟩
    by_cases h2 : xs i &&& 31 = 2
    · obtain ⟨x', y', e1, e2, hR'⟩ := lw_call1 hb (o_take (X := X) (B := B) (b := b) hR) w0
      obtain ⟨x2, y2, e3⟩ := go x' y' hR'
      exact ⟨x2, y2, st _ _ (ei_n h0 (ei_n h1 (ei_t h2 (ob_v (rg_O rfl) (ob_v e1 (ob_v (lw_gy hb rfl) (ob_v e2 e3)))))))⟩
    by_cases h3 : xs i &&& 31 = 3
    · obtain ⟨a, x', y', e1, e2, hR'⟩ := lw_call hb (o_open (X := X) (B := B) (b := b) hR) w0
      obtain ⟨x2, y2, e3⟩ := go x' y' hR'
      exact ⟨x2, y2, st _ _ (ei_n h0 (ei_n h1 (ei_n h2 (ei_t h3 (ob_v (rg_O rfl) (ob_v e1 (ob_v (lw_gy hb rfl) (ob_v e2 (ei_t rfl e3)))))))))⟩
    by_cases h4 : xs i &&& 31 = 4
    · obtain ⟨a, x', y', e1, e2, hR'⟩ := lw_call hb (o_save (X := X) (B := B) (b := b) hst hR (xs (i + 1)) (xs (i + 2))) w0
      obtain ⟨x2, y2, e3⟩ := go x' y' hR'
      exact ⟨x2, y2, st _ _ (ei_n h0 (ei_n h1 (ei_n h2 (ei_n h3 (ei_t h4 (ob_v t1 (ob_v t2 (ob_v (rg_O rfl) (ob_v e1 (ob_v t1 (ob_v t2 (ob_v (lw_gy hb rfl) (ob_v e2 (ei_t rfl e3))))))))))))))⟩
    by_cases h5 : xs i &&& 31 = 5
    · obtain ⟨a, x', y', e1, e2, hR'⟩ := lw_call hb (o_paint (X := X) (B := B) (b := b) hst hR (xs (i + 1)) (xs (i + 2)) (xs (i + 3)) (xs (i + 4)) (xs (i + 5))) w0
      obtain ⟨x2, y2, e3⟩ := go x' y' hR'
      exact ⟨x2, y2, st _ _ (ei_n h0 (ei_n h1 (ei_n h2 (ei_n h3 (ei_n h4 (ei_t h5 (ob_v t1 (ob_v t2 (ob_v t3 (ob_v t4 (ob_v t5 (ob_v (rg_O rfl) (ob_v e1 (ob_v t1 (ob_v t2 (ob_v t3 (ob_v t4 (ob_v t5 (ob_v (lw_gy hb rfl) (ob_v e2 (ei_t rfl e3)))))))))))))))))))))⟩
    by_cases h6 : xs i &&& 31 = 6
    · have sh : ∀ t : Int32, (∀ w q k18 A, (if xs (i + 2) = 0 then fL_law_359 X k18 s (B + 0) (b + 0) (nI i) 0 (xs (i + 1)) (b + 0) A w else fL_law_359 X k18 s (B + 0) (b + 0) (nI i) 1 (xs (i + 1)) (b + 0) A w) = q ↔ fL_law_359 X k18 s (B + 0) (b + 0) (nI i) t (xs (i + 1)) (b + 0) A w = q) → ∃ x2 y2, fL_law_337 X (fL_law_18 X M) s (B + 0) (b + 0) (nI i) t (xs (i + 1)) (B + 0) (rg_p lX B (rg_p lM b w0 y) x) = some (1, rg_p lX B (rg_p lM b w0 y2) x2) := by
        intro t ht
        obtain ⟨a, x', y', e1, e2, hR'⟩ := lw_call hb (o_show (X := X) (B := B) (b := b) hst hR (xs (i + 1)) t) w0
        obtain ⟨x2, y2, e3⟩ := go x' y' hR'
        refine ⟨x2, y2, ?_⟩
        unfold fL_law_337
        refine ob_v (rg_O rfl) (ob_v e1 (ob_v t1 (ob_v t2 ((ht _ _ _ _).mpr ?_))))
        unfold fL_law_359
        exact ob_v (lw_gy hb rfl) (ob_v e2 (ei_t rfl e3))
      by_cases z : xs (i + 2) = 0
      · obtain ⟨x2, y2, e⟩ := sh 0 (fun w q k18 A => by rw [if_pos z])
        exact ⟨x2, y2, st _ _ (ei_n h0 (ei_n h1 (ei_n h2 (ei_n h3 (ei_n h4 (ei_n h5 (ei_t h6 (ob_v t1 (ob_v t2 (ei_t z e))))))))))⟩
      · obtain ⟨x2, y2, e⟩ := sh 1 (fun w q k18 A => by rw [if_neg z])
        exact ⟨x2, y2, st _ _ (ei_n h0 (ei_n h1 (ei_n h2 (ei_n h3 (ei_n h4 (ei_n h5 (ei_t h6 (ob_v t1 (ob_v t2 (ei_n z e))))))))))⟩
    by_cases h7 : xs i &&& 31 = 7
    · obtain ⟨a, x', y', e1, e2, hR'⟩ := lw_call hb (op2_q (o_turn (X := X) (B := B) (b := b) hst hR (xs (i + 1)))) w0
      obtain ⟨x2, y2, e3⟩ := go x' y' hR'
      exact ⟨x2, y2, st _ _ (ei_n h0 (ei_n h1 (ei_n h2 (ei_n h3 (ei_n h4 (ei_n h5 (ei_n h6 (ei_t h7 (ob_v t1 (ob_v (rg_O rfl) (ob_v e1 (ob_v t1 (ob_v (lw_gy hb rfl) (ob_v e2 (ei_t rfl e3)))))))))))))))⟩
    by_cases h8 : xs i &&& 31 = 8
    · obtain ⟨a, x', y', e1, e2, hR'⟩ := lw_call hb (op2_q (o_crop (X := X) (B := B) (b := b) hst hR (xs (i + 1)) (xs (i + 2)) (xs (i + 3)) (xs (i + 4)))) w0
      obtain ⟨x2, y2, e3⟩ := go x' y' hR'
      exact ⟨x2, y2, st _ _ (ei_n h0 (ei_n h1 (ei_n h2 (ei_n h3 (ei_n h4 (ei_n h5 (ei_n h6 (ei_n h7 (ei_t h8 (ob_v t1 (ob_v t2 (ob_v t3 (ob_v t4 (ob_v (rg_O rfl) (ob_v e1 (ob_v t1 (ob_v t2 (ob_v t3 (ob_v t4 (ob_v (lw_gy hb rfl) (ob_v e2 (ei_t rfl e3))))))))))))))))))))))⟩
    by_cases h9 : xs i &&& 31 = 9
    · obtain ⟨a, x', y', e1, e2, hR'⟩ := lw_call hb (op2_q (o_set (X := X) (B := B) (b := b) hR (xs (i + 1)) (xs (i + 2)) (xs (i + 3)) (xs (i + 4)) (xs (i + 5)))) w0
      obtain ⟨x2, y2, e3⟩ := go x' y' hR'
      exact ⟨x2, y2, st _ _ (ei_n h0 (ei_n h1 (ei_n h2 (ei_n h3 (ei_n h4 (ei_n h5 (ei_n h6 (ei_n h7 (ei_n h8 (ei_t h9 (ob_v t1 (ob_v t2 (ob_v t3 (ob_v t4 (ob_v t5 (ob_v (rg_O rfl) (ob_v e1 (ob_v t1 (ob_v t2 (ob_v t3 (ob_v t4 (ob_v t5 (ob_v (lw_gy hb rfl) (ob_v e2 (ei_t rfl e3)))))))))))))))))))))))))⟩
    by_cases h10 : xs i &&& 31 = 10
    · obtain ⟨a, x', y', e1, e2, hR'⟩ := lw_call hb (op2_q (o_coef (X := X) (B := B) (b := b) hR (xs (i + 1)) (xs (i + 2)) (xs (i + 3)) (xs (i + 4)))) w0
      obtain ⟨x2, y2, e3⟩ := go x' y' hR'
      exact ⟨x2, y2, st _ _ (ei_n h0 (ei_n h1 (ei_n h2 (ei_n h3 (ei_n h4 (ei_n h5 (ei_n h6 (ei_n h7 (ei_n h8 (ei_n h9 (ei_t h10 (ob_v t1 (ob_v t2 (ob_v t3 (ob_v t4 (ob_v (rg_O rfl) (ob_v e1 (ob_v t1 (ob_v t2 (ob_v t3 (ob_v t4 (ob_v (lw_gy hb rfl) (ob_v e2 (ei_t rfl e3))))))))))))))))))))))))⟩
    by_cases h11 : xs i &&& 31 = 11
    · obtain ⟨a, x', y', e1, e2, hR'⟩ := lw_call hb (op2_q (o_step (X := X) (B := B) (b := b) hR (xs (i + 1)) (xs (i + 2)))) w0
      obtain ⟨x2, y2, e3⟩ := go x' y' hR'
      exact ⟨x2, y2, st _ _ (ei_n h0 (ei_n h1 (ei_n h2 (ei_n h3 (ei_n h4 (ei_n h5 (ei_n h6 (ei_n h7 (ei_n h8 (ei_n h9 (ei_n h10 (ei_t h11 (ob_v t1 (ob_v t2 (ob_v (rg_O rfl) (ob_v e1 (ob_v t1 (ob_v t2 (ob_v (lw_gy hb rfl) (ob_v e2 (ei_t rfl e3)))))))))))))))))))))⟩
    by_cases h12 : xs i &&& 31 = 12
    · obtain ⟨a, x', y', e1, e2, hR'⟩ := lw_call hb (op2_q (o_size (X := X) (B := B) (b := b) hR (xs (i + 1)) (xs (i + 2)) (xs (i + 3)))) w0
      obtain ⟨x2, y2, e3⟩ := go x' y' hR'
      exact ⟨x2, y2, st _ _ (ei_n h0 (ei_n h1 (ei_n h2 (ei_n h3 (ei_n h4 (ei_n h5 (ei_n h6 (ei_n h7 (ei_n h8 (ei_n h9 (ei_n h10 (ei_n h11 (ei_t h12 (ob_v t1 (ob_v t2 (ob_v t3 (ob_v (rg_O rfl) (ob_v e1 (ob_v t1 (ob_v t2 (ob_v t3 (ob_v (lw_gy hb rfl) (ob_v e2 (ei_t rfl e3))))))))))))))))))))))))⟩
    by_cases h13 : xs i &&& 31 = 13
    · obtain ⟨a, x', y', e1, e2, hR'⟩ := lw_call hb (op2_q (o_row (X := X) (B := B) (b := b) hR (xs (i + 1)) (xs (i + 2)) (xs (i + 3)) (((xs (i + 4)).toInt64 <<< ((32 : Int32).toInt64 &&& 63)) ||| ((xs (i + 5)).toInt64 &&& 4294967295)))) w0
      obtain ⟨x2, y2, e3⟩ := go x' y' hR'
      exact ⟨x2, y2, st _ _ (ei_n h0 (ei_n h1 (ei_n h2 (ei_n h3 (ei_n h4 (ei_n h5 (ei_n h6 (ei_n h7 (ei_n h8 (ei_n h9 (ei_n h10 (ei_n h11 (ei_n h12 (ei_t h13 (ob_v t1 (ob_v t2 (ob_v t3 (ob_v t4 (ob_v t5 (ob_v (rg_O rfl) (ob_v e1 (ob_v t1 (ob_v t2 (ob_v t3 (ob_v t4 (ob_v t5 (ob_v (lw_gy hb rfl) (ob_v e2 (ei_t rfl e3)))))))))))))))))))))))))))))⟩
    by_cases h14 : xs i &&& 31 = 14
    · obtain ⟨a, x', y', e1, e2, hR'⟩ := lw_call hb (op2_q (o_eight (X := X) (B := B) (b := b) hR (xs (i + 1)) (xs (i + 2)) (xs (i + 3)))) w0
      obtain ⟨x2, y2, e3⟩ := go x' y' hR'
      exact ⟨x2, y2, st _ _ (ei_n h0 (ei_n h1 (ei_n h2 (ei_n h3 (ei_n h4 (ei_n h5 (ei_n h6 (ei_n h7 (ei_n h8 (ei_n h9 (ei_n h10 (ei_n h11 (ei_n h12 (ei_n h13 (ei_t h14 (ob_v t1 (ob_v t2 (ob_v t3 (ob_v (rg_O rfl) (ob_v e1 (ob_v t1 (ob_v t2 (ob_v t3 (ob_v (lw_gy hb rfl) (ob_v e2 (ei_t ((lg_cmp_eq _ _).mpr rfl) e3))))))))))))))))))))))))))⟩
    by_cases h15 : xs i &&& 31 = 15
    · obtain ⟨a, x', y', e1, e2, hR'⟩ := lw_call hb (op2_q (o_mix (X := X) (B := B) (b := b) hR (xs (i + 1)))) w0
      obtain ⟨x2, y2, e3⟩ := go x' y' hR'
      exact ⟨x2, y2, st _ _ (ei_n h0 (ei_n h1 (ei_n h2 (ei_n h3 (ei_n h4 (ei_n h5 (ei_n h6 (ei_n h7 (ei_n h8 (ei_n h9 (ei_n h10 (ei_n h11 (ei_n h12 (ei_n h13 (ei_n h14 (ei_t h15 (ob_v t1 (ob_v (rg_O rfl) (ob_v e1 (ob_v t1 (ob_v (lw_gy hb rfl) (ob_v e2 (ei_t rfl e3)))))))))))))))))))))))⟩
    by_cases h16 : xs i &&& 31 = 16
    · obtain ⟨a, x', y', e1, e2, hR'⟩ := lw_call hb (op2_q (o_out (X := X) (B := B) (b := b) hR (xs (i + 1)))) w0
      obtain ⟨x2, y2, e3⟩ := go x' y' hR'
      exact ⟨x2, y2, st _ _ (ei_n h0 (ei_n h1 (ei_n h2 (ei_n h3 (ei_n h4 (ei_n h5 (ei_n h6 (ei_n h7 (ei_n h8 (ei_n h9 (ei_n h10 (ei_n h11 (ei_n h12 (ei_n h13 (ei_n h14 (ei_n h15 (ei_t h16 (ob_v t1 (ob_v (rg_O rfl) (ob_v e1 (ob_v t1 (ob_v (lw_gy hb rfl) (ob_v e2 (ei_t rfl e3))))))))))))))))))))))))⟩
    by_cases h17 : xs i &&& 31 = 17
    · obtain ⟨a, x', y', e1, e2, hR'⟩ := lw_call hb (op2_q (o_about (X := X) (B := B) (b := b) hR (xs (i + 1)))) w0
      obtain ⟨x2, y2, e3⟩ := go x' y' hR'
      exact ⟨x2, y2, st _ _ (ei_n h0 (ei_n h1 (ei_n h2 (ei_n h3 (ei_n h4 (ei_n h5 (ei_n h6 (ei_n h7 (ei_n h8 (ei_n h9 (ei_n h10 (ei_n h11 (ei_n h12 (ei_n h13 (ei_n h14 (ei_n h15 (ei_n h16 (ei_t h17 (ob_v t1 (ob_v (rg_O rfl) (ob_v e1 (ob_v t1 (ob_v (lw_gy hb rfl) (ob_v e2 (ei_t rfl e3)))))))))))))))))))))))))⟩
    by_cases h18 : xs i &&& 31 = 18
    · obtain ⟨a, x', y', e1, e2, hR'⟩ := lw_call hb (op2_q (o_status (X := X) (B := B) (b := b) hR (xs (i + 1)))) w0
      obtain ⟨x2, y2, e3⟩ := go x' y' hR'
      exact ⟨x2, y2, st _ _ (ei_n h0 (ei_n h1 (ei_n h2 (ei_n h3 (ei_n h4 (ei_n h5 (ei_n h6 (ei_n h7 (ei_n h8 (ei_n h9 (ei_n h10 (ei_n h11 (ei_n h12 (ei_n h13 (ei_n h14 (ei_n h15 (ei_n h16 (ei_n h17 (ei_t h18 (ob_v t1 (ob_v (rg_O rfl) (ob_v e1 (ob_v t1 (ob_v (lw_gy hb rfl) (ob_v e2 (ei_t rfl e3))))))))))))))))))))))))))⟩
    obtain ⟨x2, y2, e3⟩ := go x y hR
    exact ⟨x2, y2, st _ _ (ei_n h0 (ei_n h1 (ei_n h2 (ei_n h3 (ei_n h4 (ei_n h5 (ei_n h6 (ei_n h7 (ei_n h8 (ei_n h9 (ei_n h10 (ei_n h11 (ei_n h12 (ei_n h13 (ei_n h14 (ei_n h15 (ei_n h16 (ei_n h17 (ei_n h18 e3)))))))))))))))))))⟩
end
theorem nO_e (w : px_W) (ci N : Nat) (fs : List Value) : nO w ci N fs = some (w.2.1, px_ext w [.inr (ci, fs)] N) := by
  have e := ext_nO w [] 0 ci N fs
  rw [ext_nil] at e
  rw [e]
  show some (w.2.1, px_ext w [.inr (ci, fs)] (0 + N)) = _
  rw [Nat.zero_add]
theorem px_done : px_owed := by
  intro X s L xs hL hst hs
  generalize hw : ((fun _ => none, X.2.2.2.1, 0) : px_W) = w
  have hw1 : w.2.1 = X.2.2.2.1 := by rw [← hw]
  have hw2 : w.2.2 = 0 := by rw [← hw]
  generalize hB : w.2.1 = B at *
  obtain ⟨x2, y2, e⟩ := lw_loop (B := B) (b := B + 199) hst hs hL rfl (w.1, B + 199 + 78, w.2.2 + 104075 + 253584) 600 FU 0 x0 y1 (by omega) (by omega) (by unfold FU; omega) rel0
  refine ⟨rg_p lX B (rg_p lM (B + 199) (w.1, B + 199 + 78, w.2.2 + 104075 + 253584) y2) x2, ?_, ?_, ?_⟩
  · unfold fL_law
    refine ob_v (nO_e w 11 18 _) (ob_v (n_w11 hst w) (ob_v (nO_e (rg_p lX w.2.1 (w.1, w.2.1 + 199, w.2.2 + 104075) x0) 15 47 _) (ob_v (n_w15 (rg_p lX w.2.1 (w.1, w.2.1 + 199, w.2.2 + 104075) x0)) ?_)))
    rw [hB]
    refine Eq.trans ?_ e
    rw [lw_cm rfl]
    rfl
  · show B + 199 + 78 ≤ X.2.2.2.1 + 600000
    omega
  · show w.2.2 + 104075 + 253584 ≤ 7302249
    omega
