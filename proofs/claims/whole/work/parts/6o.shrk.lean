/-! shrink on both sides -/
def skI (a c w h : Nat) (I : Nat → Nat → Int32) (i j : Nat) : Int32 := if a = 0 then (if c = 0 then I i j else (I i (clampZ (2 * j : Nat) h) + I i (clampZ (2 * j + 1 : Nat) h) + nI (j % 2)) >>> (1 &&& 31)) else if c = 0 then (I (clampZ (2 * i : Nat) w) j + I (clampZ (2 * i + 1 : Nat) w) j + nI (i % 2)) >>> (1 &&& 31) else (I (clampZ (2 * i : Nat) w) (clampZ (2 * j : Nat) h) + I (clampZ (2 * i + 1 : Nat) w) (clampZ (2 * j : Nat) h) + I (clampZ (2 * i : Nat) w) (clampZ (2 * j + 1 : Nat) h) + I (clampZ (2 * i + 1 : Nat) w) (clampZ (2 * j + 1 : Nat) h) + 1 + nI (i % 2)) >>> (2 &&& 31)
def skW (a w : Nat) : Nat := if a = 0 then w else gUp w 2
theorem skW_in {a w m : Nat} (h1 : 1 ≤ w) (h2 : w ≤ m) : 1 ≤ skW a w ∧ skW a w ≤ m := by
  unfold skW gUp
  split <;> omega
theorem nI_2 (u : Nat) : (2 : Int32) * nI u = nI (2 * u) := pk_mul 2 u
section
variable {X : px_X} {b B : Nat} {w0 w1 : px_W} {x y : rg_S} {P Q n : Nat} {I : Nat → Nat → Int32}
theorem x_shat {p w h a c i j : Nat} (hp : p < 6) (hI : pI x p w h I) (ha : a < 2) (hc : c < 2) (hi : i < skW a w) (hj : j < skW c h) : fX3_shrunkAt X (rg_p lX B w0 x) (B + (24 + 2 * p)) (nI i) (nI j) (nI a) (nI c) = some (skI a c w h I i j, rg_p lX B w0 x) := by
  have b1 := (skW_in (a := a) hI.1 hI.2.1).2
  have b2 := (skW_in (a := c) hI.2.2.1 hI.2.2.2.1).2
  have nr : ∀ u v : Nat, u < 1000 → v < 1000 → fX3_nearest X (rg_p lX B w0 x) (B + (24 + 2 * p)) (nI u) (nI v) = some (I (clampZ u w) (clampZ v h), rg_p lX B w0 x) := fun u v hu hv => by
    rw [iI_n, iI_n]
    exact x_near hp hI (by omega) (by omega) (by omega) (by omega)
  have fa : ∀ n, n < 2 → (nI n = 0 ↔ n = 0) := fun n hn => nI_eq (b := 0) (by omega) (by omega)
  unfold fX3_shrunkAt fX3_shrunkAt_73
  rw [nI_2, nI_2, nI_1, nI_1]
  by_cases a0 : a = 0
  · have ei : clampZ (i : Int) w = i := clampZ_in (by unfold skW at hi; rw [if_pos a0] at hi; exact hi)
    refine ei_t ((fa a ha).mpr a0) (ei_t ((fa a ha).mpr a0) ?_)
    unfold skI
    rw [if_pos a0]
    by_cases c0 : c = 0
    · have ej : clampZ (j : Int) h = j := clampZ_in (by unfold skW at hj; rw [if_pos c0] at hj; exact hj)
      refine ei_t ((fa c hc).mpr c0) (ob_v (rg_O (pl_o hp)) (ob_v (nr _ _ (by omega) (by omega)) ?_))
      rw [if_pos c0, ei, ej]
    · refine ei_n (fun e => c0 ((fa c hc).mp e)) (ob_v (rg_O (pl_o hp)) (ob_v (nr _ _ (by omega) (by omega)) (ob_v (rg_O (pl_o hp)) (ob_v (nr _ _ (by omega) (by omega)) (ob_v (rI_n (d := 2) (by omega) (by decide) (by decide)) ?_)))))
      rw [if_neg c0, ei]
  · refine ei_n (fun e => a0 ((fa a ha).mp e)) ?_
    unfold skI
    rw [if_neg a0]
    by_cases c0 : c = 0
    · have ej : clampZ (j : Int) h = j := clampZ_in (by unfold skW at hj; rw [if_pos c0] at hj; exact hj)
      refine ei_t ((fa c hc).mpr c0) (ei_n (fun e => a0 ((fa a ha).mp e)) (ob_v (rg_O (pl_o hp)) (ob_v (nr _ _ (by omega) (by omega)) (ob_v (rg_O (pl_o hp)) (ob_v (nr _ _ (by omega) (by omega)) (ob_v (rI_n (d := 2) (by omega) (by decide) (by decide)) ?_))))))
      rw [if_pos c0, ej]
    · refine ei_n (fun e => c0 ((fa c hc).mp e)) (ob_v (rg_O (pl_o hp)) (ob_v (nr _ _ (by omega) (by omega)) (ob_v (rg_O (pl_o hp)) (ob_v (nr _ _ (by omega) (by omega)) (ob_v (rg_O (pl_o hp)) (ob_v (nr _ _ (by omega) (by omega)) (ob_v (rg_O (pl_o hp)) (ob_v (nr _ _ (by omega) (by omega)) (ob_v (rI_n (d := 2) (by omega) (by decide) (by decide)) ?_)))))))))
      rw [if_neg c0]
/-- the class' becomeShrunk: near (4) from a plane of the canvas -/
theorem x_shrunk {p w h a c : Nat} (hp : p < 4) (hI : pI x p w h I) (ha : a < 2) (hc : c < 2) : ∃ x', fX3_becomeShrunk X (rg_p lX B w0 x) (B + 32) (B + (24 + 2 * p)) (nI a) (nI c) = some (rg_p lX B w0 x') ∧ pI x' 4 (skW a w) (skW c h) (skI a c w h I) ∧ FS x x' := by
  have hI' := hI
  obtain ⟨q1, q2, q3, q4, q5, q6, q7⟩ := hI
  have sw := skW_in (a := a) q1 q2
  have sh := skW_in (a := c) q3 q4
  have fa : ∀ n, n < 2 → (nI n = 0 ↔ n = 0) := fun n hn => nI_eq (b := 0) (by omega) (by omega)
  generalize hW : skW a w = W at sw
  generalize hH : skW c h = H at sh
  generalize hV : skI a c w h I = V
  have hx1 : ∀ f, pI (rg_wA (rg_wI (rg_wI x 32 0 (nI W)) 32 1 (nI H)) 33 f) p w h I := fun f => ⟨q1, q2, q3, q4, by rw [wA_1, wI_n _ _ (by omega), wI_n _ _ (by omega)]; exact q5, by rw [wA_1, wI_n _ _ (by omega), wI_n _ _ (by omega)]; exact q6, fun i j hi hj => by rw [wA_n _ _ (by omega)]; exact q7 i j hi hj⟩
  refine ⟨rg_wA (rg_wI (rg_wI x 32 0 (nI W)) 32 1 (nI H)) 33 (fB 32 0 0 W H 0 V (x.2.2.1 33)), ?_, ⟨sw.1, sw.2, sh.1, sh.2, rfl, rfl, ?_⟩, ?_, rfl, ?_⟩
  · have loop : fX3_becomeShrunk_49 X FU (B + 32) (B + (24 + 2 * p)) (nI a) (nI c) 0 (rg_p lX B w0 (rg_wI (rg_wI x 32 0 (nI W)) 32 1 (nI H))) = some (rg_p lX B w0 (rg_wA (rg_wI (rg_wI x 32 0 (nI W)) 32 1 (nI H)) 33 (fB 32 0 0 W H 0 V (x.2.2.1 33)))) := by
      have e := rg_lpF (F := fun u (t : Int32 × px_W) => fX3_becomeShrunk_49 X u (B + 32) (B + (24 + 2 * p)) (nI a) (nI c) t.1 t.2) H (fun j => (nI j, rg_p lX B w0 (rg_wA (rg_wI (rg_wI x 32 0 (nI W)) 32 1 (nI H)) 33 (fB 32 0 0 W j 0 V (x.2.2.1 33))))) (r := some (rg_p lX B w0 (rg_wA (rg_wI (rg_wI x 32 0 (nI W)) 32 1 (nI H)) 33 (fB 32 0 0 W H 0 V (x.2.2.1 33))))) (by omega) ?_ ?_
      · refine Eq.trans ?_ e
        dsimp only
        rw [fB_0, show rg_wA (rg_wI (rg_wI x 32 0 (nI W)) 32 1 (nI H)) 33 (x.2.2.1 33) = rg_wI (rg_wI x 32 0 (nI W)) 32 1 (nI H) from wA_id rfl, nI_0]
      · intro m j hj
        dsimp only
        rw [fX3_becomeShrunk_49.eq_2]
        refine ob_v (rg_I rfl rfl) (ei_n (nI_ge hj (by omega)) ?_)
        refine rg_lpF (F := fun u (t : Int32 × px_W) => fX3_becomeShrunk_61 X (fX3_becomeShrunk_49 X m) u (B + 32) (B + (24 + 2 * p)) (nI a) (nI c) (nI j) t.1 t.2) W (fun i => (nI i, rg_p lX B w0 (rg_wA (rg_wI (rg_wI x 32 0 (nI W)) 32 1 (nI H)) 33 (fB 32 0 0 W j i V (x.2.2.1 33))))) (by omega) ?_ ?_
        · intro u i hi
          dsimp only
          rw [fX3_becomeShrunk_61.eq_2]
          refine ob_v (rg_I rfl rfl) (ei_n (nI_ge hi (by omega)) (ob_v (rg_C rfl rfl) (ob_v (x_shat (by omega) (hx1 _) ha hc (by rw [hW]; exact hi) (by rw [hH]; exact hj)) ?_)))
          dsimp only
          rw [show (32 : Int32) * nI j + nI i = nI (32 * (0 + j) + (0 + i)) by rw [show (32 : Int32) = nI 32 from rfl, pk_mul, nI_add, Nat.zero_add, Nat.zero_add]]
          refine ob_v (rg_sA _ rfl (by decide) _ _ (by omega) (by decide)) ?_
          rw [wA_wA, wA_s, id, nI_1, hV]
          have e := fB_s (W := 32) (ax := 0) (ay := 0) (n := W) (j := j) (i := i) (V := V) (Z := x.2.2.1 33) hi (by omega)
          rw [← e]
          rfl
        · intro u
          dsimp only
          rw [fX3_becomeShrunk_61.eq_2]
          refine ob_v (rg_I rfl rfl) (ei_t (nI_le (Nat.le_refl _) (by omega)) ?_)
          rw [fX3_becomeShrunk_99, nI_1, fB_row]
      · intro m
        dsimp only
        rw [fX3_becomeShrunk_49.eq_2]
        exact ob_v (rg_I rfl rfl) (ei_t (nI_le (Nat.le_refl _) (by omega)) rfl)
    have f20 : fX3_becomeShrunk_20 X (B + 32) (B + (24 + 2 * p)) (nI a) (nI c) (nI W) (B + 32) (rg_p lX B w0 x) = some (rg_p lX B w0 (rg_wA (rg_wI (rg_wI x 32 0 (nI W)) 32 1 (nI H)) 33 (fB 32 0 0 W H 0 V (x.2.2.1 33)))) := by
      unfold fX3_becomeShrunk_20 fX3_becomeShrunk_43
      refine ob_v (rg_pI rfl rfl _) ?_
      unfold skW at hH
      by_cases c0 : c = 0
      · rw [if_pos c0] at hH
        refine ei_t ((fa c hc).mpr c0) (ob_v (rg_I (pl_o (by omega)) rfl) ?_)
        rw [wI_n _ _ (by omega), q6, hH]
        exact ob_v (rg_pI rfl rfl _) loop
      · rw [if_neg c0] at hH
        refine ei_n (fun e => c0 ((fa c hc).mp e)) (ob_v (rg_I (pl_o (by omega)) rfl) ?_)
        rw [wI_n _ _ (by omega), q6]
        refine ob_v (x_up (d := 2) (by decide) (by omega)) ?_
        dsimp only
        rw [hH]
        exact ob_v (rg_pI rfl rfl _) loop
    unfold fX3_becomeShrunk
    unfold skW at hW
    by_cases a0 : a = 0
    · rw [if_pos a0] at hW
      refine ei_t ((fa a ha).mpr a0) (ob_v (rg_I (pl_o (by omega)) rfl) ?_)
      rw [q5, hW]
      exact f20
    · rw [if_neg a0] at hW
      refine ei_n (fun e => a0 ((fa a ha).mp e)) (ob_v (rg_I (pl_o (by omega)) rfl) ?_)
      rw [q5]
      refine ob_v (x_up (d := 2) (by decide) (by omega)) ?_
      dsimp only
      rw [hW]
      exact f20
  · intro i j hi hj
    show fB 32 0 0 W H 0 V (x.2.2.1 33) (32 * j + i) = _
    rw [fB_at (by omega), if_pos (by omega)]
    rfl
  · intro o k o1 o2
    rw [wA_1, wI_n _ _ (by omega), wI_n _ _ (by omega)]
  · intro o o1 o2
    rw [wA_n _ _ o1, wI_2, wI_2]
/-- the reference's shrink -/
theorem m_shrink {aw ah k a c : Nat} (hA : aI y aw ah I) (hk : k = 0 ∧ a = 1 ∧ c = 0 ∨ k = 1 ∧ a = 0 ∧ c = 1 ∨ k = 2 ∧ a = 1 ∧ c = 1) : ∃ y', fX15_shrink X (rg_p lM b w0 y) (b + 0) (nI k) = some (rg_p lM b w0 y') ∧ aI y' (skW a aw) (skW c ah) (skI a c aw ah I) ∧ FA y y' := by
  obtain ⟨q1, q2, q3, q4, q5, q6, q7⟩ := hA
  have sw := skW_in (a := a) q1 q2
  have sh := skW_in (a := c) q3 q4
  have fk : ∀ n, n < 3 → (nI k = nI n ↔ k = n) := fun n hn => nI_eq (by omega) (by omega)
  generalize hW : skW a aw = w at sw
  generalize hH : skW c ah = h at sh
  generalize hV : skI a c aw ah I = V
  have hm : w * h ≤ 66 * 66 := Nat.mul_le_mul sw.2 sh.2
  have hAw : ∀ f, aI (rg_wA y 76 f) aw ah I := fun f => ⟨q1, q2, q3, q4, q5, q6, q7⟩
  obtain ⟨y', e', hI', hF'⟩ := m_become (X := X) (b := b) (w0 := w0) (y := rg_wA y 76 (fB w 0 0 w h 0 V (y.2.2.1 76))) (I := V) sw.1 sw.2 sh.1 sh.2 (fun i j hi hj => by
    rw [wA_s, fB_at hi, if_pos (by omega)]
    rfl)
  have hF : FA y y' := by
    refine FA.trans ?_ hF'
    exact ⟨fun o k _ => rfl, rfl, fun o _ o2 => wA_n _ _ o2⟩
  refine ⟨y', ?_, hI', hF⟩
  have loop : fX15_shrink_44 X FU (b + 0) (nI k) (nI w) (nI h) 0 (rg_p lM b w0 y) = some (rg_p lM b w0 y') := by
    have e := rg_lpF (F := fun u (p : Int32 × px_W) => fX15_shrink_44 X u (b + 0) (nI k) (nI w) (nI h) p.1 p.2) h (fun j => (nI j, rg_p lM b w0 (rg_wA y 76 (fB w 0 0 w j 0 V (y.2.2.1 76))))) (r := some (rg_p lM b w0 y')) (by omega) ?_ ?_
    · refine Eq.trans ?_ e
      dsimp only
      rw [fB_0, wA_id rfl, nI_0]
    · intro m j hj
      dsimp only
      rw [fX15_shrink_44.eq_2]
      refine ei_n (nI_ge hj (by omega)) ?_
      refine rg_lpF (F := fun u (p : Int32 × px_W) => fX15_shrink_53 X (fX15_shrink_44 X m) u (b + 0) (nI k) (nI w) (nI h) (nI j) p.1 p.2) w (fun i => (nI i, rg_p lM b w0 (rg_wA y 76 (fB w 0 0 w j i V (y.2.2.1 76))))) (by omega) ?_ ?_
      · intro u i hi
        dsimp only
        have hr := row_lt hi hj
        have f213 : ∀ v, v = V i j → fX15_shrink_213 X (fX15_shrink_44 X m) (fX15_shrink_53 X (fX15_shrink_44 X m) u) (b + 0) (nI k) (nI w) (nI h) (nI j) (nI i) v (nI w * nI j + nI i) (b + 76) (rg_p lM b w0 (rg_wA y 76 (fB w 0 0 w j i V (y.2.2.1 76)))) = fX15_shrink_53 X (fX15_shrink_44 X m) u (b + 0) (nI k) (nI w) (nI h) (nI j) (nI (i + 1)) (rg_p lM b w0 (rg_wA y 76 (fB w 0 0 w j (i + 1) V (y.2.2.1 76)))) := by
          rintro v rfl
          unfold fX15_shrink_213
          rw [show nI w * nI j + nI i = nI (w * (0 + j) + (0 + i)) by rw [pk_mul, nI_add, Nat.zero_add, Nat.zero_add]]
          refine ob_v (rg_sA _ rfl (by decide) _ _ (by rw [Nat.zero_add, Nat.zero_add]; omega) (by decide)) ?_
          rw [wA_wA, wA_s, id, nI_1]
          have e := fB_s (W := w) (ax := 0) (ay := 0) (n := w) (j := j) (i := i) (V := V) (Z := y.2.2.1 76) hi (by omega)
          rw [← e]
          rfl
        have sm : ∀ (p q : Nat), p < 1000 → q < 1000 → fX15_sample X (rg_p lM b w0 (rg_wA y 76 (fB w 0 0 w j i V (y.2.2.1 76)))) (b + 0) (nI p) (nI q) = some (I (clampZ p aw) (clampZ q ah), rg_p lM b w0 (rg_wA y 76 (fB w 0 0 w j i V (y.2.2.1 76)))) := fun p q p1 p2 => by
          rw [iI_n, iI_n]
          exact m_smp (hAw _) (by omega) (by omega) (by omega) (by omega)
        rw [fX15_shrink_53.eq_2]
        refine ei_n (nI_ge hi (by omega)) (ob_v (rg_C rfl rfl) ?_)
        rw [nI_2, nI_2, nI_1, nI_1]
        rcases hk with ⟨k0, a0, c0⟩ | ⟨k0, a0, c0⟩ | ⟨k0, a0, c0⟩
        · refine ei_t ((fk 0 (by decide)).mpr k0) (ob_v (rg_O rfl) (ob_v (sm _ _ (by omega) (by omega)) (ob_v (rg_O rfl) (ob_v (sm _ _ (by omega) (by omega)) (ob_v (rI_n (d := 2) (by omega) (by decide) (by decide)) (f213 _ ?_))))))
          have ej : clampZ (j : Int) ah = j := clampZ_in (by unfold skW at hH; rw [if_pos c0] at hH; omega)
          rw [← hV]
          unfold skI
          rw [if_neg (by omega), if_pos c0, ej]
        · refine ei_n (fun e => by have := (fk 0 (by decide)).mp e; omega) (ei_t ((fk 1 (by decide)).mpr k0) (ob_v (rg_O rfl) (ob_v (sm _ _ (by omega) (by omega)) (ob_v (rg_O rfl) (ob_v (sm _ _ (by omega) (by omega)) (ob_v (rI_n (d := 2) (by omega) (by decide) (by decide)) (f213 _ ?_)))))))
          have ei : clampZ (i : Int) aw = i := clampZ_in (by unfold skW at hW; rw [if_pos a0] at hW; omega)
          rw [← hV]
          unfold skI
          rw [if_pos a0, if_neg (by omega), ei]
        · refine ei_n (fun e => by have := (fk 0 (by decide)).mp e; omega) (ei_n (fun e => by have := (fk 1 (by decide)).mp e; omega) (ob_v (rg_O rfl) (ob_v (sm _ _ (by omega) (by omega)) (ob_v (rg_O rfl) (ob_v (sm _ _ (by omega) (by omega)) (ob_v (rg_O rfl) (ob_v (sm _ _ (by omega) (by omega)) (ob_v (rg_O rfl) (ob_v (sm _ _ (by omega) (by omega)) (ob_v (rI_n (d := 2) (by omega) (by decide) (by decide)) (f213 _ ?_)))))))))))
          rw [← hV]
          unfold skI
          rw [if_neg (by omega), if_neg (by omega)]
      · intro u
        dsimp only
        rw [fX15_shrink_53.eq_2]
        refine ei_t (nI_le (Nat.le_refl _) (by omega)) ?_
        rw [fX15_shrink_220, nI_1, fB_row]
    · intro m
      dsimp only
      rw [fX15_shrink_44.eq_2]
      refine ei_t (nI_le (Nat.le_refl _) (by omega)) ?_
      unfold fX15_shrink_226
      exact ob_v (rg_O rfl) (ob_v e' rfl)
  have f20 : fX15_shrink_20 X (b + 0) (nI k) (nI w) (rg_p lM b w0 y) = some (rg_p lM b w0 y') := by
    unfold fX15_shrink_20 fX15_shrink_40
    unfold skW at hH
    by_cases k0 : k = 0
    · rw [if_pos (by omega)] at hH
      refine ei_t ((fk 0 (by decide)).mpr k0) (ob_v (rg_I rfl rfl) ?_)
      rw [q6, hH]
      exact loop
    · rw [if_neg (by omega)] at hH
      refine ei_n (fun e => k0 ((fk 0 (by decide)).mp e)) (ob_v (rg_I rfl rfl) ?_)
      rw [q6]
      refine ob_v (m_up (d := 2) (by decide) (by omega)) ?_
      dsimp only
      rw [hH]
      exact loop
  unfold fX15_shrink
  unfold skW at hW
  by_cases k1 : k = 1
  · rw [if_pos (by omega)] at hW
    refine ei_t ((fk 1 (by decide)).mpr k1) (ob_v (rg_I rfl rfl) ?_)
    rw [q5, hW]
    exact f20
  · rw [if_neg (by omega)] at hW
    refine ei_n (fun e => k1 ((fk 1 (by decide)).mp e)) (ob_v (rg_I rfl rfl) ?_)
    rw [q5]
    refine ob_v (m_up (d := 2) (by decide) (by omega)) ?_
    dsimp only
    rw [hW]
    exact f20
end
