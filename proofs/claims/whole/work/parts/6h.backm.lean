/-! the reference's way back, fit, grow -/
section
variable {X : px_X} {b B : Nat} {w0 w1 w : px_W} {x y : rg_S} {P Q n W : Nat} {G : Nat → Int64}
theorem m_bk_s {V : Nat → Nat → Int32} {Z : Nat → Int32} {ax ay i j M N : Nat} (h1 : 1 ≤ n) (h8 : n ≤ 8) (hV : ∀ i j, V i j = bk2 n G i j) (hJ : ∀ u j, u < n → j < n → y.2.2.2 77 (8 * j + u) = bk1 n G u j) (hW : y.1 0 44 = nI W) (hx : ax + n ≤ W) (hs : W * (ay + n) ≤ 4356) (hi : i < n) (hj : j < n) :
    fX15_back_156 X (fX15_back_135 X M) (fX15_back_144 X (fX15_back_135 X M) N) FU (b + 0) (nI n) (nI ax) (nI ay) (nI j) (nI i) 0 0 (rg_p lM b w0 (rg_wA y 75 (fB W ax ay n j i V Z))) = fX15_back_144 X (fX15_back_135 X M) N (b + 0) (nI n) (nI ax) (nI ay) (nI j) (nI (i + 1)) (rg_p lM b w0 (rg_wA y 75 (fB W ax ay n j (i + 1) V Z))) := by
  refine rg_lpF (F := fun u (t : Int64 × Int32) => fX15_back_156 X (fX15_back_135 X M) (fX15_back_144 X (fX15_back_135 X M) N) u (b + 0) (nI n) (nI ax) (nI ay) (nI j) (nI i) t.1 t.2 (rg_p lM b w0 (rg_wA y 75 (fB W ax ay n j i V Z)))) n (fun u => (sumL (fun u => (wvN n u i).toInt64 * bk1 n G u j) u, nI u)) (by omega) ?_ ?_
  · intro m u hu
    dsimp only
    rw [fX15_back_156.eq_2]
    refine ei_n (nI_ge hu (by omega)) (ob_v (m_wave h1 h8 hu hi) (ob_v (rg_C rfl rfl) ?_))
    rw [show (8 : Int32) * nI j + nI u = nI (8 * j + u) by rw [show (8 : Int32) = nI 8 from rfl, pk_mul, nI_add]]
    refine ob_v (rg_J rfl _ (by omega) (by decide)) ?_
    rw [wA_4, hJ u j hu hj, nI_1, sumL]
  · intro m
    dsimp only
    rw [fX15_back_156.eq_2]
    refine ei_t (nI_le (Nat.le_refl _) (by omega)) ?_
    unfold fX15_back_196
    refine ob_v (rg_C rfl rfl) (ob_v (rg_I rfl rfl) (ob_v (m_round _ _) (ob_v (limL_m _) ?_)))
    dsimp only
    have hrow : W * (ay + j) + (ax + i) < W * (ay + n) := row_lt (by omega) (by omega)
    rw [wA_1, hW, nI_add, pk_mul, nI_add, nI_add, Nat.add_assoc]
    refine ob_v (rg_sA _ rfl (by decide) _ _ (by omega) (by decide)) ?_
    rw [wA_wA, wA_s, id, nI_1]
    have e := fB_s (W := W) (ax := ax) (ay := ay) (n := n) (j := j) (i := i) (V := V) (Z := Z) hi hx
    rw [← e, hV]
    rfl
theorem m_bk_o {V : Nat → Nat → Int32} {ax ay : Nat} (h1 : 1 ≤ n) (h8 : n ≤ 8) (hV : ∀ i j, V i j = bk2 n G i j) (hJ : ∀ u j, u < n → j < n → y.2.2.2 77 (8 * j + u) = bk1 n G u j) (hW : y.1 0 44 = nI W) (hx : ax + n ≤ W) (hs : W * (ay + n) ≤ 4356) :
    fX15_back_135 X FU (b + 0) (nI n) (nI ax) (nI ay) 0 (rg_p lM b w0 y) = some (rg_p lM b w0 (rg_wA y 75 (fB W ax ay n n 0 V (y.2.2.1 75)))) := by
  have e := rg_lpF (F := fun u (t : Int32 × px_W) => fX15_back_135 X u (b + 0) (nI n) (nI ax) (nI ay) t.1 t.2) n (fun j => (nI j, rg_p lM b w0 (rg_wA y 75 (fB W ax ay n j 0 V (y.2.2.1 75))))) (r := some (rg_p lM b w0 (rg_wA y 75 (fB W ax ay n n 0 V (y.2.2.1 75))))) (by omega) ?_ ?_
  · refine Eq.trans ?_ e
    dsimp only
    rw [fB_0, wA_id rfl, nI_0]
  · intro m j hj
    dsimp only
    rw [fX15_back_135.eq_2]
    refine ei_n (nI_ge hj (by omega)) ?_
    refine rg_lpF (F := fun u (t : Int32 × px_W) => fX15_back_144 X (fX15_back_135 X m) u (b + 0) (nI n) (nI ax) (nI ay) (nI j) t.1 t.2) n (fun i => (nI i, rg_p lM b w0 (rg_wA y 75 (fB W ax ay n j i V (y.2.2.1 75))))) (by omega) ?_ ?_
    · intro u i hi
      dsimp only
      rw [fX15_back_144.eq_2]
      exact ei_n (nI_ge hi (by omega)) (m_bk_s h1 h8 hV hJ hW hx hs hi hj)
    · intro u
      dsimp only
      rw [fX15_back_144.eq_2]
      refine ei_t (nI_le (Nat.le_refl _) (by omega)) ?_
      rw [fX15_back_237, nI_1, fB_row]
  · intro m
    dsimp only
    rw [fX15_back_135.eq_2]
    exact ei_t (nI_le (Nat.le_refl _) (by omega)) rfl
theorem m_bk_h {H0 : Nat → Int64} {c t e ax ay i j M N : Nat} (h1 : 1 ≤ n) (h8 : n ≤ 8) (ho : ∀ k, k < 64 → y.2.2.1 71 (zg k) = nI k) (hc : c < 4) (e62 : y.2.2.1 62 c = nI e) (ht : e + t < 192) (hi : i < n) (hj : j < n) :
    fX15_back_24 X (fX15_back_3 X M) (fX15_back_12 X (fX15_back_3 X M) N) FU (b + 0) (nI c) (nI t) (nI n) (nI ax) (nI ay) (nI j) (nI i) 0 0 (rg_p lM b w0 (rg_wJ y 77 (fB 8 0 0 n j i (bk1 n (bkG (y.2.2.1 64) (y.2.2.1 63) c (e + t))) H0))) = fX15_back_12 X (fX15_back_3 X M) N (b + 0) (nI c) (nI t) (nI n) (nI ax) (nI ay) (nI j) (nI (i + 1)) (rg_p lM b w0 (rg_wJ y 77 (fB 8 0 0 n j (i + 1) (bk1 n (bkG (y.2.2.1 64) (y.2.2.1 63) c (e + t))) H0))) := by
  refine rg_lpF (F := fun u (p : Int64 × Int32) => fX15_back_24 X (fX15_back_3 X M) (fX15_back_12 X (fX15_back_3 X M) N) u (b + 0) (nI c) (nI t) (nI n) (nI ax) (nI ay) (nI j) (nI i) p.1 p.2 (rg_p lM b w0 (rg_wJ y 77 (fB 8 0 0 n j i (bk1 n (bkG (y.2.2.1 64) (y.2.2.1 63) c (e + t))) H0)))) n (fun v => (sumL (fun v => (wvN n v j).toInt64 * bkG (y.2.2.1 64) (y.2.2.1 63) c (e + t) (8 * v + i)) v, nI v)) (by omega) ?_ ?_
  · intro m v hv
    dsimp only
    have hl : 8 * v + i < 64 := by omega
    have hz := iz_lt hl
    rw [fX15_back_24.eq_2]
    refine ei_n (nI_ge hv (by omega)) (ob_v (rg_C rfl rfl) ?_)
    rw [show (8 : Int32) * nI v + nI i = nI (8 * v + i) by rw [show (8 : Int32) = nI 8 from rfl, pk_mul, nI_add]]
    refine ob_v (rg_A rfl (by decide) _ hl (by decide)) (ob_v (m_wave h1 h8 hv hj) (ob_v (rg_C rfl rfl) (ob_v (rg_C rfl rfl) (ob_v (rg_A rfl (by decide) c (by omega) (by decide)) ?_))))
    have eo : y.2.2.1 71 (8 * v + i) = nI (iz (8 * v + i)) := by
      have := ho _ hz
      rw [zg_iz hl] at this
      exact this
    rw [wJ_3, e62, eo, nI_add, n64]
    refine ob_v (rg_A rfl (by decide) _ (by omega) (by decide)) (ob_v (rg_C rfl rfl) ?_)
    rw [n64]
    refine ob_v (rg_A rfl (by decide) _ (by omega) (by decide)) ?_
    dsimp only
    rw [wJ_3, nI_1, sumL, Int64.mul_assoc]
    rfl
  · intro m
    dsimp only
    rw [fX15_back_24.eq_2]
    refine ei_t (nI_le (Nat.le_refl _) (by omega)) ?_
    unfold fX15_back_100
    refine ob_v (rg_C rfl rfl) (ob_v (m_round _ _) ?_)
    dsimp only
    rw [show (8 : Int32) * nI j + nI i = nI (8 * (0 + j) + (0 + i)) by rw [show (8 : Int32) = nI 8 from rfl, pk_mul, nI_add, Nat.zero_add, Nat.zero_add]]
    refine ob_v (rg_sJ rfl _ _ (by omega) (by decide)) ?_
    rw [wJ_wJ, wJ_s, nI_1]
    have e := fB_s (W := 8) (ax := 0) (ay := 0) (n := n) (j := j) (i := i) (V := bk1 n (bkG (y.2.2.1 64) (y.2.2.1 63) c (e + t))) (Z := H0) hi (by omega)
    rw [← e]
    rfl
theorem m_back {c t e ax ay : Nat} (h1 : 1 ≤ n) (h8 : n ≤ 8) (ho : ∀ k, k < 64 → y.2.2.1 71 (zg k) = nI k) (hc : c < 4) (e62 : y.2.2.1 62 c = nI e) (ht : e + t < 192) (hW : y.1 0 44 = nI W) (hx : ax + n ≤ W) (hs : W * (ay + n) ≤ 4356) :
    fX15_back X (rg_p lM b w0 y) (b + 0) (nI c) (nI t) (nI n) (nI ax) (nI ay) = some (rg_p lM b w0 (rg_wA (rg_wJ y 77 (fB 8 0 0 n n 0 (bk1 n (bkG (y.2.2.1 64) (y.2.2.1 63) c (e + t))) (y.2.2.2 77))) 75 (fB W ax ay n n 0 (bk2 n (bkG (y.2.2.1 64) (y.2.2.1 63) c (e + t))) (y.2.2.1 75)))) := by
  unfold fX15_back
  have e1 := rg_lpF (F := fun u (p : Int32 × px_W) => fX15_back_3 X u (b + 0) (nI c) (nI t) (nI n) (nI ax) (nI ay) p.1 p.2) n (fun j => (nI j, rg_p lM b w0 (rg_wJ y 77 (fB 8 0 0 n j 0 (bk1 n (bkG (y.2.2.1 64) (y.2.2.1 63) c (e + t))) (y.2.2.2 77))))) (r := fX15_back_132 X (b + 0) (nI n) (nI ax) (nI ay) (rg_p lM b w0 (rg_wJ y 77 (fB 8 0 0 n n 0 (bk1 n (bkG (y.2.2.1 64) (y.2.2.1 63) c (e + t))) (y.2.2.2 77))))) (by omega) ?_ ?_
  · refine Eq.trans ?_ (e1.trans ?_)
    · dsimp only
      rw [fB_0, wJ_id rfl, nI_0]
    · unfold fX15_back_132
      exact m_bk_o (y := rg_wJ y 77 (fB 8 0 0 n n 0 (bk1 n (bkG (y.2.2.1 64) (y.2.2.1 63) c (e + t))) (y.2.2.2 77))) h1 h8 (fun _ _ => rfl) (fun u j' hu hj' => by
        rw [wJ_s]
        have := fB_in (W := 8) (ax := 0) (ay := 0) (n := n) (j := n) (i := 0) (a := u) (c := j') (V := bk1 n (bkG (y.2.2.1 64) (y.2.2.1 63) c (e + t))) (Z := y.2.2.2 77) hu (by omega) hj'
        rw [Nat.zero_add, Nat.zero_add] at this
        exact this) hW hx hs
  · intro m j hj
    dsimp only
    rw [fX15_back_3.eq_2]
    refine ei_n (nI_ge hj (by omega)) ?_
    refine rg_lpF (F := fun u (p : Int32 × px_W) => fX15_back_12 X (fX15_back_3 X m) u (b + 0) (nI c) (nI t) (nI n) (nI ax) (nI ay) (nI j) p.1 p.2) n (fun i => (nI i, rg_p lM b w0 (rg_wJ y 77 (fB 8 0 0 n j i (bk1 n (bkG (y.2.2.1 64) (y.2.2.1 63) c (e + t))) (y.2.2.2 77))))) (by omega) ?_ ?_
    · intro u i hi
      dsimp only
      rw [fX15_back_12.eq_2]
      exact ei_n (nI_ge hi (by omega)) (m_bk_h h1 h8 ho hc e62 ht hi hj)
    · intro u
      dsimp only
      rw [fX15_back_12.eq_2]
      refine ei_t (nI_le (Nat.le_refl _) (by omega)) ?_
      rw [fX15_back_126, nI_1, fB_row]
  · intro m
    dsimp only
    rw [fX15_back_3.eq_2]
    exact ei_t (nI_le (Nat.le_refl _) (by omega)) rfl
end
