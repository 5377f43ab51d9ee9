/-! the class' way back -/
def gJ (G J : Nat → Int64) (k : Nat) : Nat → Int64 := fun i => if i < 64 ∧ iz i < k then G i else J i
theorem gJ_0 (G J : Nat → Int64) : gJ G J 0 = J := by
  funext i
  unfold gJ
  rw [if_neg (by omega)]
theorem gJ_s (G J : Nat → Int64) {k : Nat} (hk : k < 64) : vp_updL (gJ G J k) (zg k) (G (zg k)) = gJ G J (k + 1) := by
  have hz := zg_lt hk
  have hi := iz_zg hk
  funext i
  unfold vp_updL
  by_cases e : i = zg k
  · rw [if_pos e]
    unfold gJ
    rw [e, hi, if_pos (by omega)]
  · rw [if_neg e]
    have h2 : i < 64 → iz i ≠ k := fun h q => e (by rw [← q, zg_iz h])
    unfold gJ
    by_cases h : i < 64 ∧ iz i < k
    · rw [if_pos h, if_pos (by omega)]
    · rw [if_neg h, if_neg (fun q => by have := h2 q.1; omega)]
theorem gJ_64 {G J : Nat → Int64} {i : Nat} (h : i < 64) : gJ G J 64 i = G i := if_pos ⟨h, iz_lt h⟩
theorem wJ_s (s : rg_S) (o : Nat) (f : Nat → Int64) : (rg_wJ s o f).2.2.2 o = f := if_pos rfl
theorem wJ_n (s : rg_S) {o o' : Nat} (f : Nat → Int64) (h : o' ≠ o) : (rg_wJ s o f).2.2.2 o' = s.2.2.2 o' := if_neg h
theorem wJ_wJ (s : rg_S) (o : Nat) (f g : Nat → Int64) : rg_wJ (rg_wJ s o f) o g = rg_wJ s o g := by
  refine Prod.ext rfl (Prod.ext rfl (Prod.ext rfl (funext fun o' => ?_)))
  show (rg_wJ (rg_wJ s o f) o g).2.2.2 o' = (rg_wJ s o g).2.2.2 o'
  rw [wJ_4, wJ_4, wJ_4]
  split <;> rfl
theorem wJ_id {s : rg_S} {o : Nat} {f : Nat → Int64} (h : s.2.2.2 o = f) : rg_wJ s o f = s := by
  refine Prod.ext rfl (Prod.ext rfl (Prod.ext rfl (funext fun o' => ?_)))
  show (rg_wJ s o f).2.2.2 o' = s.2.2.2 o'
  rw [wJ_4]
  split
  · rename_i e; rw [e, h]
  · rfl
section
variable {X : px_X} {b B : Nat} {w0 w1 w : px_W} {x y : rg_S} {P Q n s : Nat} {G : Nat → Int64}
/-- a row of samples -/
theorem x_bk_s {V : Nat → Nat → Int32} {Z : Nat → Int32} {a3 a4 i j M N : Nat} (hn : n = 2 ^ s) (hs : s < 4) (hV : ∀ i j, V i j = bk2 n G i j) (ht : ∀ u t, u < 2 ^ s → t < 2 ^ s → x.2.2.1 37 (64 * s + 8 * u + t) = wvN (2 ^ s) u t) (hJ : ∀ u j, u < n → j < n → x.2.2.2 39 (8 * j + u) = bk1 n G u j) (h3 : (a3 + 1) * n ≤ 32) (h4 : (a4 + 1) * n ≤ 32) (hi : i < n) (hj : j < n) :
    fX9_back_248 X (fX9_back_225 X M) (fX9_back_235 X (fX9_back_225 X M) N) FU (B + 36) (nI a3) (nI a4) (nI n) (B + 32) (nI s) (nI j) (nI i) 0 0 (rg_p lX B w0 (rg_wA x 33 (fB 32 (a3 * n) (a4 * n) n j i V Z))) = fX9_back_235 X (fX9_back_225 X M) N (B + 36) (nI a3) (nI a4) (nI n) (B + 32) (nI s) (nI j) (nI (i + 1)) (rg_p lX B w0 (rg_wA x 33 (fB 32 (a3 * n) (a4 * n) n j (i + 1) V Z))) := by
  have n8 : n ≤ 8 := by
    rw [hn]
    rcases (show s = 0 ∨ s = 1 ∨ s = 2 ∨ s = 3 by omega) with rfl | rfl | rfl | rfl <;> decide
  rw [Nat.add_mul, Nat.one_mul] at h3 h4
  refine rg_lpF (F := fun u (t : Int64 × Int32) => fX9_back_248 X (fX9_back_225 X M) (fX9_back_235 X (fX9_back_225 X M) N) u (B + 36) (nI a3) (nI a4) (nI n) (B + 32) (nI s) (nI j) (nI i) t.1 t.2 (rg_p lX B w0 (rg_wA x 33 (fB 32 (a3 * n) (a4 * n) n j i V Z)))) n (fun u => (sumL (fun u => (wvN n u i).toInt64 * bk1 n G u j) u, nI u)) (by omega) ?_ ?_
  · intro m u hu
    dsimp only
    rw [fX9_back_248.eq_2]
    refine ei_n (nI_ge hu (by omega)) (ob_v (rg_C rfl rfl) ?_)
    rw [show (64 : Int32) * nI s + 8 * nI u + nI i = nI (64 * s + 8 * u + i) by rw [show (64 : Int32) = nI 64 from rfl, show (8 : Int32) = nI 8 from rfl, pk_mul, pk_mul, nI_add, nI_add], show (8 : Int32) * nI j + nI u = nI (8 * j + u) by rw [show (8 : Int32) = nI 8 from rfl, pk_mul, nI_add]]
    refine ob_v (rg_A rfl (by decide) _ (by omega) (by decide)) (ob_v (rg_C rfl rfl) (ob_v (rg_J rfl _ (by omega) (by decide)) ?_))
    rw [wA_n _ _ (by decide), wA_4, ht u i (by omega) (by omega), hJ u j hu hj, nI_1, sumL, hn]
  · intro m
    dsimp only
    rw [fX9_back_248.eq_2]
    refine ei_t (nI_le (Nat.le_refl _) (by omega)) ?_
    unfold fX9_back_300
    refine ob_v (x_round _ _) (ob_v (rg_C rfl rfl) ?_)
    dsimp only
    rw [show (32 : Int32) * (nI a4 * nI n + nI j) + nI a3 * nI n + nI i = nI (32 * (a4 * n + j) + (a3 * n + i)) by rw [show (32 : Int32) = nI 32 from rfl, pk_mul, pk_mul, nI_add, pk_mul, nI_add, nI_add, Nat.add_assoc]]
    refine ob_v (rg_sA _ rfl (by decide) _ _ (by omega) (by decide)) ?_
    rw [wA_wA, wA_s, limL_x, id, nI_1]
    have e := fB_s (W := 32) (ax := a3 * n) (ay := a4 * n) (n := n) (j := j) (i := i) (V := V) (Z := Z) hi (by omega)
    rw [← e, hV]
    rfl
theorem x_bk_o {V : Nat → Nat → Int32} {a3 a4 : Nat} (hn : n = 2 ^ s) (hs : s < 4) (hV : ∀ i j, V i j = bk2 n G i j) (ht : ∀ u t, u < 2 ^ s → t < 2 ^ s → x.2.2.1 37 (64 * s + 8 * u + t) = wvN (2 ^ s) u t) (hJ : ∀ u j, u < n → j < n → x.2.2.2 39 (8 * j + u) = bk1 n G u j) (h3 : (a3 + 1) * n ≤ 32) (h4 : (a4 + 1) * n ≤ 32) :
    fX9_back_225 X FU (B + 36) (nI a3) (nI a4) (nI n) (B + 32) (nI s) 0 (rg_p lX B w0 x) = some (rg_p lX B w0 (rg_wA x 33 (fB 32 (a3 * n) (a4 * n) n n 0 V (x.2.2.1 33)))) := by
  have n8 : n ≤ 8 := by
    rw [hn]
    rcases (show s = 0 ∨ s = 1 ∨ s = 2 ∨ s = 3 by omega) with rfl | rfl | rfl | rfl <;> decide
  have e := rg_lpF (F := fun u (t : Int32 × px_W) => fX9_back_225 X u (B + 36) (nI a3) (nI a4) (nI n) (B + 32) (nI s) t.1 t.2) n (fun j => (nI j, rg_p lX B w0 (rg_wA x 33 (fB 32 (a3 * n) (a4 * n) n j 0 V (x.2.2.1 33))))) (r := some (rg_p lX B w0 (rg_wA x 33 (fB 32 (a3 * n) (a4 * n) n n 0 V (x.2.2.1 33))))) (by omega) ?_ ?_
  · refine Eq.trans ?_ e
    dsimp only
    rw [fB_0, wA_id rfl, nI_0]
  · intro m j hj
    dsimp only
    rw [fX9_back_225.eq_2]
    refine ei_n (nI_ge hj (by omega)) ?_
    refine rg_lpF (F := fun u (t : Int32 × px_W) => fX9_back_235 X (fX9_back_225 X m) u (B + 36) (nI a3) (nI a4) (nI n) (B + 32) (nI s) (nI j) t.1 t.2) n (fun i => (nI i, rg_p lX B w0 (rg_wA x 33 (fB 32 (a3 * n) (a4 * n) n j i V (x.2.2.1 33))))) (by omega) ?_ ?_
    · intro u i hi
      dsimp only
      rw [fX9_back_235.eq_2]
      exact ei_n (nI_ge hi (by omega)) (x_bk_s hn hs hV ht hJ h3 h4 hi hj)
    · intro u
      dsimp only
      rw [fX9_back_235.eq_2]
      refine ei_t (nI_le (Nat.le_refl _) (by omega)) ?_
      rw [fX9_back_357, nI_1, fB_row]
  · intro m
    dsimp only
    rw [fX9_back_225.eq_2]
    exact ei_t (nI_le (Nat.le_refl _) (by omega)) rfl
theorem x_bk_h {H0 : Nat → Int64} {a3 a4 i j M N : Nat} (hn : n = 2 ^ s) (hs : s < 4) (ht : ∀ u t, u < 2 ^ s → t < 2 ^ s → x.2.2.1 37 (64 * s + 8 * u + t) = wvN (2 ^ s) u t) (hJ : ∀ t, t < 64 → x.2.2.2 38 t = G t) (hi : i < n) (hj : j < n) :
    fX9_back_138 X (fX9_back_115 X M) (fX9_back_125 X (fX9_back_115 X M) N) FU (B + 36) (nI a3) (nI a4) (nI n) (B + 32) (nI s) (nI j) (nI i) 0 0 (rg_p lX B w0 (rg_wJ x 39 (fB 8 0 0 n j i (bk1 n G) H0))) = fX9_back_125 X (fX9_back_115 X M) N (B + 36) (nI a3) (nI a4) (nI n) (B + 32) (nI s) (nI j) (nI (i + 1)) (rg_p lX B w0 (rg_wJ x 39 (fB 8 0 0 n j (i + 1) (bk1 n G) H0))) := by
  have n8 : n ≤ 8 := by
    rw [hn]
    rcases (show s = 0 ∨ s = 1 ∨ s = 2 ∨ s = 3 by omega) with rfl | rfl | rfl | rfl <;> decide
  refine rg_lpF (F := fun u (t : Int64 × Int32) => fX9_back_138 X (fX9_back_115 X M) (fX9_back_125 X (fX9_back_115 X M) N) u (B + 36) (nI a3) (nI a4) (nI n) (B + 32) (nI s) (nI j) (nI i) t.1 t.2 (rg_p lX B w0 (rg_wJ x 39 (fB 8 0 0 n j i (bk1 n G) H0)))) n (fun v => (sumL (fun v => (wvN n v j).toInt64 * G (8 * v + i)) v, nI v)) (by omega) ?_ ?_
  · intro m v hv
    dsimp only
    rw [fX9_back_138.eq_2]
    refine ei_n (nI_ge hv (by omega)) (ob_v (rg_C rfl rfl) ?_)
    rw [show (64 : Int32) * nI s + 8 * nI v + nI j = nI (64 * s + 8 * v + j) by rw [show (64 : Int32) = nI 64 from rfl, show (8 : Int32) = nI 8 from rfl, pk_mul, pk_mul, nI_add, nI_add], show (8 : Int32) * nI v + nI i = nI (8 * v + i) by rw [show (8 : Int32) = nI 8 from rfl, pk_mul, nI_add]]
    refine ob_v (rg_A rfl (by decide) _ (by omega) (by decide)) (ob_v (rg_C rfl rfl) (ob_v (rg_J rfl _ (by omega) (by decide)) ?_))
    rw [wJ_3, wJ_n _ _ (by decide), ht v j (by omega) (by omega), hJ _ (by omega), nI_1, sumL, hn]
  · intro m
    dsimp only
    rw [fX9_back_138.eq_2]
    refine ei_t (nI_le (Nat.le_refl _) (by omega)) ?_
    unfold fX9_back_190
    refine ob_v (rg_C rfl rfl) (ob_v (x_round _ _) ?_)
    dsimp only
    rw [show (8 : Int32) * nI j + nI i = nI (8 * (0 + j) + (0 + i)) by rw [show (8 : Int32) = nI 8 from rfl, pk_mul, nI_add, Nat.zero_add, Nat.zero_add]]
    refine ob_v (rg_sJ rfl _ _ (by omega) (by decide)) ?_
    rw [wJ_wJ, wJ_s, nI_1]
    have e := fB_s (W := 8) (ax := 0) (ay := 0) (n := n) (j := j) (i := i) (V := bk1 n G) (Z := H0) hi (by omega)
    rw [← e]
    rfl
theorem x_bk_m {a3 a4 : Nat} (hn : n = 2 ^ s) (hs : s < 4) (ht : ∀ u t, u < 2 ^ s → t < 2 ^ s → x.2.2.1 37 (64 * s + 8 * u + t) = wvN (2 ^ s) u t) (hJ : ∀ t, t < 64 → x.2.2.2 38 t = G t) :
    fX9_back_115 X FU (B + 36) (nI a3) (nI a4) (nI n) (B + 32) (nI s) 0 (rg_p lX B w0 x) = fX9_back_222 X (B + 36) (nI a3) (nI a4) (nI n) (B + 32) (nI s) (rg_p lX B w0 (rg_wJ x 39 (fB 8 0 0 n n 0 (bk1 n G) (x.2.2.2 39)))) := by
  have n8 : n ≤ 8 := by
    rw [hn]
    rcases (show s = 0 ∨ s = 1 ∨ s = 2 ∨ s = 3 by omega) with rfl | rfl | rfl | rfl <;> decide
  have e := rg_lpF (F := fun u (t : Int32 × px_W) => fX9_back_115 X u (B + 36) (nI a3) (nI a4) (nI n) (B + 32) (nI s) t.1 t.2) n (fun j => (nI j, rg_p lX B w0 (rg_wJ x 39 (fB 8 0 0 n j 0 (bk1 n G) (x.2.2.2 39))))) (r := fX9_back_222 X (B + 36) (nI a3) (nI a4) (nI n) (B + 32) (nI s) (rg_p lX B w0 (rg_wJ x 39 (fB 8 0 0 n n 0 (bk1 n G) (x.2.2.2 39))))) (by omega) ?_ ?_
  · refine Eq.trans ?_ e
    dsimp only
    rw [fB_0, wJ_id rfl, nI_0]
  · intro m j hj
    dsimp only
    rw [fX9_back_115.eq_2]
    refine ei_n (nI_ge hj (by omega)) ?_
    refine rg_lpF (F := fun u (t : Int32 × px_W) => fX9_back_125 X (fX9_back_115 X m) u (B + 36) (nI a3) (nI a4) (nI n) (B + 32) (nI s) (nI j) t.1 t.2) n (fun i => (nI i, rg_p lX B w0 (rg_wJ x 39 (fB 8 0 0 n j i (bk1 n G) (x.2.2.2 39))))) (by omega) ?_ ?_
    · intro u i hi
      dsimp only
      rw [fX9_back_125.eq_2]
      exact ei_n (nI_ge hi (by omega)) (x_bk_h hn hs ht hJ hi hj)
    · intro u
      dsimp only
      rw [fX9_back_125.eq_2]
      refine ei_t (nI_le (Nat.le_refl _) (by omega)) ?_
      rw [fX9_back_216, nI_1, fB_row]
  · intro m
    dsimp only
    rw [fX9_back_115.eq_2]
    exact ei_t (nI_le (Nat.le_refl _) (by omega)) rfl
/-- one block, back -/
theorem x_back {g : gG} {c i j : Nat} (hst : px_st X) (hQ : isP Q) (hg : gOk g) (hb : gBs g g.2.2.1 ≤ 192) (hx : xPic x Q g) (hn : n = 2 ^ s) (hs : s < 4) (ht : ∀ u t, u < 2 ^ s → t < 2 ^ s → x.2.2.1 37 (64 * s + 8 * u + t) = wvN (2 ^ s) u t) (hc : c < g.2.2.1) (hi : i < gAc g c) (hj : j < gDn g c) (h3 : (i + 1) * n ≤ 32) (h4 : (j + 1) * n ≤ 32) :
    fX9_back X (rg_p lX B w0 x) (B + 36) (B + Q) (nI c) (nI i) (nI j) (nI n) (B + 32) = some (rg_p lX B w0 (rg_wA (rg_wJ (rg_wJ x 38 (gJ (bkG (x.2.2.1 (Q + 6)) (x.2.2.1 (Q + 7)) c (gBs g c + j * gAc g c + i)) (x.2.2.2 38) 64)) 39 (fB 8 0 0 n n 0 (bk1 n (bkG (x.2.2.1 (Q + 6)) (x.2.2.1 (Q + 7)) c (gBs g c + j * gAc g c + i))) (x.2.2.2 39))) 33 (fB 32 (i * n) (j * n) n n 0 (bk2 n (bkG (x.2.2.1 (Q + 6)) (x.2.2.1 (Q + 7)) c (gBs g c + j * gAc g c + i))) (x.2.2.1 33)))) := by
  have hQ' : Q = 7 ∨ Q = 15 := hQ
  have hc4 := hg.2.2.2.2.2.1
  have hac := hg.ac hc
  have hdn := hg.dn hc
  have hin := gB_in hc hi hj
  have n18 : 1 ≤ n ∧ n ≤ 8 := by
    rw [hn]
    rcases (show s = 0 ∨ s = 1 ∨ s = 2 ∨ s = 3 by omega) with rfl | rfl | rfl | rfl <;> decide
  have f25 : fX9_back_25 X (B + 36) (B + Q) (nI c) (nI i) (nI j) (nI n) (B + 32) (nI (gBs g c + j * gAc g c + i)) (nI s) (rg_p lX B w0 x) = some (rg_p lX B w0 (rg_wA (rg_wJ (rg_wJ x 38 (gJ (bkG (x.2.2.1 (Q + 6)) (x.2.2.1 (Q + 7)) c (gBs g c + j * gAc g c + i)) (x.2.2.2 38) 64)) 39 (fB 8 0 0 n n 0 (bk1 n (bkG (x.2.2.1 (Q + 6)) (x.2.2.1 (Q + 7)) c (gBs g c + j * gAc g c + i))) (x.2.2.2 39))) 33 (fB 32 (i * n) (j * n) n n 0 (bk2 n (bkG (x.2.2.1 (Q + 6)) (x.2.2.1 (Q + 7)) c (gBs g c + j * gAc g c + i))) (x.2.2.1 33)))) := by
    unfold fX9_back_25
    rw [nI_1, nI_1, pk_mul, pk_mul]
    refine ei_n (m1_n (by omega)) (ei_n (nI_nlt (a := 32) h3 (by omega)) (ei_t (nI_le (b := 32) h4 (by omega)) ?_))
    have e := rg_lpF (F := fun u (t : Int32 × px_W) => fX9_back_60 X u (B + 36) (B + Q) (nI c) (nI i) (nI j) (nI n) (B + 32) (nI (gBs g c + j * gAc g c + i)) (nI s) t.1 t.2) 64 (fun k => (nI k, rg_p lX B w0 (rg_wJ x 38 (gJ (bkG (x.2.2.1 (Q + 6)) (x.2.2.1 (Q + 7)) c (gBs g c + j * gAc g c + i)) (x.2.2.2 38) k)))) (r := some (rg_p lX B w0 (rg_wA (rg_wJ (rg_wJ x 38 (gJ (bkG (x.2.2.1 (Q + 6)) (x.2.2.1 (Q + 7)) c (gBs g c + j * gAc g c + i)) (x.2.2.2 38) 64)) 39 (fB 8 0 0 n n 0 (bk1 n (bkG (x.2.2.1 (Q + 6)) (x.2.2.1 (Q + 7)) c (gBs g c + j * gAc g c + i))) (x.2.2.2 39))) 33 (fB 32 (i * n) (j * n) n n 0 (bk2 n (bkG (x.2.2.1 (Q + 6)) (x.2.2.1 (Q + 7)) c (gBs g c + j * gAc g c + i))) (x.2.2.1 33))))) (by omega) ?_ ?_
    · refine Eq.trans ?_ e
      dsimp only
      rw [gJ_0, wJ_id rfl, nI_0]
    · intro m k hk
      dsimp only
      have hz := zg_lt hk
      rw [fX9_back_60.eq_2]
      refine ei_n (nI_ge (b := 64) hk (by omega)) (ob_v (rg_C rfl rfl) (ob_v (s_zig hst hk) (ob_v (rg_C hQ.o rfl) ?_)))
      rw [n64, n64]
      refine ob_v (rg_A hQ.a6 (by decide) _ (by omega) (by decide)) (ob_v (rg_C hQ.o rfl) (ob_v (rg_A hQ.a7 (by decide) _ (by omega) (by decide)) (ob_v (rg_sJ rfl _ _ hz (by decide)) ?_)))
      rw [wJ_wJ, wJ_s, wJ_3, nI_1, ← gJ_s _ _ hk]
      unfold bkG
      rw [iz_zg hk]
    · intro m
      dsimp only
      rw [fX9_back_60.eq_2]
      refine ei_t (by decide) ?_
      unfold fX9_back_112
      have hJ : ∀ t, t < 64 → (rg_wJ x 38 (gJ (bkG (x.2.2.1 (Q + 6)) (x.2.2.1 (Q + 7)) c (gBs g c + j * gAc g c + i)) (x.2.2.2 38) 64)).2.2.2 38 t = bkG (x.2.2.1 (Q + 6)) (x.2.2.1 (Q + 7)) c (gBs g c + j * gAc g c + i) t := fun t h => by rw [wJ_s, gJ_64 h]
      rw [x_bk_m (x := rg_wJ x 38 (gJ (bkG (x.2.2.1 (Q + 6)) (x.2.2.1 (Q + 7)) c (gBs g c + j * gAc g c + i)) (x.2.2.2 38) 64)) hn hs ht hJ]
      unfold fX9_back_222
      exact x_bk_o (x := rg_wJ (rg_wJ x 38 (gJ (bkG (x.2.2.1 (Q + 6)) (x.2.2.1 (Q + 7)) c (gBs g c + j * gAc g c + i)) (x.2.2.2 38) 64)) 39 (fB 8 0 0 n n 0 (bk1 n (bkG (x.2.2.1 (Q + 6)) (x.2.2.1 (Q + 7)) c (gBs g c + j * gAc g c + i))) (x.2.2.2 39))) hn hs (fun _ _ => rfl) ht (fun u j' hu hj' => by
        rw [wJ_s]
        have := fB_in (W := 8) (ax := 0) (ay := 0) (n := n) (j := n) (i := 0) (a := u) (c := j') (V := bk1 n (bkG (x.2.2.1 (Q + 6)) (x.2.2.1 (Q + 7)) c (gBs g c + j * gAc g c + i))) (Z := x.2.2.2 39) hu (by omega) hj'
        rw [Nat.zero_add, Nat.zero_add] at this
        exact this) h3 h4
  unfold fX9_back
  refine ob_v (rg_O hQ.o) (ob_v (x_block1 hQ hg hx hc hi hj) ?_)
  by_cases e8 : n = 8
  · refine ei_t (by rw [e8]; decide) ?_
    have : s = 3 := by
      rcases (show s = 0 ∨ s = 1 ∨ s = 2 ∨ s = 3 by omega) with rfl | rfl | rfl | rfl
      · rw [hn] at e8; exact absurd e8 (by decide)
      · rw [hn] at e8; exact absurd e8 (by decide)
      · rw [hn] at e8; exact absurd e8 (by decide)
      · rfl
    subst this
    exact f25
  · refine ei_n (fun e => e8 ((nI_eq (b := 8) (by omega) (by omega)).mp e)) (ob_v (dI_n (d := 2) (by omega) (by decide) (by decide)) ?_)
    have : n / 2 = s := by
      rcases (show s = 0 ∨ s = 1 ∨ s = 2 ∨ s = 3 by omega) with rfl | rfl | rfl | rfl
      · rw [hn]
      · rw [hn]
      · rw [hn]
      · exact absurd hn e8
    rw [this]
    exact f25
end
