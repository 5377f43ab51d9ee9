/-! the class' forward -/
theorem fU_sL (n : Nat) (f g : Nat → Int64) : vp_updL (fU n f g) n (f n) = fU (n + 1) f g := by
  funext i
  unfold vp_updL fU
  by_cases e : i = n
  · subst e
    rw [if_pos rfl, if_pos (by omega)]
  · rw [if_neg e]
    by_cases h : i < n
    · rw [if_pos h, if_pos (by omega)]
    · rw [if_neg h, if_neg (by omega)]
/-- the first n coefficients of block T are those of W -/
def fW (T n : Nat) (W Z : Nat → Int32) : Nat → Int32 := fun i => if 64 * T ≤ i ∧ i < 64 * T + n then W (i - 64 * T) else Z i
theorem fW_0 (T : Nat) (W Z : Nat → Int32) : fW T 0 W Z = Z := by
  funext i
  unfold fW
  rw [if_neg (by omega)]
theorem fW_s (T n : Nat) (W Z : Nat → Int32) : upd (fW T n W Z) (64 * T + n) (W n) = fW T (n + 1) W Z := by
  funext i
  unfold upd fW
  by_cases e : i = 64 * T + n
  · rw [if_pos e, if_pos (by omega), show i - 64 * T = n by omega]
  · rw [if_neg e]
    by_cases h : 64 * T ≤ i ∧ i < 64 * T + n
    · rw [if_pos h, if_pos (by omega)]
    · rw [if_neg h, if_neg (by omega)]
theorem n8 (t k : Nat) : (8 : Int32) * nI t + nI k = nI (8 * t + k) := by
  rw [show (8 : Int32) = nI 8 from rfl, pk_mul, nI_add]
/-- samples of a block, less 128 -/
def fwG (I : Nat → Nat → Int32) (i j : Nat) (t u : Nat) : Int64 := (I (8 * i + t) (8 * j + u) - 128).toInt64
def fwW (G : Nat → Nat → Int64) (st : Nat → Nat) (k : Nat) : Int32 := fwV k (fw2 G (zg k % 8) (zg k / 8)).toInt (st k)
theorem fwG_b {I : Nat → Nat → Int32} (h : ∀ i j, ∃ c, c < 256 ∧ I i j = nI c) (i j t u : Nat) : (fwG I i j t u).toInt.natAbs ≤ 128 := by
  obtain ⟨c, hc, e⟩ := h (8 * i + t) (8 * j + u)
  unfold fwG
  rw [e, Int32.toInt_toInt64, show (128 : Int32) = nI 128 from rfl, iI_n, iI_n, iI_sub, iI_t (by omega) (by omega)]
  omega
section
variable {X : px_X} {b B : Nat} {w0 w1 w : px_W} {x y : rg_S} {P : Nat} {G : Nat → Nat → Int64}
theorem x_fw_h {H0 : Nat → Int64} {c T j i M N : Nat} (ht : ∀ u t, u < 8 → t < 8 → x.2.2.1 37 (192 + 8 * u + t) = wvN 8 u t) (hJ : ∀ t u, t < 8 → u < 8 → x.2.2.2 38 (8 * u + t) = G t u) (hi : i < 8) (hj : j < 8) :
    fX9_forward_98 X (fX9_forward_75 X M) (fX9_forward_85 X (fX9_forward_75 X M) N) FU (B + 36) (B + P) (nI c) (nI T) (nI j) (nI i) 0 0 (rg_p lX B w0 (rg_wJ x 39 (fB 8 0 0 8 j i (fw1 G) H0))) = fX9_forward_85 X (fX9_forward_75 X M) N (B + 36) (B + P) (nI c) (nI T) (nI j) (nI (i + 1)) (rg_p lX B w0 (rg_wJ x 39 (fB 8 0 0 8 j (i + 1) (fw1 G) H0))) := by
  refine rg_lpF (F := fun u (t : Int64 × Int32) => fX9_forward_98 X (fX9_forward_75 X M) (fX9_forward_85 X (fX9_forward_75 X M) N) u (B + 36) (B + P) (nI c) (nI T) (nI j) (nI i) t.1 t.2 (rg_p lX B w0 (rg_wJ x 39 (fB 8 0 0 8 j i (fw1 G) H0)))) 8 (fun v => (sumL (fun v => (wvN 8 j v).toInt64 * G i v) v, nI v)) (by omega) ?_ ?_
  · intro m v hv
    dsimp only
    rw [fX9_forward_98.eq_2]
    refine ei_n (nI_ge (b := 8) hv (by omega)) (ob_v (rg_C rfl rfl) ?_)
    rw [show (192 : Int32) + 8 * nI j + nI v = nI (192 + 8 * j + v) by rw [show (192 : Int32) = nI 192 from rfl, show (8 : Int32) = nI 8 from rfl, pk_mul, nI_add, nI_add], n8]
    refine ob_v (rg_A rfl (by decide) _ (by omega) (by decide)) (ob_v (rg_C rfl rfl) (ob_v (rg_J rfl _ (by omega) (by decide)) ?_))
    rw [wJ_3, wJ_n _ _ (by decide), ht j v hj hv, hJ i v hi hv, nI_1, sumL]
  · intro m
    dsimp only
    rw [fX9_forward_98.eq_2]
    refine ei_t (by decide) ?_
    unfold fX9_forward_148
    refine ob_v (rg_C rfl rfl) (ob_v (x_round _ _) ?_)
    dsimp only
    rw [show (8 : Int32) * nI j + nI i = nI (8 * (0 + j) + (0 + i)) by rw [n8, Nat.zero_add, Nat.zero_add]]
    refine ob_v (rg_sJ rfl _ _ (by omega) (by decide)) ?_
    rw [wJ_wJ, wJ_s, nI_1]
    have e := fB_s (W := 8) (ax := 0) (ay := 0) (n := 8) (j := j) (i := i) (V := fw1 G) (Z := H0) hi (by omega)
    rw [← e]
    rfl
theorem x_fw_m {c T : Nat} (ht : ∀ u t, u < 8 → t < 8 → x.2.2.1 37 (192 + 8 * u + t) = wvN 8 u t) (hJ : ∀ t u, t < 8 → u < 8 → x.2.2.2 38 (8 * u + t) = G t u) :
    fX9_forward_75 X FU (B + 36) (B + P) (nI c) (nI T) 0 (rg_p lX B w0 x) = fX9_forward_180 X (B + 36) (B + P) (nI c) (nI T) (rg_p lX B w0 (rg_wJ x 39 (fB 8 0 0 8 8 0 (fw1 G) (x.2.2.2 39)))) := by
  have e := rg_lpF (F := fun u (t : Int32 × px_W) => fX9_forward_75 X u (B + 36) (B + P) (nI c) (nI T) t.1 t.2) 8 (fun j => (nI j, rg_p lX B w0 (rg_wJ x 39 (fB 8 0 0 8 j 0 (fw1 G) (x.2.2.2 39))))) (r := fX9_forward_180 X (B + 36) (B + P) (nI c) (nI T) (rg_p lX B w0 (rg_wJ x 39 (fB 8 0 0 8 8 0 (fw1 G) (x.2.2.2 39))))) (by omega) ?_ ?_
  · refine Eq.trans ?_ e
    dsimp only
    rw [fB_0, wJ_id rfl, nI_0]
  · intro m j hj
    dsimp only
    rw [fX9_forward_75.eq_2]
    refine ei_n (nI_ge (b := 8) hj (by omega)) ?_
    refine rg_lpF (F := fun u (t : Int32 × px_W) => fX9_forward_85 X (fX9_forward_75 X m) u (B + 36) (B + P) (nI c) (nI T) (nI j) t.1 t.2) 8 (fun i => (nI i, rg_p lX B w0 (rg_wJ x 39 (fB 8 0 0 8 j i (fw1 G) (x.2.2.2 39))))) (by omega) ?_ ?_
    · intro u i hi
      dsimp only
      rw [fX9_forward_85.eq_2]
      exact ei_n (nI_ge (b := 8) hi (by omega)) (x_fw_h ht hJ hi hj)
    · intro u
      dsimp only
      rw [fX9_forward_85.eq_2]
      refine ei_t (by decide) ?_
      rw [fX9_forward_174, nI_1, fB_row]
  · intro m
    dsimp only
    rw [fX9_forward_75.eq_2]
    exact ei_t (by decide) rfl
/-- the coefficients -/
theorem x_fw_k {c T : Nat} {st : Nat → Nat} (hst : px_st X) (hP : isP P) (hc : c < 4) (hT : T < 192) (hG : ∀ t j, t < 8 → j < 8 → (G t j).toInt.natAbs ≤ 128) (hs : ∀ k, k < 64 → x.2.2.1 (P + 7) (64 * c + k) = nI (st k) ∧ 1 ≤ st k ∧ st k ≤ 255) (ht : ∀ u t, u < 8 → t < 8 → x.2.2.1 37 (192 + 8 * u + t) = wvN 8 u t) (hJ : ∀ t v, t < 8 → v < 8 → x.2.2.2 39 (8 * v + t) = fw1 G t v) :
    fX9_forward_183 X FU (B + 36) (B + P) (nI c) (nI T) 0 (rg_p lX B w0 x) = some (rg_p lX B w0 (rg_wA x (P + 6) (fW T 64 (fwW G st) (x.2.2.1 (P + 6))))) := by
  have hP' : P = 7 ∨ P = 15 := hP
  have e := rg_lpF (F := fun u (t : Int32 × px_W) => fX9_forward_183 X u (B + 36) (B + P) (nI c) (nI T) t.1 t.2) 64 (fun k => (nI k, rg_p lX B w0 (rg_wA x (P + 6) (fW T k (fwW G st) (x.2.2.1 (P + 6)))))) (r := some (rg_p lX B w0 (rg_wA x (P + 6) (fW T 64 (fwW G st) (x.2.2.1 (P + 6)))))) (by omega) ?_ ?_
  · refine Eq.trans ?_ e
    dsimp only
    rw [fW_0, wA_id rfl, nI_0]
  · intro m k hk
    dsimp only
    have hz := zg_lt hk
    rw [fX9_forward_183.eq_2]
    refine ei_n (nI_ge (b := 64) hk (by omega)) (ob_v (s_zig hst hk) (ob_v (dI_n (d := 8) (by omega) (by decide) (by decide)) (ob_v (s_zig hst hk) (ob_v (rI_n (d := 8) (by omega) (by decide) (by decide)) ?_))))
    refine rg_lpF (F := fun u (t : Int64 × Int32) => fX9_forward_218 X (fX9_forward_183 X m) u (B + 36) (B + P) (nI c) (nI T) (nI k) (nI (zg k / 8)) (nI (zg k % 8)) t.1 t.2 (rg_p lX B w0 (rg_wA x (P + 6) (fW T k (fwW G st) (x.2.2.1 (P + 6)))))) 8 (fun v => (sumL (fun t => (wvN 8 (zg k % 8) t).toInt64 * fw1 G t (zg k / 8)) v, nI v)) (by omega) ?_ ?_
    · intro u v hv
      dsimp only
      rw [fX9_forward_218.eq_2]
      refine ei_n (nI_ge (b := 8) hv (by omega)) (ob_v (rg_C rfl rfl) ?_)
      rw [show (192 : Int32) + 8 * nI (zg k % 8) + nI v = nI (192 + 8 * (zg k % 8) + v) by rw [show (192 : Int32) = nI 192 from rfl, show (8 : Int32) = nI 8 from rfl, pk_mul, nI_add, nI_add], n8]
      refine ob_v (rg_A rfl (by decide) _ (by omega) (by decide)) (ob_v (rg_C rfl rfl) (ob_v (rg_J rfl _ (by omega) (by decide)) ?_))
      rw [wA_n _ _ (by omega), wA_4, ht _ v (by omega) hv, hJ v _ hv (by omega), nI_1, sumL]
    · intro u
      dsimp only
      rw [fX9_forward_218.eq_2]
      refine ei_t (by decide) ?_
      have hb := fw2_b (u := zg k % 8) (v := zg k / 8) hG
      have ef : rnd (sumL (fun t => (wvN 8 (zg k % 8) t).toInt64 * fw1 G t (zg k / 8)) 8) 17 = fw2 G (zg k % 8) (zg k / 8) := rfl
      have hq := fwQ_in hb (hs k hk).2.1
      have fin : ∀ lo, lo = iI (fwLo k) → fX9_forward_319 X (fX9_forward_183 X m) (B + 36) (B + P) (nI c) (nI T) (nI k) (iI (fwQ (fw2 G (zg k % 8) (zg k / 8)).toInt (st k))) lo (64 * nI T + nI k) (B + (P + 6)) (rg_p lX B w0 (rg_wA x (P + 6) (fW T k (fwW G st) (x.2.2.1 (P + 6))))) = fX9_forward_183 X m (B + 36) (B + P) (nI c) (nI T) (nI (k + 1)) (rg_p lX B w0 (rg_wA x (P + 6) (fW T (k + 1) (fwW G st) (x.2.2.1 (P + 6))))) := by
        rintro lo rfl
        unfold fX9_forward_319
        rw [n64, x_clp hq.1 hq.2]
        refine ob_v (rg_sA _ hP.a6 (by decide) _ _ (by omega) (by decide)) ?_
        rw [wA_wA, wA_s, id, nI_1]
        have e : iI (fwC k (fwQ (fw2 G (zg k % 8) (zg k / 8)).toInt (st k))) = fwW G st k := rfl
        rw [e, fW_s]
      unfold fX9_forward_268
      refine ob_v (x_round _ _) (ob_v (rg_C hP.o rfl) ?_)
      dsimp only
      rw [n64, ef, l32 (by omega) (by omega)]
      refine ob_v (rg_A hP.a7 (by decide) _ (by omega) (by decide)) ?_
      rw [wA_n _ _ (by omega), (hs k hk).1]
      refine ob_v (x_nm hb (hs k hk).2.1 (hs k hk).2.2) (ob_v (rg_C hP.o rfl) ?_)
      dsimp only
      by_cases k0 : k = 0
      · refine ei_t (by rw [k0]; rfl) (fin _ ?_)
        unfold fwLo
        rw [if_pos k0]
        rfl
      · refine ei_n (nI_ne0 (by omega) (by omega)) (fin _ ?_)
        unfold fwLo
        rw [if_neg k0]
        rfl
  · intro m
    dsimp only
    rw [fX9_forward_183.eq_2]
    exact ei_t (by decide) rfl
/-- one block, forward -/
theorem x_forward {g : gG} {c i j w h : Nat} {I : Nat → Nat → Int32} {st : Nat → Nat} (hst : px_st X) (hP : isP P) (hg : gOk g) (hb : gBs g g.2.2.1 ≤ 192) (hx : xPic x P g) (hI : pI x 4 w h I) (hby : ∀ i j, i < w → j < h → ∃ c, c < 256 ∧ I i j = nI c) (ht : ∀ u t, u < 8 → t < 8 → x.2.2.1 37 (192 + 8 * u + t) = wvN 8 u t) (hc : c < g.2.2.1) (hs : ∀ k, k < 64 → x.2.2.1 (P + 7) (64 * c + k) = nI (st k) ∧ 1 ≤ st k ∧ st k ≤ 255) (hi : i < gAc g c) (hj : j < gDn g c) :
    ∃ x', fX9_forward X (rg_p lX B w0 x) (B + 36) (B + 32) (B + P) (nI c) (nI i) (nI j) = some (rg_p lX B w0 x') ∧ x'.1 = x.1 ∧ x'.2.1 = x.2.1 ∧ (∀ o, o ≠ P + 6 → x'.2.2.1 o = x.2.2.1 o) ∧ x'.2.2.1 (P + 6) = fW (gBs g c + j * gAc g c + i) 64 (fwW (fwG (fun i j => I (clampZ i w) (clampZ j h)) i j) st) (x.2.2.1 (P + 6)) := by
  have hc4 := hg.2.2.2.2.2.1
  have hac := hg.ac hc
  have hdn := hg.dn hc
  have hin := gB_in hc hi hj
  have hP' : P = 7 ∨ P = 15 := hP
  generalize hT : gBs g c + j * gAc g c + i = T at hin
  have hGb := fwG_b (I := fun i j : Nat => I (clampZ i w) (clampZ j h)) (fun a d => hby _ _ (clampZ_lt hI.1) (clampZ_lt hI.2.2.1)) i j
  generalize hGG : fwG (fun i j : Nat => I (clampZ i w) (clampZ j h)) i j = G at hGb
  refine ⟨rg_wA (rg_wJ (rg_wJ x 38 (fU 64 (fun p => G (p % 8) (p / 8)) (x.2.2.2 38))) 39 (fB 8 0 0 8 8 0 (fw1 G) (x.2.2.2 39))) (P + 6) (fW T 64 (fwW G st) (x.2.2.1 (P + 6))), ?_, rfl, rfl, fun o ho => wA_n _ _ ho, wA_s _ _ _⟩
  unfold fX9_forward
  refine ob_v (rg_O hP.o) (ob_v (x_block1 hP hg hx hc hi hj) ?_)
  rw [hT]
  refine ei_n (m1_n (by omega)) ?_
  have e := rg_lpF (F := fun u (t : Int32 × px_W) => fX9_forward_21 X u (B + 36) (B + 32) (B + P) (nI c) (nI i) (nI j) (nI T) t.1 t.2) 64 (fun k => (nI k, rg_p lX B w0 (rg_wJ x 38 (fU k (fun p => G (p % 8) (p / 8)) (x.2.2.2 38))))) (r := some (rg_p lX B w0 (rg_wA (rg_wJ (rg_wJ x 38 (fU 64 (fun p => G (p % 8) (p / 8)) (x.2.2.2 38))) 39 (fB 8 0 0 8 8 0 (fw1 G) (x.2.2.2 39))) (P + 6) (fW T 64 (fwW G st) (x.2.2.1 (P + 6)))))) (by omega) ?_ ?_
  · refine Eq.trans ?_ e
    dsimp only
    rw [fU_0, wJ_id rfl, nI_0]
  · intro m k hk
    dsimp only
    rw [fX9_forward_21.eq_2]
    refine ei_n (nI_ge (b := 64) hk (by omega)) (ob_v (rg_C rfl rfl) (ob_v (rI_n (d := 8) (by omega) (by decide) (by decide)) (ob_v (dI_n (d := 8) (by omega) (by decide) (by decide)) (ob_v (rg_O rfl) ?_))))
    have hI2 : pI (rg_wJ x 38 (fU k (fun p => G (p % 8) (p / 8)) (x.2.2.2 38))) 4 w h I := hI
    have nr := x_near (X := X) (B := B) (w0 := w0) (p := 4) (a := (8 * i + k % 8 : Nat)) (c := (8 * j + k / 8 : Nat)) (by decide) hI2 (by omega) (by omega) (by omega) (by omega)
    rw [← iI_n, ← iI_n] at nr
    rw [n8, n8]
    refine ob_v nr (ob_v (rg_sJ rfl _ _ hk (by decide)) ?_)
    dsimp only
    rw [wJ_wJ, wJ_s, nI_1, ← fU_sL]
    congr 3
    rw [← hGG]
    rfl
  · intro m
    dsimp only
    rw [fX9_forward_21.eq_2]
    refine ei_t (by decide) ?_
    unfold fX9_forward_72
    rw [x_fw_m (x := rg_wJ x 38 (fU 64 (fun p => G (p % 8) (p / 8)) (x.2.2.2 38))) (G := G) ht (fun t u h1 h2 => by
      rw [wJ_s, fU_lt (by omega), show (8 * u + t) % 8 = t by omega, show (8 * u + t) / 8 = u by omega])]
    unfold fX9_forward_180
    refine x_fw_k (x := rg_wJ (rg_wJ x 38 (fU 64 (fun p => G (p % 8) (p / 8)) (x.2.2.2 38))) 39 (fB 8 0 0 8 8 0 (fw1 G) (x.2.2.2 39))) hst hP (by omega) (by omega) (fun t j _ _ => hGb t j) hs ht (fun t v h1 h2 => ?_)
    rw [wJ_s]
    have := fB_in (W := 8) (ax := 0) (ay := 0) (n := 8) (j := 8) (i := 0) (a := t) (c := v) (V := fw1 G) (Z := x.2.2.2 39) h1 (by omega) h2
    rw [Nat.zero_add, Nat.zero_add] at this
    exact this
end
