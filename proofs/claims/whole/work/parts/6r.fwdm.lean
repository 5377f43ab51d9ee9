/-! the reference's forward -/
def fR (T q : Nat) (W Z : Nat → Int32) : Nat → Int32 := fun i => if 64 * T ≤ i ∧ i < 64 * T + 64 ∧ zg (i - 64 * T) < q then W (i - 64 * T) else Z i
theorem fR_0 (T : Nat) (W Z : Nat → Int32) : fR T 0 W Z = Z := by
  funext i
  unfold fR
  rw [if_neg (by omega)]
theorem fR_s (T : Nat) {q : Nat} (hq : q < 64) (W Z : Nat → Int32) : upd (fR T q W Z) (64 * T + iz q) (W (iz q)) = fR T (q + 1) W Z := by
  have h1 := iz_lt hq
  have h2 := zg_iz hq
  funext i
  unfold upd fR
  by_cases e : i = 64 * T + iz q
  · rw [if_pos e, show i - 64 * T = iz q by omega, if_pos (by omega)]
  · rw [if_neg e]
    by_cases hb : 64 * T ≤ i ∧ i < 64 * T + 64
    · have h3 : zg (i - 64 * T) ≠ q := fun h => by
        have := iz_zg (k := i - 64 * T) (by omega)
        rw [h] at this
        omega
      by_cases h : 64 * T ≤ i ∧ i < 64 * T + 64 ∧ zg (i - 64 * T) < q
      · rw [if_pos h, if_pos (by omega)]
      · rw [if_neg h, if_neg (by omega)]
    · rw [if_neg (by omega), if_neg (by omega)]
theorem fR_64 (T : Nat) (W Z : Nat → Int32) : fR T 64 W Z = fW T 64 W Z := by
  funext i
  unfold fR fW
  by_cases hb : 64 * T ≤ i ∧ i < 64 * T + 64
  · have := zg_lt (k := i - 64 * T) (by omega)
    rw [if_pos (by omega), if_pos hb]
  · rw [if_neg (by omega), if_neg hb]
theorem c0 (z : Int64) : 0 ≤ lg_cmp z 0 ↔ 0 ≤ z.toInt := by
  rw [lg_cmp_ge, l_le, show (0 : Int64).toInt = 0 from by decide]
section
variable {X : px_X} {b B : Nat} {w0 w1 w : px_W} {x y : rg_S} {P : Nat} {G : Nat → Nat → Int64}
/-- one coefficient's value -/
theorem m_fw_v {k115 : Nat → Int32 → Int32 → Int32 → px_W → Option px_W} {k125 : Nat → Int32 → Int32 → Int32 → Int32 → px_W → Option px_W} {c t e k v u s : Nat} {z : Int64} (hc : c < 4) (ht : e + t < 192) (e62 : y.2.2.1 62 c = nI e) (hv : v < 8) (hu : u < 8) (hk : k < 64) (ek : y.2.2.1 71 (8 * v + u) = nI k) (es : y.2.2.1 63 (64 * c + k) = nI s) (s1 : 1 ≤ s) (s2 : s ≤ 255) (hz : (rnd z 17).toInt.natAbs ≤ 2048) :
    fX15_forward_180 X k115 k125 (b + 0) (nI c) (nI t) (nI v) (nI u) z (rg_p lM b w0 y) = k125 (b + 0) (nI c) (nI t) (nI v) (nI (u + 1)) (rg_p lM b w0 (rg_wA y 64 (upd (y.2.2.1 64) (64 * (e + t) + k) (fwV k (rnd z 17).toInt s)))) := by
  generalize hr : rnd z 17 = r at hz
  have er : r = lI r.toInt := lI_of r
  have hq := fwQ_in hz s1
  have hlo := fwLo_in k
  have hC := fwC_in k (fwQ r.toInt s)
  have l1023 : (1023 : Int64).toInt = 1023 := by decide
  have f332 : ∀ z', z' = lI (fwC k (fwQ r.toInt s)) → fX15_forward_332 X k115 k125 (b + 0) (nI c) (nI t) (nI v) (nI u) z' (64 * (nI e + nI t) + nI k) (b + 64) (rg_p lM b w0 y) = k125 (b + 0) (nI c) (nI t) (nI v) (nI (u + 1)) (rg_p lM b w0 (rg_wA y 64 (upd (y.2.2.1 64) (64 * (e + t) + k) (fwV k r.toInt s)))) := by
    rintro z' rfl
    unfold fX15_forward_332
    rw [nI_add, n64]
    refine ob_v (rg_sA _ rfl (by decide) _ _ (by omega) (by decide)) ?_
    have e1 : (lI (fwC k (fwQ r.toInt s))).toInt32 = fwV k r.toInt s := by
      rw [l32 (by rw [lI_t (by omega) (by omega)]; omega) (by rw [lI_t (by omega) (by omega)]; omega), lI_t (by omega) (by omega)]
      rfl
    rw [e1, sh_ok (fwV_ok k r.toInt s), nar_ok (fwV_ok k r.toInt s), nI_1]
  have f282 : ∀ lo q, lo = lI (fwLo k) → q = lI (fwQ r.toInt s) → fX15_forward_282 X k115 k125 (b + 0) (nI c) (nI t) (nI v) (nI u) (nI k) q lo (rg_p lM b w0 y) = k125 (b + 0) (nI c) (nI t) (nI v) (nI (u + 1)) (rg_p lM b w0 (rg_wA y 64 (upd (y.2.2.1 64) (64 * (e + t) + k) (fwV k r.toInt s)))) := by
    rintro lo q rfl rfl
    have c1 : 0 ≤ lg_cmp (lI (fwQ r.toInt s)) (lI (fwLo k)) ↔ fwLo k ≤ fwQ r.toInt s := by rw [lg_cmp_ge, l_le, lI_t (by omega) (by omega), lI_t (by omega) (by omega)]
    have c2 : lg_cmp (lI (fwQ r.toInt s)) 1023 ≤ 0 ↔ fwQ r.toInt s ≤ 1023 := by rw [lg_cmp_le, l_le, lI_t (by omega) (by omega), l1023]
    unfold fX15_forward_282
    refine ob_v (rg_C rfl rfl) (ob_v (rg_C rfl rfl) (ob_v (rg_A rfl (by decide) c (by omega) (by decide)) ?_))
    rw [e62]
    by_cases h1 : fwLo k ≤ fwQ r.toInt s
    · refine ei_t (c1.mpr h1) ?_
      by_cases h2 : fwQ r.toInt s ≤ 1023
      · refine ei_t (c2.mpr h2) (f332 _ ?_)
        unfold fwC
        rw [if_neg (by omega), if_neg (by omega)]
      · refine ei_n (fun h => h2 (c2.mp h)) (f332 _ ?_)
        unfold fwC
        rw [if_neg (by omega), if_pos (by omega)]
        rfl
    · refine ei_n (fun h => h1 (c1.mp h)) (f332 _ ?_)
      unfold fwC
      rw [if_pos (by omega)]
  have f266 : ∀ q, q = lI (fwQ r.toInt s) → fX15_forward_266 X k115 k125 (b + 0) (nI c) (nI t) (nI v) (nI u) (nI k) q (rg_p lM b w0 y) = k125 (b + 0) (nI c) (nI t) (nI v) (nI (u + 1)) (rg_p lM b w0 (rg_wA y 64 (upd (y.2.2.1 64) (64 * (e + t) + k) (fwV k r.toInt s)))) := by
    intro q hq
    unfold fX15_forward_266
    by_cases k0 : k = 0
    · refine ei_t (by rw [k0]; rfl) (f282 _ _ ?_ hq)
      unfold fwLo
      rw [if_pos k0]
      rfl
    · refine ei_n (nI_ne0 (by omega) (by omega)) (f282 _ _ ?_ hq)
      unfold fwLo
      rw [if_neg k0]
      rfl
  have f233 : ∀ a, a = lI (r.toInt.natAbs : Nat) → fX15_forward_233 X k115 k125 (b + 0) (nI c) (nI t) (nI v) (nI u) (nI k) r (nI s) a (rg_p lM b w0 y) = k125 (b + 0) (nI c) (nI t) (nI v) (nI (u + 1)) (rg_p lM b w0 (rg_wA y 64 (upd (y.2.2.1 64) (64 * (e + t) + k) (fwV k r.toInt s)))) := by
    rintro a rfl
    unfold fX15_forward_233
    refine ob_v (m_div hz s1 s2) ?_
    by_cases h : 0 ≤ r.toInt
    · refine ei_t ((c0 r).mpr h) (f266 _ ?_)
      unfold fwQ
      rw [if_pos h]
    · refine ei_n (fun p => h ((c0 r).mp p)) (f266 _ ?_)
      unfold fwQ
      rw [if_neg h, lI_neg]
  unfold fX15_forward_180
  refine ob_v (rg_C rfl rfl) ?_
  rw [n8]
  refine ob_v (rg_A rfl (by decide) _ (by omega) (by decide)) (ob_v (m_round _ _) (ob_v (rg_C rfl rfl) ?_))
  dsimp only
  rw [ek, n64]
  refine ob_v (rg_A rfl (by decide) _ (by omega) (by decide)) ?_
  rw [es, hr]
  by_cases h : 0 ≤ r.toInt
  · refine ei_t ((c0 r).mpr h) (f233 _ ?_)
    rw [show ((r.toInt.natAbs : Nat) : Int) = r.toInt by omega]
    exact er
  · refine ei_n (fun p => h ((c0 r).mp p)) (f233 _ ?_)
    rw [show ((r.toInt.natAbs : Nat) : Int) = -r.toInt by omega, ← lI_neg, ← er]
theorem m_fw_h {H0 : Nat → Int64} {J : Nat → Nat → Int32} {W H c t j i ii jj M N : Nat} (hA : aI y W H J) (h3 : 8 * ii + 8 ≤ W) (h4 : 8 * jj + 8 ≤ H) (hi : i < 8) (hj : j < 8) :
    fX15_forward_26 X (fX15_forward_3 X M) (fX15_forward_13 X (fX15_forward_3 X M) N) FU (b + 0) (nI c) (nI t) (nI (8 * ii)) (nI (8 * jj)) (nI j) (nI i) 0 0 (rg_p lM b w0 (rg_wJ y 77 (fB 8 0 0 8 j i (fw1 (fwG J ii jj)) H0))) = fX15_forward_13 X (fX15_forward_3 X M) N (b + 0) (nI c) (nI t) (nI (8 * ii)) (nI (8 * jj)) (nI j) (nI (i + 1)) (rg_p lM b w0 (rg_wJ y 77 (fB 8 0 0 8 j (i + 1) (fw1 (fwG J ii jj)) H0))) := by
  obtain ⟨q1, q2, q3, q4, q5, q6, q7⟩ := hA
  have hm : W * H ≤ 66 * 66 := Nat.mul_le_mul q2 q4
  refine rg_lpF (F := fun u (p : Int64 × Int32) => fX15_forward_26 X (fX15_forward_3 X M) (fX15_forward_13 X (fX15_forward_3 X M) N) u (b + 0) (nI c) (nI t) (nI (8 * ii)) (nI (8 * jj)) (nI j) (nI i) p.1 p.2 (rg_p lM b w0 (rg_wJ y 77 (fB 8 0 0 8 j i (fw1 (fwG J ii jj)) H0)))) 8 (fun v => (sumL (fun v => (wvN 8 j v).toInt64 * fwG J ii jj i v) v, nI v)) (by omega) ?_ ?_
  · intro m v hv
    dsimp only
    rw [fX15_forward_26.eq_2]
    refine ei_n (nI_ge (b := 8) hv (by omega)) (ob_v (m_wave (n := 8) (by decide) (by decide) hj hv) (ob_v (rg_C rfl rfl) (ob_v (rg_I rfl rfl) ?_)))
    dsimp only
    have hrow : W * (8 * jj + v) + (8 * ii + i) < W * H := row_lt (by omega) (by omega)
    rw [wJ_1, q5, nI_add, pk_mul, nI_add, nI_add, Nat.add_assoc]
    refine ob_v (rg_A rfl (by decide) _ (by omega) (by decide)) ?_
    rw [wJ_3, q7 (8 * ii + i) (8 * jj + v) (by omega) (by omega), nI_1, sumL]
    rfl
  · intro m
    dsimp only
    rw [fX15_forward_26.eq_2]
    refine ei_t (by decide) ?_
    unfold fX15_forward_80
    refine ob_v (rg_C rfl rfl) (ob_v (m_round _ _) ?_)
    dsimp only
    rw [show (8 : Int32) * nI j + nI i = nI (8 * (0 + j) + (0 + i)) by rw [n8, Nat.zero_add, Nat.zero_add]]
    refine ob_v (rg_sJ rfl _ _ (by omega) (by decide)) ?_
    rw [wJ_wJ, wJ_s, nI_1]
    have e := fB_s (W := 8) (ax := 0) (ay := 0) (n := 8) (j := j) (i := i) (V := fw1 (fwG J ii jj)) (Z := H0) hi (by omega)
    rw [← e]
    rfl
/-- the coefficients -/
theorem m_fw_k {c t e : Nat} {st : Nat → Nat} (hc : c < 4) (ht : e + t < 192) (e62 : y.2.2.1 62 c = nI e) (ho : ∀ k, k < 64 → y.2.2.1 71 (zg k) = nI k) (hG : ∀ t j, t < 8 → j < 8 → (G t j).toInt.natAbs ≤ 128) (hs : ∀ k, k < 64 → y.2.2.1 63 (64 * c + k) = nI (st k) ∧ 1 ≤ st k ∧ st k ≤ 255) (hJ : ∀ t v, t < 8 → v < 8 → y.2.2.2 77 (8 * v + t) = fw1 G t v) :
    fX15_forward_115 X FU (b + 0) (nI c) (nI t) 0 (rg_p lM b w0 y) = some (rg_p lM b w0 (rg_wA y 64 (fW (e + t) 64 (fwW G st) (y.2.2.1 64)))) := by
  have e1 := rg_lpF (F := fun u (p : Int32 × px_W) => fX15_forward_115 X u (b + 0) (nI c) (nI t) p.1 p.2) 8 (fun v => (nI v, rg_p lM b w0 (rg_wA y 64 (fR (e + t) (8 * v) (fwW G st) (y.2.2.1 64))))) (r := some (rg_p lM b w0 (rg_wA y 64 (fW (e + t) 64 (fwW G st) (y.2.2.1 64))))) (by omega) ?_ ?_
  · refine Eq.trans ?_ e1
    dsimp only
    rw [fR_0, wA_id rfl, nI_0]
  · intro m v hv
    dsimp only
    rw [fX15_forward_115.eq_2]
    refine ei_n (nI_ge (b := 8) hv (by omega)) ?_
    refine rg_lpF (F := fun u (p : Int32 × px_W) => fX15_forward_125 X (fX15_forward_115 X m) u (b + 0) (nI c) (nI t) (nI v) p.1 p.2) 8 (fun u => (nI u, rg_p lM b w0 (rg_wA y 64 (fR (e + t) (8 * v + u) (fwW G st) (y.2.2.1 64))))) (by omega) ?_ ?_
    · intro N u hu
      dsimp only
      rw [fX15_forward_125.eq_2]
      refine ei_n (nI_ge (b := 8) hu (by omega)) ?_
      refine rg_lpF (F := fun n (p : Int64 × Int32) => fX15_forward_138 X (fX15_forward_115 X m) (fX15_forward_125 X (fX15_forward_115 X m) N) n (b + 0) (nI c) (nI t) (nI v) (nI u) p.1 p.2 (rg_p lM b w0 (rg_wA y 64 (fR (e + t) (8 * v + u) (fwW G st) (y.2.2.1 64))))) 8 (fun q => (sumL (fun t => (wvN 8 u t).toInt64 * fw1 G t v) q, nI q)) (by omega) ?_ ?_
      · intro n q hq
        dsimp only
        rw [fX15_forward_138.eq_2]
        refine ei_n (nI_ge (b := 8) hq (by omega)) (ob_v (m_wave (n := 8) (by decide) (by decide) hu hq) (ob_v (rg_C rfl rfl) ?_))
        rw [n8]
        refine ob_v (rg_J rfl _ (by omega) (by decide)) ?_
        dsimp only
        rw [wA_4, hJ q v hq hv, nI_1, sumL]
      · intro n
        dsimp only
        rw [fX15_forward_138.eq_2]
        refine ei_t (by decide) ?_
        have h64 : 8 * v + u < 64 := by omega
        have hz := iz_lt h64
        have hzz := zg_iz h64
        have eo : y.2.2.1 71 (8 * v + u) = nI (iz (8 * v + u)) := by
          have := ho _ hz
          rw [hzz] at this
          exact this
        have hb : (rnd (sumL (fun t => (wvN 8 u t).toInt64 * fw1 G t v) 8) 17).toInt.natAbs ≤ 2048 := fw2_b hG
        rw [m_fw_v (y := rg_wA y 64 (fR (e + t) (8 * v + u) (fwW G st) (y.2.2.1 64))) hc ht e62 hv hu hz eo (hs _ hz).1 (hs _ hz).2.1 (hs _ hz).2.2 hb]
        have ew : fwV (iz (8 * v + u)) (rnd (sumL (fun t => (wvN 8 u t).toInt64 * fw1 G t v) 8) 17).toInt (st (iz (8 * v + u))) = fwW G st (iz (8 * v + u)) := by
          unfold fwW
          rw [hzz, show (8 * v + u) % 8 = u by omega, show (8 * v + u) / 8 = v by omega]
          rfl
        rw [ew, wA_wA, wA_s, fR_s _ h64, Nat.add_assoc]
    · intro N
      dsimp only
      rw [fX15_forward_125.eq_2]
      refine ei_t (by decide) ?_
      rw [fX15_forward_341, nI_1, show 8 * v + 8 = 8 * (v + 1) by omega]
  · intro m
    dsimp only
    rw [fX15_forward_115.eq_2, ← fR_64]
    exact ei_t (by decide) rfl
theorem m_forward {J : Nat → Nat → Int32} {W H c t e ii jj : Nat} {st : Nat → Nat} (hA : aI y W H J) (hby : ∀ i j, i < W → j < H → ∃ c, c < 256 ∧ J i j = nI c) (h3 : 8 * ii + 8 ≤ W) (h4 : 8 * jj + 8 ≤ H) (hc : c < 4) (ht : e + t < 192) (e62 : y.2.2.1 62 c = nI e) (ho : ∀ k, k < 64 → y.2.2.1 71 (zg k) = nI k) (hs : ∀ k, k < 64 → y.2.2.1 63 (64 * c + k) = nI (st k) ∧ 1 ≤ st k ∧ st k ≤ 255) :
    ∃ y', fX15_forward X (rg_p lM b w0 y) (b + 0) (nI c) (nI t) (nI (8 * ii)) (nI (8 * jj)) = some (rg_p lM b w0 y') ∧ y'.1 = y.1 ∧ y'.2.1 = y.2.1 ∧ (∀ o, o ≠ 64 → y'.2.2.1 o = y.2.2.1 o) ∧ y'.2.2.1 64 = fW (e + t) 64 (fwW (fwG J ii jj) st) (y.2.2.1 64) := by
  have hG : ∀ t j, t < 8 → j < 8 → (fwG J ii jj t j).toInt.natAbs ≤ 128 := by
    intro t j t8 j8
    obtain ⟨c, hc, e⟩ := hby (8 * ii + t) (8 * jj + j) (by omega) (by omega)
    unfold fwG
    rw [e, Int32.toInt_toInt64, show (128 : Int32) = nI 128 from rfl, iI_n, iI_n, iI_sub, iI_t (by omega) (by omega)]
    omega
  refine ⟨rg_wA (rg_wJ y 77 (fB 8 0 0 8 8 0 (fw1 (fwG J ii jj)) (y.2.2.2 77))) 64 (fW (e + t) 64 (fwW (fwG J ii jj) st) (y.2.2.1 64)), ?_, rfl, rfl, fun o ho => wA_n _ _ ho, wA_s _ _ _⟩
  unfold fX15_forward
  have e1 := rg_lpF (F := fun u (p : Int32 × px_W) => fX15_forward_3 X u (b + 0) (nI c) (nI t) (nI (8 * ii)) (nI (8 * jj)) p.1 p.2) 8 (fun j => (nI j, rg_p lM b w0 (rg_wJ y 77 (fB 8 0 0 8 j 0 (fw1 (fwG J ii jj)) (y.2.2.2 77))))) (r := some (rg_p lM b w0 (rg_wA (rg_wJ y 77 (fB 8 0 0 8 8 0 (fw1 (fwG J ii jj)) (y.2.2.2 77))) 64 (fW (e + t) 64 (fwW (fwG J ii jj) st) (y.2.2.1 64))))) (by omega) ?_ ?_
  · refine Eq.trans ?_ e1
    dsimp only
    rw [fB_0, wJ_id rfl, nI_0]
  · intro m j hj
    dsimp only
    rw [fX15_forward_3.eq_2]
    refine ei_n (nI_ge (b := 8) hj (by omega)) ?_
    refine rg_lpF (F := fun u (p : Int32 × px_W) => fX15_forward_13 X (fX15_forward_3 X m) u (b + 0) (nI c) (nI t) (nI (8 * ii)) (nI (8 * jj)) (nI j) p.1 p.2) 8 (fun i => (nI i, rg_p lM b w0 (rg_wJ y 77 (fB 8 0 0 8 j i (fw1 (fwG J ii jj)) (y.2.2.2 77))))) (by omega) ?_ ?_
    · intro u i hi
      dsimp only
      rw [fX15_forward_13.eq_2]
      exact ei_n (nI_ge (b := 8) hi (by omega)) (m_fw_h hA h3 h4 hi hj)
    · intro u
      dsimp only
      rw [fX15_forward_13.eq_2]
      refine ei_t (by decide) ?_
      rw [fX15_forward_106, nI_1, fB_row]
  · intro m
    dsimp only
    rw [fX15_forward_3.eq_2]
    refine ei_t (by decide) ?_
    unfold fX15_forward_112
    refine m_fw_k (y := rg_wJ y 77 (fB 8 0 0 8 8 0 (fw1 (fwG J ii jj)) (y.2.2.2 77))) hc ht e62 ho hG hs (fun t v h1 h2 => ?_)
    rw [wJ_s]
    have := fB_in (W := 8) (ax := 0) (ay := 0) (n := 8) (j := 8) (i := 0) (a := t) (c := v) (V := fw1 (fwG J ii jj)) (Z := y.2.2.2 77) h1 (by omega) h2
    rw [Nat.zero_add, Nat.zero_add] at this
    exact this
end
