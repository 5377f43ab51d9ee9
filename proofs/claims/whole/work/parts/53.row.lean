/-! canvasRow, canvasEight -/
def cr_b (v : Int64) (k : Nat) : Int32 := ((v >>> ((56 - 8 * nI k).toInt64 &&& 63)).toInt32) &&& 255
def cr_f (f : Nat → Int32) (o n : Nat) (v : Int64) : Nat → Int32 := fun i => if o ≤ i ∧ i < o + n then cr_b v (i - o) else f i
theorem cr_0 (f : Nat → Int32) (o : Nat) (v : Int64) : cr_f f o 0 v = f := by
  funext i
  unfold cr_f
  rw [if_neg (by omega)]
theorem cr_s (f : Nat → Int32) (o n : Nat) (v : Int64) : upd (cr_f f o n v) (o + n) (cr_b v n) = cr_f f o (n + 1) v := by
  funext i
  unfold cr_f upd
  dsimp only
  by_cases e : i = o + n
  · subst e
    rw [if_pos rfl, if_pos (by omega), Nat.add_sub_cancel_left]
  · rw [if_neg e]
    by_cases h2 : o ≤ i ∧ i < o + n
    · rw [if_pos h2, if_pos (by omega)]
    · rw [if_neg h2, if_neg (by omega)]
theorem t255l : ∀ j : Fin 32, (255#64)[j.val]'(Nat.lt_of_lt_of_le j.isLt (by decide)) = (255#32)[j.val]'(j.isLt) := by decide
theorem and_l255 (z : Int64) : (z &&& 255).toInt32 = z.toInt32 &&& 255 := by
  apply Int32.toBitVec_inj.mp
  ext i hi
  have t := t255l ⟨i, hi⟩
  simp only [Int64.toBitVec_toInt32, Int64.toBitVec_and, Int32.toBitVec_and, BitVec.getElem_signExtend, BitVec.getElem_and]
  simp [show i < 64 by omega]
  exact congrArg _ t
theorem mm8 {a : Nat} (h : a < 2 ^ 31) : mmin 8 (nI a) = nI (min 8 a) := by
  unfold mmin
  by_cases e : a < 8
  · rw [if_pos (show nI a < 8 from nI_lt (b := 8) e (by omega)), Nat.min_eq_right (by omega)]
  · rw [if_neg (show ¬ nI a < 8 from nI_nlt (b := 8) (by omega) h), Nat.min_eq_left (by omega)]
    rfl
section
variable {X : px_X} {b B : Nat} {w0 : px_W}
theorem x_row_l {x : rg_S} {p i j n : Nat} {v : Int64} (hp : p < 4) (hi : i + n ≤ 32) (hj : j < 32) : fX11_canvasRow_66 X FU (B + 0) (nI p) (nI i) (nI j) v (nI n) 0 (rg_p lX B w0 x) = some (1, rg_p lX B w0 (rg_wA x (24 + 2 * p + 1) (cr_f (x.2.2.1 (24 + 2 * p + 1)) (32 * j + i) n v))) := by
  have h := rg_lpF (F := fun m (q : Int32 × px_W) => fX11_canvasRow_66 X m (B + 0) (nI p) (nI i) (nI j) v (nI n) q.1 q.2) n (fun k => (nI k, rg_p lX B w0 (rg_wA x (24 + 2 * p + 1) (cr_f (x.2.2.1 (24 + 2 * p + 1)) (32 * j + i) k v)))) (r := some (1, rg_p lX B w0 (rg_wA x (24 + 2 * p + 1) (cr_f (x.2.2.1 (24 + 2 * p + 1)) (32 * j + i) n v)))) (by omega) ?_ ?_
  · refine Eq.trans ?_ h
    show fX11_canvasRow_66 X FU (B + 0) (nI p) (nI i) (nI j) v (nI n) 0 (rg_p lX B w0 x) = fX11_canvasRow_66 X FU (B + 0) (nI p) (nI i) (nI j) v (nI n) (nI 0) (rg_p lX B w0 (rg_wA x (24 + 2 * p + 1) (cr_f (x.2.2.1 (24 + 2 * p + 1)) (32 * j + i) 0 v)))
    rw [cr_0, wA_id rfl, nI_0]
  · intro m k hk
    show fX11_canvasRow_66 X (m + 1) (B + 0) (nI p) (nI i) (nI j) v (nI n) (nI k) _ = fX11_canvasRow_66 X m (B + 0) (nI p) (nI i) (nI j) v (nI n) (nI (k + 1)) _
    dsimp only
    rw [fX11_canvasRow_66.eq_2, if_neg (nI_ge hk (by omega))]
    refine ob_v (rg_C rfl rfl) ?_
    refine ob_v (x_plane hp) ?_
    refine ob_v (rg_C (pl_o (by omega)) rfl) ?_
    rw [show (32 * nI j + nI i + nI k : Int32) = nI (32 * j + i + k) by rw [← nI_add, ← nI_add, ← pk_mul]; rfl]
    refine ob_v (rg_sA _ (pl_a (by omega)) (by decide) (32 * j + i + k) _ (by omega) (by decide)) ?_
    rw [nI_1, wA_wA, wA_s, ← cr_s]
    rfl
  · intro m
    show fX11_canvasRow_66 X (m + 1) (B + 0) (nI p) (nI i) (nI j) v (nI n) (nI n) _ = _
    dsimp only
    rw [fX11_canvasRow_66.eq_2, if_pos (nI_le (Nat.le_refl _) (by omega))]
theorem x_row {x : rg_S} {p i j w h : Nat} {v : Int64} (hp : p < 4) (hw : x.1 (24 + 2 * p) 0 = nI w) (hh : x.1 (24 + 2 * p) 1 = nI h) (w2 : w ≤ 32) (h2 : h ≤ 32) (hi : i < w) (hj : j < h) : fX11_canvasRow X (rg_p lX B w0 x) (B + 0) (nI p) (nI i) (nI j) v = some (1, rg_p lX B w0 (rg_wA x (24 + 2 * p + 1) (cr_f (x.2.2.1 (24 + 2 * p + 1)) (32 * j + i) (min 8 (w - i)) v))) := by
  unfold fX11_canvasRow
  rw [if_neg (nI_pos (by omega))]
  refine ei_n (nI_nlt (b := p) (a := 3) (by omega) (by omega)) ?_
  rw [if_neg (nI_pos (by omega))]
  refine ob_v (rg_C rfl rfl) ?_
  refine ob_v (x_plane hp) ?_
  refine ob_v (rg_I (pl_o (by omega)) rfl) ?_
  rw [hw, if_neg (nI_ge hi (by omega)), if_neg (nI_pos (by omega))]
  refine ob_v (rg_C rfl rfl) ?_
  refine ob_v (x_plane hp) ?_
  refine ob_v (rg_I (pl_o (by omega)) rfl) ?_
  rw [hh, if_pos (nI_lt hj (by omega))]
  refine ob_v (rg_C rfl rfl) ?_
  refine ob_v (x_plane hp) ?_
  refine ob_v (rg_I (pl_o (by omega)) rfl) ?_
  rw [hw, pk_sub (by omega), mm8 (by omega), x_row_l hp (by omega) (by omega)]
theorem x_rowN {x : rg_S} {p i j : Int32} {w h : Nat → Nat} {v : Int64} (hw : ∀ p, p < 4 → x.1 (24 + 2 * p) 0 = nI (w p)) (hh : ∀ p, p < 4 → x.1 (24 + 2 * p) 1 = nI (h p)) (w2 : ∀ p, p < 4 → w p ≤ 32 ∧ h p ≤ 32) (hn : ¬ ∃ q k l, q < 4 ∧ p = nI q ∧ k < w q ∧ i = nI k ∧ l < h q ∧ j = nI l) : fX11_canvasRow X (rg_p lX B w0 x) (B + 0) p i j v = some (0, rg_p lX B w0 x) := by
  unfold fX11_canvasRow
  by_cases h1 : p < 0
  · rw [if_pos h1]
  rw [if_neg h1]
  by_cases h2 : 3 < p
  · rw [if_pos h2]
  rw [if_neg h2]
  obtain ⟨q, hq, rfl⟩ : ∃ q, q < 4 ∧ p = nI q := by
    obtain ⟨q, hq, e⟩ := nI_of2 (M := 3) (n := 3) rfl h1 (Int32.not_lt.mp h2)
    exact ⟨q, by omega, e⟩
  have hw2 := w2 q hq
  by_cases h3 : i < 0
  · rw [if_pos h3]
  rw [if_neg h3]
  refine ob_v (rg_C rfl rfl) ?_
  refine ob_v (x_plane hq) ?_
  refine ob_v (rg_I (pl_o (by omega)) rfl) ?_
  rw [hw q hq]
  by_cases h4 : nI (w q) ≤ i
  · rw [if_pos h4]
  rw [if_neg h4]
  by_cases h5 : j < 0
  · rw [if_pos h5]
  rw [if_neg h5]
  refine ob_v (rg_C rfl rfl) ?_
  refine ob_v (x_plane hq) ?_
  refine ob_v (rg_I (pl_o (by omega)) rfl) ?_
  rw [hh q hq, if_neg]
  intro h6
  obtain ⟨k, hk, rfl⟩ : ∃ k, k < w q ∧ i = nI k := (i_place i (n := w q) (by omega)).resolve_right (fun e => e.elim h3 h4)
  obtain ⟨l, hl, rfl⟩ : ∃ l, l < h q ∧ j = nI l := (i_place j (n := h q) (by omega)).resolve_right (fun e => e.elim h5 (fun e => absurd h6 (Int32.not_lt.mpr e)))
  exact hn ⟨q, k, l, hq, rfl, hk, rfl, hl, rfl⟩
/-- a sample's place -/
theorem lgc (x y : Int64) : lg_cmp x y < 0 ↔ x < y := by
  constructor
  · intro h
    refine Int64.not_le.mp (fun e => ?_)
    exact absurd h (Int32.not_lt.mpr ((lg_cmp_ge x y).mpr e))
  · intro h
    refine Int32.not_le.mp (fun e => ?_)
    exact absurd h (Int64.not_lt.mpr ((lg_cmp_ge x y).mp e))
theorem m_isSample {y : rg_S} {p w h : Nat} {k l : Int64} (hp : p < 4) (hw : y.2.2.1 73 p = nI w) (hh : y.2.2.1 74 p = nI h) (w2 : w ≤ 32) (h2 : h ≤ 32) : fX15_isSample X (rg_p lM b w0 y) (b + 0) (nI p) k l = some (if 0 ≤ k.toInt ∧ k.toInt < w ∧ 0 ≤ l.toInt ∧ l.toInt < h then 1 else 0, rg_p lM b w0 y) := by
  unfold fX15_isSample
  have z : (0 : Int64).toInt = 0 := by decide
  refine ob_v (m_isPlane hp) ?_
  refine ei_n n10 ?_
  by_cases h3 : k < 0
  · rw [if_pos ((lgc k 0).mpr h3), if_neg]
    rw [Int64.lt_iff_toInt_lt, z] at h3
    omega
  rw [if_neg (fun e => h3 ((lgc k 0).mp e))]
  refine ob_v (rg_C rfl rfl) ?_
  refine ob_v (rg_A rfl (by decide) p (by omega) (by decide)) ?_
  rw [hw, nI_l (by omega)]
  rw [Int64.lt_iff_toInt_lt, z] at h3
  by_cases h4 : lN w ≤ k
  · rw [if_pos ((lg_cmp_ge k (lN w)).mpr h4), if_neg]
    rw [Int64.le_iff_toInt_le, lN_toInt (by omega)] at h4
    omega
  rw [if_neg (fun e => h4 ((lg_cmp_ge k (lN w)).mp e))]
  rw [Int64.le_iff_toInt_le, lN_toInt (by omega)] at h4
  by_cases h5 : l < 0
  · rw [if_pos ((lgc l 0).mpr h5), if_neg]
    rw [Int64.lt_iff_toInt_lt, z] at h5
    omega
  rw [if_neg (fun e => h5 ((lgc l 0).mp e))]
  refine ob_v (rg_C rfl rfl) ?_
  refine ob_v (rg_A rfl (by decide) p (by omega) (by decide)) ?_
  rw [hh, nI_l (by omega)]
  rw [Int64.lt_iff_toInt_lt, z] at h5
  by_cases h6 : lN h ≤ l
  · rw [if_pos ((lg_cmp_ge l (lN h)).mpr h6), if_neg]
    rw [Int64.le_iff_toInt_le, lN_toInt (by omega)] at h6
    omega
  rw [if_neg (fun e => h6 ((lg_cmp_ge l (lN h)).mp e))]
  rw [Int64.le_iff_toInt_le, lN_toInt (by omega)] at h6
  rw [if_pos (by omega)]
theorem m_isS1 {y : rg_S} {p w h : Nat} {k l : Int64} (hp : p < 4) (hw : y.2.2.1 73 p = nI w) (hh : y.2.2.1 74 p = nI h) (w2 : w ≤ 32) (h2 : h ≤ 32) (hc : 0 ≤ k.toInt ∧ k.toInt < w ∧ 0 ≤ l.toInt ∧ l.toInt < h) : fX15_isSample X (rg_p lM b w0 y) (b + 0) (nI p) k l = some (1, rg_p lM b w0 y) := by rw [m_isSample hp hw hh w2 h2, if_pos hc]
theorem m_isS0 {y : rg_S} {p w h : Nat} {k l : Int64} (hp : p < 4) (hw : y.2.2.1 73 p = nI w) (hh : y.2.2.1 74 p = nI h) (w2 : w ≤ 32) (h2 : h ≤ 32) (hc : ¬ (0 ≤ k.toInt ∧ k.toInt < w ∧ 0 ≤ l.toInt ∧ l.toInt < h)) : fX15_isSample X (rg_p lM b w0 y) (b + 0) (nI p) k l = some (0, rg_p lM b w0 y) := by rw [m_isSample hp hw hh w2 h2, if_neg hc]
theorem m_isSampleN {y : rg_S} {p : Int32} {k l : Int64} (hp : p < 0 ∨ 4 ≤ p) : fX15_isSample X (rg_p lM b w0 y) (b + 0) p k l = some (0, rg_p lM b w0 y) := by
  unfold fX15_isSample
  refine ob_v (m_isPlaneN hp) ?_
  rfl
end
/-! the reference's canvasRow, and canvasEight on both sides -/
/-- eight samples, the first highest -/
def ce_f (g : Nat → Int32) : Nat → Int64
  | 0 => 0
  | k + 1 => ce_f g k <<< ((8 : Int32).toInt64 &&& 63) ||| (g k).toInt64
theorem ce_z : ce_f (fun _ => 0) 8 = 0 := by decide
section
variable {X : px_X} {b B : Nat} {w0 : px_W}
theorem m_row_l {y : rg_S} {p i j w n : Nat} {v : Int64} (hp : p < 4) (hw : y.2.2.1 73 p = nI w) (w2 : w ≤ 32) (hi : i < w) (hj : j < 32) (hn : n = min 8 (w - i)) : fX15_canvasRow_17 X FU (b + 0) (nI p) (nI i) (nI j) v 0 (rg_p lM b w0 y) = some (1, rg_p lM b w0 (rg_wA y 72 (cr_f (y.2.2.1 72) (1024 * p + w * j + i) n v))) := by
  have hm : w * j ≤ 32 * 31 := Nat.mul_le_mul w2 (by omega)
  have h := rg_lpF (F := fun m (q : Int32 × px_W) => fX15_canvasRow_17 X m (b + 0) (nI p) (nI i) (nI j) v q.1 q.2) n (fun k => (nI k, rg_p lM b w0 (rg_wA y 72 (cr_f (y.2.2.1 72) (1024 * p + w * j + i) k v)))) (r := some (1, rg_p lM b w0 (rg_wA y 72 (cr_f (y.2.2.1 72) (1024 * p + w * j + i) n v)))) (by omega) ?_ ?_
  · refine Eq.trans ?_ h
    show fX15_canvasRow_17 X FU (b + 0) (nI p) (nI i) (nI j) v 0 (rg_p lM b w0 y) = fX15_canvasRow_17 X FU (b + 0) (nI p) (nI i) (nI j) v (nI 0) (rg_p lM b w0 (rg_wA y 72 (cr_f (y.2.2.1 72) (1024 * p + w * j + i) 0 v)))
    rw [cr_0, wA_id rfl, nI_0]
  · intro m k hk
    show fX15_canvasRow_17 X (m + 1) (b + 0) (nI p) (nI i) (nI j) v (nI k) _ = fX15_canvasRow_17 X m (b + 0) (nI p) (nI i) (nI j) v (nI (k + 1)) _
    dsimp only
    rw [fX15_canvasRow_17.eq_2]
    refine ei_n (nI_ge (b := 8) (by omega) (by omega)) ?_
    refine ob_v (rg_C rfl rfl) ?_
    refine ob_v (rg_A rfl (by decide) p (by omega) (by decide)) ?_
    rw [wA_n _ _ (by decide), hw, nI_add, if_neg (nI_ge (by omega) (by omega))]
    refine ob_v (rg_C rfl rfl) ?_
    refine ob_v (rg_C rfl rfl) ?_
    refine ob_v (rg_A rfl (by decide) p (by omega) (by decide)) ?_
    rw [wA_n _ _ (by decide), hw, show (1024 * nI p + nI w * nI j + nI i + nI k : Int32) = nI (1024 * p + w * j + i + k) by rw [← nI_add, ← nI_add, ← nI_add, ← pk_mul, ← pk_mul]; rfl]
    refine ob_v (rg_sA _ rfl (by decide) (1024 * p + w * j + i + k) _ (by omega) (by decide)) ?_
    rw [nI_1, wA_wA, wA_s, and_l255, ← cr_s]
    rfl
  · intro m
    show fX15_canvasRow_17 X (m + 1) (b + 0) (nI p) (nI i) (nI j) v (nI n) _ = _
    dsimp only
    rw [fX15_canvasRow_17.eq_2]
    by_cases h8 : 8 ≤ n
    · exact ei_t (nI_le (a := 8) h8 (by omega)) rfl
    · refine ei_n (nI_ge (b := 8) (by omega) (by omega)) ?_
      refine ob_v (rg_C rfl rfl) ?_
      refine ob_v (rg_A rfl (by decide) p (by omega) (by decide)) ?_
      rw [wA_n _ _ (by decide), hw, nI_add, if_pos (nI_le (by omega) (by omega))]
theorem m_row {y : rg_S} {p i j w h : Nat} {v : Int64} (hp : p < 4) (hw : y.2.2.1 73 p = nI w) (hh : y.2.2.1 74 p = nI h) (w2 : w ≤ 32) (h2 : h ≤ 32) (hi : i < w) (hj : j < h) : fX15_canvasRow X (rg_p lM b w0 y) (b + 0) (nI p) (nI i) (nI j) v = some (1, rg_p lM b w0 (rg_wA y 72 (cr_f (y.2.2.1 72) (1024 * p + w * j + i) (min 8 (w - i)) v))) := by
  unfold fX15_canvasRow
  refine ob_v (rg_O rfl) ?_
  refine ob_v (m_isS1 hp hw hh w2 h2 ?_) ?_
  · rw [Int32.toInt_toInt64, Int32.toInt_toInt64, nI_toInt (by omega), nI_toInt (by omega)]
    omega
  refine ei_n n10 ?_
  exact m_row_l hp hw w2 hi (by omega) rfl
theorem m_rowN {y : rg_S} {p i j : Int32} {w h : Nat → Nat} {v : Int64} (hw : ∀ p, p < 4 → y.2.2.1 73 p = nI (w p)) (hh : ∀ p, p < 4 → y.2.2.1 74 p = nI (h p)) (w2 : ∀ p, p < 4 → w p ≤ 32 ∧ h p ≤ 32) (hn : ¬ ∃ q k l, q < 4 ∧ p = nI q ∧ k < w q ∧ i = nI k ∧ l < h q ∧ j = nI l) : fX15_canvasRow X (rg_p lM b w0 y) (b + 0) p i j v = some (0, rg_p lM b w0 y) := by
  unfold fX15_canvasRow
  refine ob_v (rg_O rfl) ?_
  rcases i_place p (n := 4) (by decide) with ⟨q, hq, rfl⟩ | hp
  · have hw2 := w2 q hq
    refine ob_v (m_isS0 hq (hw q hq) (hh q hq) hw2.1 hw2.2 ?_) rfl
    rw [Int32.toInt_toInt64, Int32.toInt_toInt64]
    intro e
    refine hn ⟨q, i.toInt.toNat, j.toInt.toNat, hq, rfl, by omega, ?_, by omega, ?_⟩
    · rw [← iI_nat (by omega)]; exact iI_of i
    · rw [← iI_nat (by omega)]; exact iI_of j
  · refine ob_v (m_isSampleN hp) ?_
    rfl
theorem m_eight {y : rg_S} {p w h : Nat} {c d : Int32} (hp : p < 4) (hw : y.2.2.1 73 p = nI w) (hh : y.2.2.1 74 p = nI h) (w2 : w ≤ 32) (h2 : h ≤ 32) : fX15_canvasEight X (rg_p lM b w0 y) (b + 0) (nI p) c d = some (ce_f (fun k => if 0 ≤ c.toInt + k ∧ c.toInt + k < w ∧ 0 ≤ d.toInt ∧ d.toInt < h then y.2.2.1 72 (1024 * p + w * d.toInt.toNat + (c.toInt + k).toNat) else 0) 8, rg_p lM b w0 y) := by
  have c1 := i_lo c
  have c2 := i_hi c
  unfold fX15_canvasEight
  refine rg_lpF (F := fun m (q : Int64 × Int32) => fX15_canvasEight_6 X m (b + 0) (nI p) c d q.1 q.2 (rg_p lM b w0 y)) 8 (fun k => (ce_f (fun k => if 0 ≤ c.toInt + k ∧ c.toInt + k < w ∧ 0 ≤ d.toInt ∧ d.toInt < h then y.2.2.1 72 (1024 * p + w * d.toInt.toNat + (c.toInt + k).toNat) else 0) k, nI k)) (by omega) ?_ ?_
  · intro m k hk
    show fX15_canvasEight_6 X (m + 1) (b + 0) (nI p) c d _ (nI k) _ = fX15_canvasEight_6 X m (b + 0) (nI p) c d _ (nI (k + 1)) _
    dsimp only
    rw [fX15_canvasEight_6.eq_2]
    refine ei_n (nI_ge (b := 8) (by omega) (by omega)) ?_
    refine ob_v (rg_O rfl) ?_
    have e : (c.toInt64 + (nI k).toInt64).toInt = c.toInt + k := by
      rw [i_l, i_l, n_t (by omega), lI_add, lI_t (by omega) (by omega)]
    rw [ce_f]
    by_cases hc : 0 ≤ c.toInt + k ∧ c.toInt + k < w ∧ 0 ≤ d.toInt ∧ d.toInt < h
    · refine ob_v (m_isS1 hp hw hh w2 h2 (by rw [e, Int32.toInt_toInt64]; exact hc)) ?_
      refine ei_n n10 ?_
      rw [if_pos hc]
      refine ob_v (rg_C rfl rfl) ?_
      refine ob_v (rg_C rfl rfl) ?_
      refine ob_v (rg_A rfl (by decide) p (by omega) (by decide)) ?_
      have hm : w * d.toInt.toNat ≤ 32 * 31 := Nat.mul_le_mul w2 (by omega)
      have e2 : 1024 * nI p + nI w * d + c + nI k = nI (1024 * p + w * d.toInt.toNat + (c.toInt + k).toNat) := by
        have ed : d = nI d.toInt.toNat := by rw [← iI_nat (by omega)]; exact iI_of d
        have ec : c + nI k = nI (c.toInt + k).toNat := by rw [← iI_nat (by omega), ← iI_add, ← iI_of, iI_n]
        rw [Int32.add_assoc, ec, ← nI_add, ← nI_add, ← pk_mul, ← pk_mul, ← ed]
        rfl
      rw [hw, e2]
      refine ob_v (rg_A rfl (by decide) _ (by omega) (by decide)) ?_
      rw [fX15_canvasEight_62, nI_1]
    · refine ob_v (m_isS0 hp hw hh w2 h2 (by rw [e, Int32.toInt_toInt64]; exact hc)) ?_
      refine ei_t rfl ?_
      rw [if_neg hc, fX15_canvasEight_62, nI_1]
  · intro m
    show fX15_canvasEight_6 X (m + 1) (b + 0) (nI p) c d _ (nI 8) _ = _
    dsimp only
    rw [fX15_canvasEight_6.eq_2, if_pos (by decide)]
theorem m_eightN {y : rg_S} {p c d : Int32} (hp : p < 0 ∨ 4 ≤ p) : fX15_canvasEight X (rg_p lM b w0 y) (b + 0) p c d = some (0, rg_p lM b w0 y) := by
  unfold fX15_canvasEight
  rw [← ce_z]
  refine rg_lpF (F := fun m (q : Int64 × Int32) => fX15_canvasEight_6 X m (b + 0) p c d q.1 q.2 (rg_p lM b w0 y)) 8 (fun k => (ce_f (fun _ => 0) k, nI k)) (by omega) ?_ ?_
  · intro m k hk
    show fX15_canvasEight_6 X (m + 1) (b + 0) p c d _ (nI k) _ = fX15_canvasEight_6 X m (b + 0) p c d _ (nI (k + 1)) _
    dsimp only
    rw [fX15_canvasEight_6.eq_2]
    refine ei_n (nI_ge (b := 8) (by omega) (by omega)) ?_
    refine ob_v (rg_O rfl) ?_
    refine ob_v (m_isSampleN hp) ?_
    rw [if_pos rfl, ce_f, fX15_canvasEight_62, nI_1]
  · intro m
    show fX15_canvasEight_6 X (m + 1) (b + 0) p c d _ (nI 8) _ = _
    dsimp only
    rw [fX15_canvasEight_6.eq_2, if_pos (by decide)]
theorem x_eight_l {x : rg_S} {p w j : Nat} {c : Int32} (hp : p < 4) (hw : x.1 (24 + 2 * p) 0 = nI w) (w2 : w ≤ 32) (hj : j < 32) (c1 : -7 ≤ c.toInt) (c2 : c.toInt < w) : fX11_canvasEight_53 X FU (B + 0) (nI p) c (nI j) 0 c (rg_p lX B w0 x) = some (ce_f (fun k => if 0 ≤ c.toInt + k ∧ c.toInt + k < w then x.2.2.1 (24 + 2 * p + 1) (32 * j + (c.toInt + k).toNat) else 0) 8, rg_p lX B w0 x) := by
  have h := rg_lpF (F := fun m (q : Int64 × Int32) => fX11_canvasEight_53 X m (B + 0) (nI p) c (nI j) q.1 q.2 (rg_p lX B w0 x)) 8 (fun k => (ce_f (fun k => if 0 ≤ c.toInt + k ∧ c.toInt + k < w then x.2.2.1 (24 + 2 * p + 1) (32 * j + (c.toInt + k).toNat) else 0) k, iI (c.toInt + k))) (r := some (ce_f (fun k => if 0 ≤ c.toInt + k ∧ c.toInt + k < w then x.2.2.1 (24 + 2 * p + 1) (32 * j + (c.toInt + k).toNat) else 0) 8, rg_p lX B w0 x)) (by omega) ?_ ?_
  · refine Eq.trans ?_ h
    show fX11_canvasEight_53 X FU (B + 0) (nI p) c (nI j) 0 c (rg_p lX B w0 x) = fX11_canvasEight_53 X FU (B + 0) (nI p) c (nI j) 0 (iI (c.toInt + (0 : Nat))) (rg_p lX B w0 x)
    rw [Int.natCast_zero, Int.add_zero, ← iI_of]
  · intro m k hk
    show fX11_canvasEight_53 X (m + 1) (B + 0) (nI p) c (nI j) _ (iI (c.toInt + k)) _ = fX11_canvasEight_53 X m (B + 0) (nI p) c (nI j) _ (iI (c.toInt + (k + 1 : Nat))) _
    dsimp only
    have e8 : c + 8 = iI (c.toInt + 8) := by rw [← iI_add, ← iI_of]; rfl
    have e1 : iI (c.toInt + k) + 1 = iI (c.toInt + (k + 1 : Nat)) := by
      rw [show (1 : Int32) = iI 1 from rfl, iI_add]
      congr 1
      omega
    rw [fX11_canvasEight_53.eq_2, e8, if_neg (by rw [iI_le (by omega) (by omega) (by omega) (by omega)]; omega), ce_f]
    by_cases h0 : iI (c.toInt + k) < 0
    · rw [if_pos h0]
      have h0' : c.toInt + k < 0 := (iI_lt (b := 0) (by omega) (by omega) (by omega) (by omega)).mp h0
      rw [if_neg (by omega), fX11_canvasEight_85, fX11_canvasEight_86, if_pos rfl, fX11_canvasEight_119, e1]
    · rw [if_neg h0]
      have h0' : ¬ c.toInt + k < 0 := fun e => h0 ((iI_lt (b := 0) (by omega) (by omega) (by omega) (by omega)).mpr e)
      refine ob_v (rg_C rfl rfl) ?_
      refine ob_v (x_plane hp) ?_
      refine ob_v (rg_I (pl_o (by omega)) rfl) ?_
      rw [hw, iI_n w]
      by_cases h3 : iI w ≤ iI (c.toInt + k)
      · rw [if_pos h3]
        have h3' : (w : Int) ≤ c.toInt + k := (iI_le (by omega) (by omega) (by omega) (by omega)).mp h3
        rw [if_neg (by omega), fX11_canvasEight_85, fX11_canvasEight_86, if_pos rfl, fX11_canvasEight_119, e1]
      · rw [if_neg h3]
        have h3' : ¬ (w : Int) ≤ c.toInt + k := fun e => h3 ((iI_le (by omega) (by omega) (by omega) (by omega)).mpr e)
        rw [if_pos (by omega), fX11_canvasEight_86, if_neg (by decide)]
        refine ob_v (rg_C rfl rfl) ?_
        refine ob_v (x_plane hp) ?_
        refine ob_v (rg_C (pl_o (by omega)) rfl) ?_
        rw [show 32 * nI j + iI (c.toInt + k) = nI (32 * j + (c.toInt + k).toNat) by rw [iI_nat (by omega), ← nI_add, ← pk_mul]; rfl]
        refine ob_v (rg_A (pl_a (by omega)) (by decide) _ (by omega) (by decide)) ?_
        rw [fX11_canvasEight_119, e1]
  · intro m
    show fX11_canvasEight_53 X (m + 1) (B + 0) (nI p) c (nI j) _ (iI (c.toInt + (8 : Nat))) _ = _
    dsimp only
    have e8 : c + 8 = iI (c.toInt + 8) := by rw [← iI_add, ← iI_of]; rfl
    rw [fX11_canvasEight_53.eq_2, e8, if_pos (by rw [iI_le (by omega) (by omega) (by omega) (by omega)]; omega)]
end
