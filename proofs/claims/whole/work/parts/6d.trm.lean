/-! the reference's transpose -/
def fT (g : gG) (V Z : Nat → Int32) (c k q : Nat) : Nat → Int32 := fun i => if i < 64 * gBs g c ∨ (i < 64 * gBs g (c + 1) ∧ (i % 64 < k ∨ i % 64 = k ∧ i / 64 < gBs g c + q)) then V i else Z i
theorem fT_eq {g : gG} {V Z : Nat → Int32} {c k q c' k' q' : Nat} (h : ∀ i, (i < 64 * gBs g c ∨ (i < 64 * gBs g (c + 1) ∧ (i % 64 < k ∨ i % 64 = k ∧ i / 64 < gBs g c + q))) ↔ (i < 64 * gBs g c' ∨ (i < 64 * gBs g (c' + 1) ∧ (i % 64 < k' ∨ i % 64 = k' ∧ i / 64 < gBs g c' + q')))) : fT g V Z c k q = fT g V Z c' k' q' := by
  funext i
  unfold fT
  by_cases e : i < 64 * gBs g c ∨ (i < 64 * gBs g (c + 1) ∧ (i % 64 < k ∨ i % 64 = k ∧ i / 64 < gBs g c + q))
  · rw [if_pos e, if_pos ((h i).mp e)]
  · rw [if_neg e, if_neg (fun f => e ((h i).mpr f))]
theorem fT_s {g : gG} {V Z : Nat → Int32} {c k q : Nat} (hq : gBs g c + q < gBs g (c + 1)) (hk : k < 64) : upd (fT g V Z c k q) (64 * (gBs g c + q) + k) (V (64 * (gBs g c + q) + k)) = fT g V Z c k (q + 1) := by
  funext i
  unfold upd
  by_cases e : i = 64 * (gBs g c + q) + k
  · rw [if_pos e]
    unfold fT
    rw [if_pos (by omega), e]
  · rw [if_neg e]
    unfold fT
    by_cases h : i < 64 * gBs g c ∨ (i < 64 * gBs g (c + 1) ∧ (i % 64 < k ∨ i % 64 = k ∧ i / 64 < gBs g c + q))
    · rw [if_pos h, if_pos (by omega)]
    · rw [if_neg h, if_neg (by omega)]
section
variable {X : px_X} {b B : Nat} {w0 w1 w : px_W} {x y : rg_S} {P Q : Nat} {g g' : gG} {F S : Nat → Int32} {m f : Nat}
def yT0 (y : rg_S) (g : gG) : rg_S := rg_wI (rg_wI (yK y) 0 18 (nI g.2.1)) 0 19 (nI g.1)
def yT1 (y : rg_S) (g : gG) (c : Nat) : rg_S := rg_wA (rg_wA (yT0 y g) 58 (fU c (y.2.2.1 59) (y.2.2.1 58))) 59 (fU c (y.2.2.1 58) (y.2.2.1 59))
def yT2 (y : rg_S) (g : gG) : rg_S := ySt (yT1 y g g.2.2.1) (gTr g) g.2.2.1
theorem m_tr_f (hg : gOk g) (hy : mPic y g) : fX15_transpose X (rg_p lM b w0 y) (b + 0) = fX15_transpose_64 X (b + 0) (rg_p lM b w0 (yT1 y g g.2.2.1)) := by
  have hc4 := hg.2.2.2.2.2.1
  unfold fX15_transpose
  refine ob_v (rg_O rfl) (ob_v m_keep (ob_v (rg_I rfl rfl) (ob_v (rg_I rfl rfl) (ob_v (rg_pI rfl rfl _) (ob_v (rg_pI rfl rfl _) ?_)))))
  rw [show (yK y).1 0 18 = nI g.1 from hy.1.1, show (yK y).1 0 19 = nI g.2.1 from hy.1.2.1]
  have e := rg_lpF (F := fun u (t : Int32 × px_W) => fX15_transpose_24 X u (b + 0) t.1 t.2) g.2.2.1 (fun c => (nI c, rg_p lM b w0 (yT1 y g c))) (r := fX15_transpose_64 X (b + 0) (rg_p lM b w0 (yT1 y g g.2.2.1))) (by omega) ?_ ?_
  · refine Eq.trans ?_ e
    dsimp only
    have e0 : yT1 y g 0 = yT0 y g := by
      unfold yT1
      rw [fU_0, fU_0, show rg_wA (yT0 y g) 58 (y.2.2.1 58) = yT0 y g from wA_id rfl, show rg_wA (yT0 y g) 59 (y.2.2.1 59) = yT0 y g from wA_id rfl]
    rw [e0, nI_0]
    rfl
  · intro u c hc
    dsimp only
    rw [fX15_transpose_24.eq_2]
    refine ob_v (rg_I rfl rfl) ?_
    rw [show (yT1 y g c).1 0 20 = nI g.2.2.1 from hy.1.2.2.1, if_neg (nI_ge hc (by omega))]
    refine ob_v (rg_C rfl rfl) (ob_v (rg_A rfl (by decide) c (by omega) (by decide)) (ob_v (rg_C rfl rfl) (ob_v (rg_C rfl rfl) (ob_v (rg_A rfl (by decide) c (by omega) (by decide)) (ob_v (rg_sA _ rfl (by decide) c _ (by omega) (by decide)) (ob_v (rg_C rfl rfl) (ob_v (rg_sA _ rfl (by decide) c _ (by omega) (by decide)) ?_)))))))
    have a1 : (yT1 y g c).2.2.1 58 = fU c (y.2.2.1 59) (y.2.2.1 58) := rfl
    have a2 : (yT1 y g c).2.2.1 59 = fU c (y.2.2.1 58) (y.2.2.1 59) := rfl
    rw [wA_n _ _ (by decide), a1, a2, fU_ge (Nat.le_refl c), fU_ge (Nat.le_refl c), id, id, fU_s, fU_s, nI_1]
    congr 2
    unfold yT1
    rw [wA_wA_ne _ _ _ (show 59 ≠ 58 by decide), wA_wA, wA_wA]
  · intro u
    dsimp only
    rw [fX15_transpose_24.eq_2]
    refine ob_v (rg_I rfl rfl) ?_
    rw [show (yT1 y g g.2.2.1).1 0 20 = nI g.2.2.1 from hy.1.2.2.1, if_pos (nI_le (Nat.le_refl _) (by omega))]
/-- the state in the loops -/
def yT (y2 : rg_S) (g : gG) (s0 s1 V Z : Nat → Int32) (s c k q : Nat) : rg_S := rg_wA (rg_wA y2 63 (fU s s0 s1)) 64 (fT g V Z c k q)
theorem yT_A (y2 : rg_S) (s0 s1 V Z : Nat → Int32) (s c k q o : Nat) (h : o ≠ 63) (h2 : o ≠ 64) : (yT y2 g s0 s1 V Z s c k q).2.2.1 o = y2.2.2.1 o := by
  unfold yT
  rw [wA_n _ _ h2, wA_n _ _ h]
theorem m_tr_q {V Z s0 s1 : Nat → Int32} {c k t s M N : Nat} (hg : gOk g) (hb : gBs g g.2.2.1 ≤ 192) (hy : mPic y (gTr g)) (hc : c < g.2.2.1) (hk : k < 64) (ht : t < 64) (e66 : y.2.2.1 66 c = nI (gAc g c)) (e67 : y.2.2.1 67 c = nI (gBs g c)) (hV : ∀ q, q < gDn g c * gAc g c → V (64 * (gBs g c + q) + k) = vp_nar .short (y.2.2.1 65 (64 * trB g c q + t))) :
    fX15_transpose_135 X (fX15_transpose_70 X M) (fX15_transpose_80 X (fX15_transpose_70 X M) N) FU (b + 0) (nI c) (nI k) (nI t) 0 (rg_p lM b w0 (yT y g s0 s1 V Z s c k 0)) = fX15_transpose_80 X (fX15_transpose_70 X M) N (b + 0) (nI c) (nI (k + 1)) (rg_p lM b w0 (yT y g s0 s1 V Z s c (k + 1) 0)) := by
  have hc4 := hg.2.2.2.2.2.1
  have had := hg.ad hc
  have hac := hg.ac hc
  have hdn := hg.dn hc
  obtain ⟨e60, e61, e62⟩ := hy.2.2.2.2.2 c hc
  rw [gTr_ac] at e60
  rw [gTr_dn] at e61
  rw [gTr_bs] at e62
  have mono := gBs_mono (g := g) (c := c + 1) (d := g.2.2.1) hc
  have es : gBs g (c + 1) = gBs g c + gAc g c * gDn g c := rfl
  have ecm : gDn g c * gAc g c = gAc g c * gDn g c := Nat.mul_comm _ _
  refine rg_lpF (F := fun u (p : Int32 × px_W) => fX15_transpose_135 X (fX15_transpose_70 X M) (fX15_transpose_80 X (fX15_transpose_70 X M) N) u (b + 0) (nI c) (nI k) (nI t) p.1 p.2) (gDn g c * gAc g c) (fun q => (nI q, rg_p lM b w0 (yT y g s0 s1 V Z s c k q))) (by omega) ?_ ?_
  · intro u q hq
    dsimp only
    have hin := tr_in hc hq
    rw [fX15_transpose_135.eq_2]
    refine ob_v (rg_C rfl rfl) (ob_v (rg_A rfl (by decide) c (by omega) (by decide)) (ob_v (rg_C rfl rfl) (ob_v (rg_A rfl (by decide) c (by omega) (by decide)) ?_)))
    rw [yT_A _ _ _ _ _ _ _ _ _ _ (by decide) (by decide), yT_A _ _ _ _ _ _ _ _ _ _ (by decide) (by decide), e60, e61, pk_mul, if_neg (nI_ge hq (by omega))]
    refine ob_v (rg_C rfl rfl) (ob_v (rg_A rfl (by decide) c (by omega) (by decide)) (ob_v (rg_C rfl rfl) (ob_v (rg_A rfl (by decide) c (by omega) (by decide)) ?_)))
    rw [yT_A _ _ _ _ _ _ _ _ _ _ (by decide) (by decide), yT_A _ _ _ _ _ _ _ _ _ _ (by decide) (by decide), e67, e60]
    refine ob_v (rI_n (by omega) (by omega) (by omega)) (ob_v (rg_C rfl rfl) (ob_v (rg_A rfl (by decide) c (by omega) (by decide)) (ob_v (rg_C rfl rfl) (ob_v (rg_A rfl (by decide) c (by omega) (by decide)) ?_))))
    rw [yT_A _ _ _ _ _ _ _ _ _ _ (by decide) (by decide), yT_A _ _ _ _ _ _ _ _ _ _ (by decide) (by decide), e66, e60]
    refine ob_v (dI_n (by omega) (by omega) (by omega)) (ob_v (rg_C rfl rfl) (ob_v (rg_C rfl rfl) (ob_v (rg_A rfl (by decide) c (by omega) (by decide)) (ob_v (rg_C rfl rfl) ?_))))
    rw [yT_A _ _ _ _ _ _ _ _ _ _ (by decide) (by decide), e62, pk_mul, nI_add, nI_add, nI_add, show gBs g c + q % gDn g c * gAc g c + q / gDn g c = trB g c q from rfl, n64, n64]
    refine ob_v (rg_A rfl (by decide) _ (by omega) (by decide)) (ob_v (rg_sA _ rfl (by decide) _ _ (by omega) (by decide)) ?_)
    rw [yT_A _ _ _ _ _ _ _ _ _ 65 (by decide) (by decide), ← hV q hq, nI_1]
    congr 2
    unfold yT
    rw [wA_s, wA_wA, fT_s (by omega) hk]
  · intro u
    dsimp only
    rw [fX15_transpose_135.eq_2]
    refine ob_v (rg_C rfl rfl) (ob_v (rg_A rfl (by decide) c (by omega) (by decide)) (ob_v (rg_C rfl rfl) (ob_v (rg_A rfl (by decide) c (by omega) (by decide)) ?_)))
    rw [yT_A _ _ _ _ _ _ _ _ _ _ (by decide) (by decide), yT_A _ _ _ _ _ _ _ _ _ _ (by decide) (by decide), e60, e61, pk_mul, if_pos (nI_le (Nat.le_refl _) (by omega)), fX15_transpose_226, nI_1]
    congr 2
    unfold yT
    congr 1
    exact fT_eq (fun i => by omega)
theorem m_tr_k {V Z S0 S1 : Nat → Int32} {c M : Nat} (hz : (∀ k, k < 64 → y.2.2.1 69 k = nI (zg k / 8) ∧ y.2.2.1 70 k = nI (zg k % 8))) (ho : ∀ k, k < 64 → y.2.2.1 71 (zg k) = nI k) (hg : gOk g) (hb : gBs g g.2.2.1 ≤ 192) (hy : mPic y (gTr g)) (hc : c < g.2.2.1) (e66 : y.2.2.1 66 c = nI (gAc g c)) (e67 : y.2.2.1 67 c = nI (gBs g c)) (e68 : ∀ i, i < 256 → y.2.2.1 68 i = S0 i) (hV : ∀ q k, q < gDn g c * gAc g c → k < 64 → V (64 * (gBs g c + q) + k) = vp_nar .short (y.2.2.1 65 (64 * trB g c q + tz k))) :
    fX15_transpose_80 X (fX15_transpose_70 X M) FU (b + 0) (nI c) 0 (rg_p lM b w0 (yT y g (trS S0) S1 V Z (64 * c) c 0 0)) = fX15_transpose_70 X M (b + 0) (nI (c + 1)) (rg_p lM b w0 (yT y g (trS S0) S1 V Z (64 * (c + 1)) (c + 1) 0 0)) := by
  have hc4 := hg.2.2.2.2.2.1
  have es : gBs g (c + 1) = gBs g c + gAc g c * gDn g c := rfl
  refine rg_lpF (F := fun u (p : Int32 × px_W) => fX15_transpose_80 X (fX15_transpose_70 X M) u (b + 0) (nI c) p.1 p.2) 64 (fun k => (nI k, rg_p lM b w0 (yT y g (trS S0) S1 V Z (64 * c + k) c k 0))) (by omega) ?_ ?_
  · intro u k hk
    dsimp only
    have hzk := zg_lt hk
    have htk := tz_lt hk
    rw [fX15_transpose_80.eq_2]
    refine ei_n (nI_ge (b := 64) hk (by omega)) (ob_v (rg_C rfl rfl) (ob_v (rg_C rfl rfl) (ob_v (rg_A rfl (by decide) k (by omega) (by decide)) (ob_v (rg_C rfl rfl) (ob_v (rg_A rfl (by decide) k (by omega) (by decide)) ?_)))))
    rw [yT_A _ _ _ _ _ _ _ _ _ _ (by decide) (by decide), yT_A _ _ _ _ _ _ _ _ _ _ (by decide) (by decide), (hz k hk).1, (hz k hk).2, show (8 : Int32) * nI (zg k % 8) = nI (8 * (zg k % 8)) from pk_mul 8 _, nI_add, ← tz_zg hk]
    refine ob_v (rg_A rfl (by decide) _ (zg_lt htk) (by decide)) ?_
    rw [yT_A _ _ _ _ _ _ _ _ _ _ (by decide) (by decide), ho _ htk]
    refine ob_v (rg_C rfl rfl) (ob_v (rg_C rfl rfl) ?_)
    rw [n64, n64]
    refine ob_v (rg_A rfl (by decide) _ (by omega) (by decide)) (ob_v (rg_sA _ rfl (by decide) _ _ (by omega) (by decide)) ?_)
    rw [yT_A _ _ _ _ _ _ _ _ _ 68 (by decide) (by decide), e68 _ (by omega)]
    have est : rg_wA (yT y g (trS S0) S1 V Z (64 * c + k) c k 0) 63 (upd ((yT y g (trS S0) S1 V Z (64 * c + k) c k 0).2.2.1 63) (64 * c + k) (id (S0 (64 * c + tz k)))) = yT y g (trS S0) S1 V Z (64 * c + (k + 1)) c k 0 := by
      have e1 : (yT y g (trS S0) S1 V Z (64 * c + k) c k 0).2.2.1 63 = fU (64 * c + k) (trS S0) S1 := rfl
      have e2 : S0 (64 * c + tz k) = trS S0 (64 * c + k) := by
        unfold trS
        rw [show (64 * c + k) / 64 = c by omega, show (64 * c + k) % 64 = k by omega]
      rw [e1, id, e2, fU_s]
      unfold yT
      rw [wA_wA_ne _ _ _ (show 64 ≠ 63 by decide), wA_wA]
      rfl
    rw [est]
    exact m_tr_q hg hb hy hc hk htk e66 e67 (fun q hq => hV q k hq hk)
  · intro u
    dsimp only
    rw [fX15_transpose_80.eq_2]
    refine ei_t (by decide) ?_
    rw [fX15_transpose_232, nI_1]
    congr 2
    unfold yT
    rw [show 64 * c + 64 = 64 * (c + 1) by omega]
    congr 1
    exact fT_eq (fun i => by omega)
theorem m_transp (hz : (∀ k, k < 64 → y.2.2.1 69 k = nI (zg k / 8) ∧ y.2.2.1 70 k = nI (zg k % 8))) (ho : ∀ k, k < 64 → y.2.2.1 71 (zg k) = nI k) (h : YP y g F S) : ∃ y', (∀ w0, fX15_transpose X (rg_p lM b w0 y) (b + 0) = some (rg_p lM b w0 y')) ∧ YP y' (gTr g) (trV g F) (trS S) ∧ FY y y' := by
  obtain ⟨ht, hg, hb, py, pc, ps⟩ := h
  have hc4 := hg.2.2.2.2.2.1
  have fr : mFr (yT1 y g g.2.2.1) (gTr g) := by
    refine ⟨rfl, rfl, py.1.2.2.1, fun c hc => ?_, fun c hc => ?_⟩
    · show fU g.2.2.1 (y.2.2.1 59) (y.2.2.1 58) c = _
      rw [fU_lt (show c < g.2.2.1 from hc)]
      exact py.1.2.2.2.2 c hc
    · show fU g.2.2.1 (y.2.2.1 58) (y.2.2.1 59) c = _
      rw [fU_lt (show c < g.2.2.1 from hc)]
      exact py.1.2.2.2.1 c hc
  have A : ∀ o, o < 58 ∨ 62 < o → (yT2 y g).2.2.1 o = (yK y).2.2.1 o := fun o ho => by
    unfold yT2
    rw [yS_A, if_neg (by omega), if_neg (by omega), if_neg (by omega)]
    unfold yT1
    rw [wA_n _ _ (by omega), wA_n _ _ (by omega)]
    rfl
  have pP : mPic (yT2 y g) (gTr g) := ySt_pic fr
  have old : ∀ i, i < 64 * gBs g g.2.2.1 → (yT2 y g).2.2.1 65 i = F i := fun i hi => by
    rw [A 65 (by omega)]
    show fU 12288 (kN (y.2.2.1 64)) (y.2.2.1 65) i = _
    rw [fU_lt (by omega)]
    unfold kN
    have := pc i hi
    rw [this.1, nar_ok this.2]
  have hV : ∀ c q k, c < g.2.2.1 → q < gDn g c * gAc g c → k < 64 → trV g F (64 * (gBs g c + q) + k) = F (64 * trB g c q + tz k) := fun c q k hc hq hk => by
    unfold trV
    rw [← gTr_bs, flV_at (by omega) (by rw [gTr_ac, gTr_dn]; exact hq) hk]
  have cfV : ∀ c q k, c < g.2.2.1 → q < gDn g c * gAc g c → k < 64 → cfOk k (F (64 * trB g c q + tz k)) := fun c q k hc hq hk => by
    have hin := tr_in hc hq
    have htk := tz_lt hk
    have := (pc (64 * trB g c q + tz k) (by omega)).2
    rw [show (64 * trB g c q + tz k) % 64 = tz k by omega] at this
    have e0 : tz k = 0 ↔ k = 0 := by
      have : ∀ k : Fin 64, tz k.val = 0 ↔ k.val = 0 := by decide
      exact this ⟨k, hk⟩
    unfold cfOk at *
    by_cases k0 : k = 0
    · rw [if_pos (e0.mpr k0)] at this
      rw [if_pos k0]
      exact this
    · rw [if_neg (fun e => k0 (e0.mp e))] at this
      rw [if_neg k0]
      exact this
  refine ⟨yT (yT2 y g) g (trS (y.2.2.1 63)) (y.2.2.1 63) (trV g F) (fU 12288 (fun _ => 0) (y.2.2.1 64)) (64 * g.2.2.1) g.2.2.1 0 0, fun w0 => ?_, ⟨ht, gTr_ok hg, by rw [gTr_bs]; exact hb, ?_, ?_, ?_⟩, ?_, ?_⟩
  · rw [m_tr_f hg py]
    unfold fX15_transpose_64
    refine ob_v (rg_O rfl) (ob_v (m_layOut (gTr_ok hg) fr) ?_)
    have e := rg_lpF (F := fun u (t : Int32 × px_W) => fX15_transpose_70 X u (b + 0) t.1 t.2) g.2.2.1 (fun c => (nI c, rg_p lM b w0 (yT (yT2 y g) g (trS (y.2.2.1 63)) (y.2.2.1 63) (trV g F) (fU 12288 (fun _ => 0) (y.2.2.1 64)) (64 * c) c 0 0))) (r := some (rg_p lM b w0 (yT (yT2 y g) g (trS (y.2.2.1 63)) (y.2.2.1 63) (trV g F) (fU 12288 (fun _ => 0) (y.2.2.1 64)) (64 * g.2.2.1) g.2.2.1 0 0))) (by omega) ?_ ?_
    · refine Eq.trans ?_ e
      dsimp only
      have e0 : yT (yT2 y g) g (trS (y.2.2.1 63)) (y.2.2.1 63) (trV g F) (fU 12288 (fun _ => 0) (y.2.2.1 64)) (64 * 0) 0 0 0 = yT2 y g := by
        unfold yT
        have z : fT g (trV g F) (fU 12288 (fun _ => 0) (y.2.2.1 64)) 0 0 0 = fU 12288 (fun _ => 0) (y.2.2.1 64) := by
          funext i
          unfold fT
          rw [if_neg]
          rw [show gBs g 0 = 0 from rfl]
          omega
        rw [Nat.mul_zero, fU_0, z, wA_id (show (yT2 y g).2.2.1 63 = y.2.2.1 63 from A 63 (by omega)), wA_id (show (yT2 y g).2.2.1 64 = fU 12288 (fun _ => 0) (y.2.2.1 64) from A 64 (by omega))]
      rw [e0, nI_0]
      rfl
    · intro u c hc
      dsimp only
      rw [fX15_transpose_70.eq_2]
      refine ob_v (rg_I rfl rfl) ?_
      rw [show (yT (yT2 y g) g (trS (y.2.2.1 63)) (y.2.2.1 63) (trV g F) (fU 12288 (fun _ => 0) (y.2.2.1 64)) (64 * c) c 0 0).1 0 20 = nI g.2.2.1 from pP.1.2.2.1, if_neg (nI_ge hc (by omega))]
      refine m_tr_k (y := yT2 y g) ?_ ?_ hg hb pP hc ?_ ?_ ?_ ?_
      · rw [A 69 (by omega), A 70 (by omega)]
        exact hz
      · rw [A 71 (by omega)]
        exact ho
      · rw [A 66 (by omega)]
        show fU 4 (y.2.2.1 60) (y.2.2.1 66) c = _
        rw [fU_lt (by omega), (py.2.2.2.2.2 c hc).1]
      · rw [A 67 (by omega)]
        show fU 4 (y.2.2.1 62) (y.2.2.1 67) c = _
        rw [fU_lt (by omega), (py.2.2.2.2.2 c hc).2.2]
      · intro i hi
        rw [A 68 (by omega)]
        show fU 256 (y.2.2.1 63) (y.2.2.1 68) i = _
        rw [fU_lt hi]
      · intro q k hq hk
        have hin := tr_in hc hq
        have htk := tz_lt hk
        rw [hV c q k hc hq hk, old _ (by omega), nar_ok (cfV c q k hc hq hk)]
    · intro u
      dsimp only
      rw [fX15_transpose_70.eq_2]
      refine ob_v (rg_I rfl rfl) ?_
      rw [show (yT (yT2 y g) g (trS (y.2.2.1 63)) (y.2.2.1 63) (trV g F) (fU 12288 (fun _ => 0) (y.2.2.1 64)) (64 * g.2.2.1) g.2.2.1 0 0).1 0 20 = nI g.2.2.1 from pP.1.2.2.1, if_pos (nI_le (Nat.le_refl _) (by omega))]
  · exact pP
  · intro i hi
    rw [gTr_bs] at hi
    have hi' : i < 64 * gBs g g.2.2.1 := hi
    have e : (yT (yT2 y g) g (trS (y.2.2.1 63)) (y.2.2.1 63) (trV g F) (fU 12288 (fun _ => 0) (y.2.2.1 64)) (64 * g.2.2.1) g.2.2.1 0 0).2.2.1 64 i = trV g F i := by
      unfold yT
      rw [wA_s]
      unfold fT
      rw [if_pos (Or.inl hi')]
    refine ⟨e, ?_⟩
    obtain ⟨c, q, k, hc, hq, hk, rfl⟩ := fl_in (g := gTr g) (n := g.2.2.1) (i := i) (by rw [gTr_bs]; exact hi')
    rw [gTr_ac, gTr_dn] at hq
    rw [gTr_bs, hV c q k hc hq hk, show (64 * (gBs g c + q) + k) % 64 = k by omega]
    exact cfV c q k hc hq hk
  · intro i hi
    have hi' : i < 64 * g.2.2.1 := hi
    have htk := tz_lt (k := i % 64) (by omega)
    have e : (yT (yT2 y g) g (trS (y.2.2.1 63)) (y.2.2.1 63) (trV g F) (fU 12288 (fun _ => 0) (y.2.2.1 64)) (64 * g.2.2.1) g.2.2.1 0 0).2.2.1 63 i = trS (y.2.2.1 63) i := by
      show fU (64 * g.2.2.1) (trS (y.2.2.1 63)) (y.2.2.1 63) i = _
      rw [fU_lt hi']
    rw [e]
    unfold trS
    exact ps _ (by omega)
  · intro o k hk
    show (yT2 y g).1 o k = _
    unfold yT2
    rw [yS_I, yS1_I, if_neg (by omega), if_neg (by omega), if_neg (by omega), if_neg (by omega)]
    show (yT0 y g).1 o k = _
    unfold yT0
    rw [wI_n _ _ (by omega), wI_n _ _ (by omega)]
    rfl
  · intro o ho
    rw [yT_A _ _ _ _ _ _ _ _ _ _ (by omega) (by omega), A o (by omega), yK_A, if_neg (by omega), if_neg (by omega), if_neg (by omega), if_neg (by omega), if_neg (by omega)]
end
