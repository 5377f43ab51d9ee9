/-! giveInput, wipeInput, takeOutput, outputAt: bytes -/
theorem t255 : ∀ j : Fin 8, (255#32)[j.val]'(Nat.lt_of_lt_of_le j.isLt (by decide)) = true := by decide
theorem bt_and (x : Int32) : bt (x &&& 255) = bt x := by
  unfold bt
  congr 1
  apply Int8.toBitVec_inj.mp
  ext i hi
  simp only [Int32.toBitVec_toInt8, Int32.toBitVec_and, BitVec.getElem_signExtend, BitVec.getLsbD_and]
  have h : i < 8 := hi
  have t' : (255#32)[i]'(by omega) = true := t255 ⟨i, h⟩
  simp [show i < 32 by omega, t']
/-- k bytes of v, the highest first, laid into f from n on -/
def gv_b (v : Int64) (k : Nat) : Int32 := bt ((v >>> ((8 * nI k).toInt64 &&& 63)).toInt32)
def gv_f (v : Int64) : Nat → Nat → (Nat → Int32) → Nat → Int32
  | 0, _, f => f
  | k + 1, n, f => gv_f v k (n + 1) (upd f n (gv_b v k))
section
variable {X : px_X} {b B : Nat} {w0 : px_W}
theorem m_give_l {v : Int64} : ∀ (k m n : Nat) (y : rg_S), n + k ≤ 16384 → k < m → y.1 0 1 = nI n →
    oK (fX15_giveInput_30 X m (b + 0) v (nI k + (-1)) (rg_p lM b w0 y)) (fun r => r = (1, rg_p lM b w0 (rg_wI (rg_wA y 1 (gv_f v k n (y.2.2.1 1))) 0 1 (nI (n + k))))) := by
  intro k
  induction k with
  | zero =>
    intro m n y hn hm hy
    obtain ⟨m, rfl⟩ : ∃ m', m = m' + 1 := ⟨m - 1, by omega⟩
    rw [fX15_giveInput_30.eq_2]
    refine oK.t (by decide) ?_
    exact oK.s (by rw [gv_f, wA_id rfl, Nat.add_zero, wI_id hy])
  | succ k ih =>
    intro m n y hn hm hy
    obtain ⟨m, rfl⟩ : ∃ m', m = m' + 1 := ⟨m - 1, by omega⟩
    rw [pk_m1, fX15_giveInput_30.eq_2]
    refine oK.e (nI_pos (by omega)) ?_
    refine oK.b (rg_C rfl rfl) ?_
    refine oK.b (rg_I rfl rfl) ?_
    rw [hy]
    refine oK.b (rg_sA _ rfl (by decide) (n) _ (by omega) (by decide)) ?_
    refine oK.b (rg_I rfl rfl) ?_
    rw [wA_1, hy, nI_1]
    refine oK.b (rg_pI rfl rfl _) ?_
    refine (ih m (n + 1) _ (by omega) (by omega) (by rw [wI_1, if_pos ⟨rfl, rfl⟩])).mono ?_
    rintro r rfl
    rw [pk_vb]
    simp only [wI_2, wA_3, if_true, wI_wA, wA_wA, wI_wI, gv_f, gv_b, bt]
    rw [show n + 1 + k = n + (k + 1) by omega]
theorem m_giveN {v : Int64} {n : Int32} {y : rg_S} {c : Nat} (hc : c ≤ 16384) (hy : y.1 0 1 = nI c) (h : n < 1 ∨ 8 < n ∨ 16384 < nI c + n) : fX15_giveInput X (rg_p lM b w0 y) (b + 0) v n = some (0, rg_p lM b w0 y) := by
  refine oK.eq ?_
  unfold fX15_giveInput
  refine oK.i (fun _ => oK.s rfl) (fun h1 => ?_)
  refine oK.i (fun _ => oK.s rfl) (fun h2 => ?_)
  refine oK.b (rg_I rfl rfl) ?_
  rw [hy]
  refine oK.e (by rcases h with h | h | h; exact absurd h h1; exact absurd h h2; exact Int32.not_le.mpr h) ?_
  exact oK.s (rfl)
theorem m_give {v : Int64} {k : Nat} {y : rg_S} {c : Nat} (hy : y.1 0 1 = nI c) (h1 : 1 ≤ k) (h8 : k ≤ 8) (hc : c + k ≤ 16384) : fX15_giveInput X (rg_p lM b w0 y) (b + 0) v (nI k) = some (1, rg_p lM b w0 (rg_wI (rg_wA y 1 (gv_f v k c (y.2.2.1 1))) 0 1 (nI (c + k)))) := by
  refine oK.eq ?_
  unfold fX15_giveInput
  refine oK.e (nI_nlt (b := 1) h1 (by omega)) ?_
  refine oK.e (nI_nlt (b := k) (a := 8) h8 (by omega)) ?_
  refine oK.b (rg_I rfl rfl) ?_
  rw [hy, nI_add]
  refine oK.t (nI_le (b := 16384) hc (by omega)) ?_
  have e : nI k - 1 = nI k + (-1) := by
    obtain ⟨j, rfl⟩ : ∃ j, k = j + 1 := ⟨k - 1, by omega⟩
    rw [pk_m1, nI_pred]
  rw [e]
  exact m_give_l k FU c y hc (by unfold FU; omega) hy
theorem m_wipe {y : rg_S} : fX15_wipeInput X (rg_p lM b w0 y) (b + 0) = some (rg_p lM b w0 (rg_wI y 0 1 0)) := by
  refine oK.eq ?_
  unfold fX15_wipeInput
  refine oK.b (rg_pI rfl rfl _) ?_
  exact oK.s (rfl)
theorem m_outN {y : rg_S} {n : Nat} {k : Int32} (hy : y.1 0 3 = nI n) (hk : k < 0 ∨ nI n ≤ k) : fX15_outputAt X (rg_p lM b w0 y) (b + 0) k = some (-1, rg_p lM b w0 y) := by
  refine oK.eq ?_
  unfold fX15_outputAt
  refine oK.i (fun _ => oK.s rfl) (fun h1 => ?_)
  refine oK.b (rg_I rfl rfl) ?_
  rw [hy]
  refine oK.e (Int32.not_lt.mpr (hk.resolve_left h1)) ?_
  exact oK.s (rfl)
theorem m_out {y : rg_S} {n k : Nat} (hy : y.1 0 3 = nI n) (hk : k < n) (hn : n ≤ 16384) : fX15_outputAt X (rg_p lM b w0 y) (b + 0) (nI k) = some (y.2.2.1 2 k &&& 255, rg_p lM b w0 y) := by
  refine oK.eq ?_
  unfold fX15_outputAt
  refine oK.e (nI_pos (by omega)) ?_
  refine oK.b (rg_I rfl rfl) ?_
  rw [hy]
  refine oK.t (nI_lt hk (by omega)) ?_
  refine oK.b (rg_C rfl rfl) ?_
  refine oK.b (rg_A rfl (by decide) (k) (by omega) (by decide)) ?_
  exact oK.s (rfl)
theorem m_take_l {y : rg_S} {n : Nat} (hn : n ≤ 16384) (hy : y.1 0 3 = nI n) (hb : ∀ i, i < n → bt (y.2.2.1 2 i) = y.2.2.1 2 i) : fX15_takeOutput_10 X FU (b + 0) 0 (rg_p lM b w0 y) = some (rg_p lM b w0 (rg_wA y 1 (va_cpy (y.2.2.1 2) (y.2.2.1 1) 0 0 n))) := by
  have h := rg_lpF (F := fun m (p : Int32 × px_W) => fX15_takeOutput_10 X m (b + 0) p.1 p.2) n (fun j => (nI j, rg_p lM b w0 (rg_wA y 1 (va_cpy (y.2.2.1 2) (y.2.2.1 1) 0 0 j)))) (r := some (rg_p lM b w0 (rg_wA y 1 (va_cpy (y.2.2.1 2) (y.2.2.1 1) 0 0 n)))) (by omega) ?_ ?_
  · refine Eq.trans ?_ h
    show fX15_takeOutput_10 X FU (b + 0) 0 (rg_p lM b w0 y) = fX15_takeOutput_10 X FU (b + 0) (nI 0) (rg_p lM b w0 (rg_wA y 1 (va_cpy (y.2.2.1 2) (y.2.2.1 1) 0 0 0)))
    rw [nI_0, wA_id]
    funext i
    simp [va_cpy]
  · intro m j hj
    show fX15_takeOutput_10 X (m + 1) (b + 0) (nI j) _ = fX15_takeOutput_10 X m (b + 0) (nI (j + 1)) _
    rw [fX15_takeOutput_10.eq_2]
    refine ob_v (rg_I rfl rfl) ?_
    rw [wA_1, hy, if_neg (nI_ge hj (by omega))]
    refine ob_v (rg_C rfl rfl) ?_
    refine ob_v (rg_C rfl rfl) ?_
    refine ob_v (rg_A rfl (by decide) j (by omega) (by decide)) ?_
    refine ob_v (rg_sA _ rfl (by decide) j _ (by omega) (by decide)) ?_
    rw [nI_1, wA_wA]
    congr 3
    funext i
    simp only [wA_3, upd, va_cpy]
    by_cases e : i = j
    · subst e
      have hb' := hb i hj
      simp [vp_nar_byte]
      exact hb'
    · by_cases h2 : i < j
      · simp [e, h2, Nat.lt_succ_of_lt h2, va_cpy]
      · simp [e, h2, show ¬ i < j + 1 by omega, va_cpy]
  · intro m
    show fX15_takeOutput_10 X (m + 1) (b + 0) (nI n) _ = _
    rw [fX15_takeOutput_10.eq_2]
    refine ob_v (rg_I rfl rfl) ?_
    rw [wA_1, hy, if_pos (nI_le (Nat.le_refl _) (by omega))]
theorem m_take {y : rg_S} {n : Nat} (hn : n ≤ 16384) (hy : y.1 0 3 = nI n) (hb : ∀ i, i < n → bt (y.2.2.1 2 i) = y.2.2.1 2 i) : fX15_takeOutput X (rg_p lM b w0 y) (b + 0) = some (rg_p lM b w0 (rg_wI (rg_wA y 1 (va_cpy (y.2.2.1 2) (y.2.2.1 1) 0 0 n)) 0 1 (nI n))) := by
  unfold fX15_takeOutput
  refine ob_v (rg_I rfl rfl) ?_
  refine ob_v (rg_pI rfl rfl _) ?_
  rw [hy, m_take_l hn (by rw [wI_1, if_neg (by decide), hy]) (by rw [wI_2]; exact hb), wI_wA, wI_2]
end
