/-! coefficients block by block; keep -/
/-- the first n places from f, the others from g -/
def fU {α : Type} (n : Nat) (f g : Nat → α) : Nat → α := fun i => if i < n then f i else g i
theorem fU_0 {α : Type} (f g : Nat → α) : fU 0 f g = g := by
  funext i
  unfold fU
  rw [if_neg (by omega)]
theorem fU_lt {α : Type} {n i : Nat} {f g : Nat → α} (h : i < n) : fU n f g i = f i := if_pos h
theorem fU_ge {α : Type} {n i : Nat} {f g : Nat → α} (h : n ≤ i) : fU n f g i = g i := if_neg (by omega)
theorem fU_s (n : Nat) (f g : Nat → Int32) : upd (fU n f g) n (f n) = fU (n + 1) f g := by
  funext i
  unfold upd fU
  by_cases e : i = n
  · subst e
    rw [if_pos rfl, if_pos (by omega)]
  · rw [if_neg e]
    by_cases h : i < n
    · rw [if_pos h, if_pos (by omega)]
    · rw [if_neg h, if_neg (by omega)]
/-- a value for each coefficient, by component, block and place -/
def flV (g : gG) (t : Nat → Nat → Nat → Int32) (i : Nat) : Int32 := t (gCo g (i / 64)) (i / 64 - gBs g (gCo g (i / 64))) (i % 64)
theorem flV_at {g : gG} {t : Nat → Nat → Nat → Int32} {c q k : Nat} (hc : c < 4) (hq : q < gAc g c * gDn g c) (hk : k < 64) : flV g t (64 * (gBs g c + q) + k) = t c q k := by
  unfold flV
  rw [show (64 * (gBs g c + q) + k) / 64 = gBs g c + q by omega, show (64 * (gBs g c + q) + k) % 64 = k by omega, gCo_at hc (by omega) (show gBs g c + q < gBs g c + gAc g c * gDn g c by omega), Nat.add_sub_cancel_left]
/-- every coefficient has a component, a block and a place -/
theorem fl_in {g : gG} {n i : Nat} (h : i < 64 * gBs g n) : ∃ c q k, c < n ∧ q < gAc g c * gDn g c ∧ k < 64 ∧ i = 64 * (gBs g c + q) + k := by
  obtain ⟨c, hc, h1, h2⟩ := gCo_in (g := g) (n := n) (t := i / 64) (by omega)
  have e : gBs g (c + 1) = gBs g c + gAc g c * gDn g c := rfl
  exact ⟨c, i / 64 - gBs g c, i % 64, hc, by omega, by omega, by omega⟩
/-- what the reference keeps aside -/
def kN (f : Nat → Int32) : Nat → Int32 := fun i => vp_nar .short (f i)
def yK1 (y : rg_S) (j : Nat) : rg_S := rg_wA (rg_wA y 65 (fU j (kN (y.2.2.1 64)) (y.2.2.1 65))) 64 (fU j (fun _ => 0) (y.2.2.1 64))
def yK2 (y : rg_S) (j : Nat) : rg_S := rg_wA (rg_wA (yK1 y 12288) 66 (fU j (y.2.2.1 60) (y.2.2.1 66))) 67 (fU j (y.2.2.1 62) (y.2.2.1 67))
def yK3 (y : rg_S) (j : Nat) : rg_S := rg_wA (yK2 y 4) 68 (fU j (y.2.2.1 63) (y.2.2.1 68))
def yK (y : rg_S) : rg_S := yK3 y 256
theorem yK_A (y : rg_S) (o : Nat) : (yK y).2.2.1 o = if o = 68 then fU 256 (y.2.2.1 63) (y.2.2.1 68) else if o = 67 then fU 4 (y.2.2.1 62) (y.2.2.1 67) else if o = 66 then fU 4 (y.2.2.1 60) (y.2.2.1 66) else if o = 64 then fU 12288 (fun _ => 0) (y.2.2.1 64) else if o = 65 then fU 12288 (kN (y.2.2.1 64)) (y.2.2.1 65) else y.2.2.1 o := rfl
section
variable {X : px_X} {b B : Nat} {w0 w1 w : px_W} {x y : rg_S} {P : Nat} {g : gG}
theorem m_keep3 : fX15_keep_73 X FU (b + 0) 0 (rg_p lM b w0 (yK2 y 4)) = some (rg_p lM b w0 (yK y)) := by
  have h := rg_lpF (F := fun m (q : Int32 × px_W) => fX15_keep_73 X m (b + 0) q.1 q.2) 256 (fun j => (nI j, rg_p lM b w0 (yK3 y j))) (r := some (rg_p lM b w0 (yK y))) (by omega) ?_ ?_
  · refine Eq.trans ?_ h
    dsimp only
    unfold yK3
    rw [fU_0, nI_0, show rg_wA (yK2 y 4) 68 (y.2.2.1 68) = yK2 y 4 from wA_id rfl]
  · intro m j hj
    dsimp only
    rw [fX15_keep_73.eq_2]
    refine ei_n (nI_ge (b := 256) hj (by omega)) ?_
    refine ob_v (rg_C rfl rfl) (ob_v (rg_C rfl rfl) (ob_v (rg_A rfl (by decide) j (by omega) (by decide)) (ob_v (rg_sA _ rfl (by decide) j _ (by omega) (by decide)) ?_)))
    rw [nI_1]
    congr 2
    show rg_wA (yK3 y j) 68 (upd (fU j (y.2.2.1 63) (y.2.2.1 68)) j (y.2.2.1 63 j)) = yK3 y (j + 1)
    rw [fU_s]
    unfold yK3
    rw [wA_wA]
  · intro m
    dsimp only
    rw [fX15_keep_73.eq_2]
    exact ei_t (by decide) rfl
theorem m_keep2 : fX15_keep_36 X FU (b + 0) 0 (rg_p lM b w0 (yK1 y 12288)) = some (rg_p lM b w0 (yK y)) := by
  have h := rg_lpF (F := fun m (q : Int32 × px_W) => fX15_keep_36 X m (b + 0) q.1 q.2) 4 (fun j => (nI j, rg_p lM b w0 (yK2 y j))) (r := some (rg_p lM b w0 (yK y))) (by omega) ?_ ?_
  · refine Eq.trans ?_ h
    dsimp only
    unfold yK2
    rw [fU_0, fU_0, nI_0]
    have e : ∀ o, rg_wA (yK1 y 12288) o ((yK1 y 12288).2.2.1 o) = yK1 y 12288 := fun o => wA_id rfl
    rw [show rg_wA (yK1 y 12288) 66 (y.2.2.1 66) = yK1 y 12288 from e 66, show rg_wA (yK1 y 12288) 67 (y.2.2.1 67) = yK1 y 12288 from e 67]
  · intro m j hj
    dsimp only
    rw [fX15_keep_36.eq_2]
    refine ei_n (nI_ge (b := 4) hj (by omega)) ?_
    refine ob_v (rg_C rfl rfl) (ob_v (rg_C rfl rfl) (ob_v (rg_A rfl (by decide) j (by omega) (by decide)) (ob_v (rg_sA _ rfl (by decide) j _ (by omega) (by decide)) ?_)))
    refine ob_v (rg_C rfl rfl) (ob_v (rg_C rfl rfl) (ob_v (rg_A rfl (by decide) j (by omega) (by decide)) (ob_v (rg_sA _ rfl (by decide) j _ (by omega) (by decide)) ?_)))
    rw [nI_1]
    congr 2
    show rg_wA (rg_wA (yK2 y j) 66 (upd (fU j (y.2.2.1 60) (y.2.2.1 66)) j (y.2.2.1 60 j))) 67 (upd (fU j (y.2.2.1 62) (y.2.2.1 67)) j (y.2.2.1 62 j)) = yK2 y (j + 1)
    rw [fU_s, fU_s]
    unfold yK2
    rw [wA_wA_ne _ _ _ (show 66 ≠ 67 by decide), wA_wA, wA_wA_ne _ _ _ (show 67 ≠ 66 by decide), wA_wA]
  · intro m
    dsimp only
    rw [fX15_keep_36.eq_2]
    refine ei_t (by decide) ?_
    unfold fX15_keep_71
    exact m_keep3
theorem m_keep : fX15_keep X (rg_p lM b w0 y) (b + 0) = some (rg_p lM b w0 (yK y)) := by
  unfold fX15_keep
  have h := rg_lpF (F := fun m (q : Int32 × px_W) => fX15_keep_2 X m (b + 0) q.1 q.2) 12288 (fun j => (nI j, rg_p lM b w0 (yK1 y j))) (r := some (rg_p lM b w0 (yK y))) (by omega) ?_ ?_
  · refine Eq.trans ?_ h
    dsimp only
    unfold yK1
    rw [fU_0, fU_0, nI_0, wA_id (s := y) (o := 65) rfl, wA_id rfl]
  · intro m j hj
    dsimp only
    rw [fX15_keep_2.eq_2]
    refine ei_n (nI_ge (b := 12288) hj (by omega)) ?_
    refine ob_v (rg_C rfl rfl) (ob_v (rg_C rfl rfl) (ob_v (rg_A rfl (by decide) j (by omega) (by decide)) (ob_v (rg_sA _ rfl (by decide) j _ (by omega) (by decide)) ?_)))
    refine ob_v (rg_C rfl rfl) (ob_v (rg_sA _ rfl (by decide) j _ (by omega) (by decide)) ?_)
    rw [nI_1]
    congr 2
    have e : (yK1 y j).2.2.1 64 j = y.2.2.1 64 j := by
      unfold yK1
      rw [wA_s]
      exact fU_ge (Nat.le_refl j)
    show rg_wA (rg_wA (yK1 y j) 65 (upd (fU j (kN (y.2.2.1 64)) (y.2.2.1 65)) j (vp_nar .short ((yK1 y j).2.2.1 64 j)))) 64 (upd (fU j (fun _ => 0) (y.2.2.1 64)) j (vp_nar .short 0)) = yK1 y (j + 1)
    rw [e, show vp_nar .short (y.2.2.1 64 j) = kN (y.2.2.1 64) j from rfl, show vp_nar .short 0 = (fun _ => (0 : Int32)) j from (by decide : vp_nar .short 0 = 0), fU_s, fU_s]
    unfold yK1
    rw [wA_wA_ne _ _ _ (show 65 ≠ 64 by decide), wA_wA, wA_wA_ne _ _ _ (show 64 ≠ 65 by decide), wA_wA]
  · intro m
    dsimp only
    rw [fX15_keep_2.eq_2]
    refine ei_t (by decide) ?_
    unfold fX15_keep_34
    exact m_keep2
end
