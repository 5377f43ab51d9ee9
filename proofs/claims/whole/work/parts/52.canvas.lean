/-! canvasSize, canvasRow, canvasEight -/
theorem pl_o {p : Nat} (hp : p < 6) : lX (24 + 2 * p) = some (.inl (3, [(0, 0), (0, 0), (1, 24 + 2 * p + 1)])) := by
  rcases (show p = 0 ∨ p = 1 ∨ p = 2 ∨ p = 3 ∨ p = 4 ∨ p = 5 by omega) with rfl | rfl | rfl | rfl | rfl | rfl <;> rfl
theorem pl_a {p : Nat} (hp : p < 6) : lX (24 + 2 * p + 1) = some (.inr (0, 1024, fun _ => none)) := by
  rcases (show p = 0 ∨ p = 1 ∨ p = 2 ∨ p = 3 ∨ p = 4 ∨ p = 5 by omega) with rfl | rfl | rfl | rfl | rfl | rfl <;> rfl
section
variable {X : px_X} {b B : Nat} {w0 : px_W}
theorem x_plane {x : rg_S} {p : Nat} (hp : p < 4) : aQ (rg_p lX B w0 x) 6 (B + 23) (nI p) = some (B + (24 + 2 * p)) := rg_Q (t := 6) (n := 4) rfl (by decide) p hp (by decide) (if_pos hp)
theorem x_setSize {x : rg_S} {p : Nat} (hp : p < 6) (w h : Int32) : fX3_setSize X (rg_p lX B w0 x) (B + (24 + 2 * p)) w h = some (rg_p lX B w0 (rg_wA (rg_wI (rg_wI x (24 + 2 * p) 0 w) (24 + 2 * p) 1 h) (24 + 2 * p + 1) (fun i => if i < 1024 then 0 else x.2.2.1 (24 + 2 * p + 1) i))) := by
  refine oK.eq ?_
  unfold fX3_setSize
  refine oK.b (rg_pI (pl_o hp) rfl _) ?_
  refine oK.b (rg_pI (pl_o hp) rfl _) ?_
  refine oK.b (rg_C (pl_o hp) rfl) ?_
  refine oK.b (rg_fill (pl_a hp) (by decide) 0) ?_
  exact oK.s (rfl)
theorem x_size {x : rg_S} {p : Nat} {w h : Int32} (hp : p < 4) (w1 : ¬ w < 1) (w2 : ¬ 32 < w) (h1 : ¬ h < 1) (h2 : h ≤ 32) : fX11_canvasSize X (rg_p lX B w0 x) (B + 0) (nI p) w h = some (1, rg_p lX B w0 (rg_wA (rg_wI (rg_wI x (24 + 2 * p) 0 w) (24 + 2 * p) 1 h) (24 + 2 * p + 1) (fun i => if i < 1024 then 0 else x.2.2.1 (24 + 2 * p + 1) i))) := by
  refine oK.eq ?_
  unfold fX11_canvasSize
  refine oK.e (nI_pos (by omega)) ?_
  refine oK.e (nI_nlt (b := p) (a := 3) (by omega) (by omega)) ?_
  refine oK.e (w1) ?_
  refine oK.e (w2) ?_
  refine oK.e (h1) ?_
  refine oK.t (h2) ?_
  refine oK.b (rg_C rfl rfl) ?_
  refine oK.b (x_plane hp) ?_
  refine oK.b (rg_O (pl_o (by omega))) ?_
  refine oK.b (x_setSize (by omega) w h) ?_
  exact oK.s (rfl)
theorem x_sizeN {x : rg_S} {p w h : Int32} (hn : p < 0 ∨ 3 < p ∨ w < 1 ∨ 32 < w ∨ h < 1 ∨ ¬ h ≤ 32) : fX11_canvasSize X (rg_p lX B w0 x) (B + 0) p w h = some (0, rg_p lX B w0 x) := by
  unfold fX11_canvasSize
  by_cases h1 : p < 0
  · rw [if_pos h1]
  rw [if_neg h1]
  by_cases h2 : 3 < p
  · rw [if_pos h2]
  rw [if_neg h2]
  by_cases h3 : w < 1
  · rw [if_pos h3]
  rw [if_neg h3]
  by_cases h4 : 32 < w
  · rw [if_pos h4]
  rw [if_neg h4]
  by_cases h5 : h < 1
  · rw [if_pos h5]
  rw [if_neg h5, if_neg]
  rcases hn with e | e | e | e | e | e
  · exact absurd e h1
  · exact absurd e h2
  · exact absurd e h3
  · exact absurd e h4
  · exact absurd e h5
  · exact e
theorem m_isPlane {w : px_W} {p : Nat} (hp : p < 4) : fX15_isPlane X w (nI p) = some (1, w) := by
  unfold fX15_isPlane
  rw [if_neg (nI_pos (by omega))]
  exact ei_n (nI_ge (b := 4) hp (by omega)) rfl
theorem m_isPlaneN {w : px_W} {p : Int32} (hp : p < 0 ∨ 4 ≤ p) : fX15_isPlane X w p = some (0, w) := by
  unfold fX15_isPlane
  by_cases h1 : p < 0
  · rw [if_pos h1]
  · rw [if_neg h1, if_pos (hp.resolve_left h1)]
theorem m_size_l {y : rg_S} {p : Nat} (hp : p < 4) : fX15_canvasSize_48 X FU (b + 0) (nI p) 0 (rg_p lM b w0 y) = some (1, rg_p lM b w0 (rg_wA y 72 (fun i => if 1024 * p ≤ i ∧ i < 1024 * p + 1024 then 0 else y.2.2.1 72 i))) := by
  have h := rg_lpF (F := fun m (q : Int32 × px_W) => fX15_canvasSize_48 X m (b + 0) (nI p) q.1 q.2) 1024 (fun j => (nI j, rg_p lM b w0 (rg_wA y 72 (fun i => if 1024 * p ≤ i ∧ i < 1024 * p + j then 0 else y.2.2.1 72 i)))) (r := some (1, rg_p lM b w0 (rg_wA y 72 (fun i => if 1024 * p ≤ i ∧ i < 1024 * p + 1024 then 0 else y.2.2.1 72 i)))) (by omega) ?_ ?_
  · refine Eq.trans ?_ h
    show fX15_canvasSize_48 X FU (b + 0) (nI p) 0 (rg_p lM b w0 y) = fX15_canvasSize_48 X FU (b + 0) (nI p) (nI 0) (rg_p lM b w0 (rg_wA y 72 (fun i => if 1024 * p ≤ i ∧ i < 1024 * p + 0 then 0 else y.2.2.1 72 i)))
    rw [nI_0, wA_id]
    funext i
    rw [if_neg (by omega)]
  · intro m j hj
    show fX15_canvasSize_48 X (m + 1) (b + 0) (nI p) (nI j) _ = fX15_canvasSize_48 X m (b + 0) (nI p) (nI (j + 1)) _
    dsimp only
    rw [fX15_canvasSize_48.eq_2]
    refine ei_n (nI_ge (b := 1024) hj (by omega)) ?_
    refine ob_v (rg_C rfl rfl) ?_
    rw [show (1024 * nI p + nI j : Int32) = nI (1024 * p + j) by rw [← nI_add, ← pk_mul]; rfl]
    refine ob_v (rg_sA _ rfl (by decide) (1024 * p + j) _ (by omega) (by decide)) ?_
    rw [nI_1, wA_wA]
    congr 3
    funext i
    simp only [wA_3, if_true, upd, id]
    by_cases e : i = 1024 * p + j
    · rw [if_pos e, if_pos (by omega)]
    · rw [if_neg e]
      by_cases h2 : 1024 * p ≤ i ∧ i < 1024 * p + j
      · rw [if_pos h2, if_pos (by omega)]
      · rw [if_neg h2, if_neg (by omega)]
  · intro m
    show fX15_canvasSize_48 X (m + 1) (b + 0) (nI p) (nI 1024) _ = _
    dsimp only
    rw [fX15_canvasSize_48.eq_2, if_pos (by decide)]
theorem m_size {y : rg_S} {p : Nat} {w h : Int32} (hp : p < 4) (w1 : ¬ w < 1) (w2 : ¬ 32 < w) (h1 : ¬ h < 1) (h2 : h ≤ 32) : fX15_canvasSize X (rg_p lM b w0 y) (b + 0) (nI p) w h = some (1, rg_p lM b w0 (rg_wA (rg_wA (rg_wA y 73 (upd (y.2.2.1 73) p w)) 74 (upd (y.2.2.1 74) p h)) 72 (fun i => if 1024 * p ≤ i ∧ i < 1024 * p + 1024 then 0 else y.2.2.1 72 i))) := by
  refine oK.eq ?_
  unfold fX15_canvasSize
  refine oK.b (m_isPlane hp) ?_
  refine oK.e (n10) ?_
  refine oK.e (w1) ?_
  refine oK.e (w2) ?_
  refine oK.e (h1) ?_
  refine oK.t (h2) ?_
  refine oK.b (rg_C rfl rfl) ?_
  refine oK.b (rg_sA _ rfl (by decide) (p) _ (by omega) (by decide)) ?_
  refine oK.b (rg_C rfl rfl) ?_
  refine oK.b (rg_sA _ rfl (by decide) (p) _ (by omega) (by decide)) ?_
  rw [m_size_l hp]
  exact oK.s (rfl)
theorem m_sizeN {y : rg_S} {p w h : Int32} (hn : p < 0 ∨ 4 ≤ p ∨ w < 1 ∨ 32 < w ∨ h < 1 ∨ ¬ h ≤ 32) : fX15_canvasSize X (rg_p lM b w0 y) (b + 0) p w h = some (0, rg_p lM b w0 y) := by
  unfold fX15_canvasSize
  by_cases h1 : p < 0 ∨ 4 ≤ p
  · refine ob_v (m_isPlaneN h1) ?_
    rfl
  obtain ⟨j, hj, rfl⟩ : ∃ j, j < 4 ∧ p = nI j := (i_place p (n := 4) (by decide)).resolve_right h1
  refine ob_v (m_isPlane hj) ?_
  refine ei_n n10 ?_
  by_cases h3 : w < 1
  · rw [if_pos h3]
  rw [if_neg h3]
  by_cases h4 : 32 < w
  · rw [if_pos h4]
  rw [if_neg h4]
  by_cases h5 : h < 1
  · rw [if_pos h5]
  rw [if_neg h5, if_neg]
  rcases hn with e | e | e | e | e | e
  · exact absurd (Or.inl e) h1
  · exact absurd (Or.inr e) h1
  · exact absurd e h3
  · exact absurd e h4
  · exact absurd e h5
  · exact e
end
