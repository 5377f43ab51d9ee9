/-! new objects, as regions; their relation -/
set_option maxRecDepth 100000 in
theorem lxL_len : lxL.length = 199 := rfl
set_option maxRecDepth 100000 in
theorem lmL_len : lmL.length = 78 := rfl
def y1 : rg_S := rg_wA (rg_wA (rg_wA (rg_wA (rg_wA y0 69 zDn) 70 zAn) 71 zOn) 73 (fU 4 (fun _ => 1) (fun _ => 0))) 74 (fU 4 (fun _ => 1) (fun _ => 0))
section
variable {X : px_X}
theorem n_w11 (h : px_st X) (w : px_W) : fX11_init X (px_ext w [.inr (11, [.null, .null, .null, .int 0, .null, .null, .null, .null, .null, .null, .null, .null, .null, .int 0, .int 0, .int 0, .int 0, .int 0])] 18) w.2.1 = some (rg_p lX w.2.1 (w.1, w.2.1 + 199, w.2.2 + 104075) x0) := by
  rw [n_X11 h w, L11_eq, ext_rg, lxL_len]
  rfl
theorem nw_343 {b : Nat} {w0 : px_W} {y : rg_S} : fX15_init_343 X FU (b + 0) 0 (rg_p lM b w0 y) = some (rg_p lM b w0 (rg_wA (rg_wA y 73 (fU 4 (fun _ => 1) (y.2.2.1 73))) 74 (fU 4 (fun _ => 1) (y.2.2.1 74)))) := by
  have e := rg_lpF (F := fun M (s : Int32 × rg_S) => fX15_init_343 X M (b + 0) s.1 (rg_p lM b w0 s.2)) 4 (fun i => (nI i, rg_wA (rg_wA y 73 (fU i (fun _ => 1) (y.2.2.1 73))) 74 (fU i (fun _ => 1) (y.2.2.1 74)))) (r := some (rg_p lM b w0 (rg_wA (rg_wA y 73 (fU 4 (fun _ => 1) (y.2.2.1 73))) 74 (fU 4 (fun _ => 1) (y.2.2.1 74))))) (by omega) ?_ ?_
  · dsimp only at e
    rw [fU_0, fU_0, wA_id (s := rg_wA y 73 (y.2.2.1 73)) (wA_n _ _ (by decide)), wA_id rfl] at e
    exact e
  · intro M c hc
    dsimp only
    rw [fX15_init_343.eq_2]
    refine ei_n (nI_ge (b := 4) (by omega) (by omega)) (ob_v (rg_C rfl rfl) (ob_v (rg_sA id rfl (by decide) _ _ (by omega) (by decide)) (ob_v (rg_C rfl rfl) (ob_v (rg_sA id rfl (by decide) _ _ (by omega) (by decide)) ?_))))
    rw [nI_1]
    refine congrArg (fun s => fX15_init_343 X M (b + 0) (nI (c + 1)) (rg_p lM b w0 s)) ?_
    refine S_ext rfl rfl (fun o => ?_) rfl
    simp only [wA_3]
    by_cases e1 : o = 74
    · subst e1
      simp only [if_true, if_false, reduceIte, Nat.reduceEqDiff, id]
      rw [← fU_s]
    · by_cases e2 : o = 73
      · subst e2
        simp only [if_true, if_false, reduceIte, Nat.reduceEqDiff, id]
        rw [← fU_s]
      · simp only [e1, e2, if_false]
  · intro M
    dsimp only
    rw [fX15_init_343.eq_2]
    exact ei_t (by decide) rfl
theorem nw_z {b : Nat} {w0 : px_W} {y : rg_S} (d a o : Nat → Int32) : zW (rg_p lM b w0 y) (b + 69) (b + 70) (b + 71) d a o = rg_p lM b w0 (rg_wA (rg_wA (rg_wA y 69 d) 70 a) 71 o) := by
  unfold zW
  rw [rg_putA (ly := lM) (o := 69) (t := 0) (n := 64) rfl (by decide), rg_putA (ly := lM) (o := 70) (t := 0) (n := 64) rfl (by decide), rg_putA (ly := lM) (o := 71) (t := 0) (n := 64) rfl (by decide)]
theorem n_w15 (w : px_W) : fX15_init X (px_ext w [.inr (15, [.null, .int 0, .null, .int 0, .null, .int 0, .int 0, .int 0, .int 0, .int 0, .int 0, .int 0, .null, .null, .null, .null, .null, .int 0, .int 0, .int 0, .int 0, .null, .null, .null, .null, .null, .int 0, .int 0, .int 0, .int 0, .null, .null, .null, .null, .null, .null, .null, .null, .null, .null, .null, .null, .null, .null, .int 0, .int 0, .null])] 47) w.2.1 = some (rg_p lM w.2.1 (w.1, w.2.1 + 78, w.2.2 + 253584) y1) := by
  rw [n_X15p w, L15_eq, ext_rg, lmL_len]
  show fX15_init_247 X FU w.2.1 0 0 (rg_p lM w.2.1 (w.1, w.2.1 + 78, w.2.2 + 253584) y0) = _
  generalize w.2.1 = b
  generalize (w.1, b + 78, w.2.2 + 253584) = w0
  have e0 : zW (rg_p lM b w0 y0) (b + 69) (b + 70) (b + 71) (fun _ => 0) (fun _ => 0) (fun _ => 0) = rg_p lM b w0 y0 := by
    rw [nw_z, wA_id (s := y0) (o := 69) (f := fun _ => 0) rfl, wA_id (s := y0) (o := 70) (f := fun _ => 0) rfl, wA_id (s := y0) (o := 71) (f := fun _ => 0) rfl]
  have ho : (rg_p lM b w0 y0).1 (b + 0) = some (.inr (15, rg_vs b y0 0 _)) := rg_ob (ly := lM) (o := 0) rfl
  have ez := n_X15z (X := X) (a := b + 0) (D := b + 69) (A := b + 70) (O := b + 71) (W := rg_p lM b w0 y0) ho (rg_get (K := (1, 69)) rfl) (rg_get (K := (1, 70)) rfl) (rg_get (K := (1, 71)) rfl) (by omega) (by omega) (by omega) (by omega) (by omega) (by omega)
  rw [e0, nw_z] at ez
  refine Eq.trans (show fX15_init_247 X FU b 0 0 (rg_p lM b w0 y0) = fX15_init_247 X FU (b + 0) 0 0 (rg_p lM b w0 y0) from rfl) (ez.trans ?_)
  rw [nw_343]
  rfl
theorem zg_new : ∀ k, k < 64 → zDn k = nI (zg k / 8) ∧ zAn k = nI (zg k % 8) ∧ zOn (zg k) = nI k := by decide +kernel
theorem wTab_e {s u t : Nat} (hs : s < 4) (hu : u < 2 ^ s) (ht : t < 2 ^ s) : wTab (64 * s + 8 * u + t) = wvN (2 ^ s) u t := by
  have p8 : 2 ^ s ≤ 2 ^ 3 := Nat.pow_le_pow_right (by decide) (by omega)
  have p8 : 2 ^ s ≤ 8 := p8
  have e1 : (64 * s + 8 * u + t) / 64 = s := by omega
  have e2 : (64 * s + 8 * u + t) % 64 / 8 = u := by omega
  have e3 : (64 * s + 8 * u + t) % 8 = t := by omega
  unfold wTab
  rw [e1, e2, e3, if_pos ⟨by omega, hu, ht⟩]
  rfl
theorem rel0 : Rel x0 y1 := by
  refine ⟨⟨0, ⟨Nat.zero_le _, fun i hi => absurd hi (Nat.not_lt_zero _)⟩, rfl, rfl⟩, ⟨3, 0, Or.inl ⟨rfl, rfl⟩, rfl, ⟨Nat.zero_le _, fun i hi => absurd hi (Nat.not_lt_zero _)⟩, rfl, rfl⟩, ⟨rfl, rfl, rfl, rfl, rfl⟩, ⟨fun _ => 1, fun _ => 1, fun p hp => ?_⟩, fun i hi => ⟨0, by decide, rfl⟩, ⟨7, Or.inl ⟨rfl, rfl⟩, rfl, Or.inl ⟨rfl, rfl⟩⟩, fun s u t hs hu ht => wTab_e hs hu ht, fun k hk => ⟨(zg_new k hk).1, (zg_new k hk).2.1⟩, fun k hk => (zg_new k hk).2.2, rfl, rfl, rfl, rfl⟩
  have hp' : p = 0 ∨ p = 1 ∨ p = 2 ∨ p = 3 := by omega
  rcases hp' with rfl | rfl | rfl | rfl
  · exact ⟨by decide, by decide, by decide, by decide, rfl, rfl, rfl, rfl, fun i j hi hj => rfl⟩
  · exact ⟨by decide, by decide, by decide, by decide, rfl, rfl, rfl, rfl, fun i j hi hj => rfl⟩
  · exact ⟨by decide, by decide, by decide, by decide, rfl, rfl, rfl, rfl, fun i j hi hj => rfl⟩
  · exact ⟨by decide, by decide, by decide, by decide, rfl, rfl, rfl, rfl, fun i j hi hj => rfl⟩
end
