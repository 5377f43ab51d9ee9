/-! units of a scan read by the class -/
theorem nI_bv {a : Nat} (h : a < 2 ^ 31) : (nI a).toBitVec.toNat = a := by
  show (BitVec.ofInt 32 (a : Int)).toNat = _
  rw [BitVec.ofInt_natCast, BitVec.toNat_ofNat, Nat.mod_eq_of_lt (by omega)]
theorem nI_andN {a c : Nat} (ha : a < 2 ^ 31) (hc : c < 2 ^ 31) : nI a &&& nI c = nI (a &&& c) := by
  have hl : a &&& c < 2 ^ 31 := Nat.lt_of_le_of_lt Nat.and_le_left ha
  apply Int32.toBitVec_inj.mp
  apply BitVec.eq_of_toNat_eq
  rw [Int32.toBitVec_and, BitVec.toNat_and, nI_bv ha, nI_bv hc, nI_bv hl]
theorem on_l {h l : Nat} (hh : 1 ≤ l → h < 256) (hl : l ≤ 8) : (nI h &&& (((1 : Int32) <<< (nI l &&& 31)) - 1)) = (((1 : Int32) <<< (nI l &&& 31)) - 1) ↔ h % 2 ^ l = 2 ^ l - 1 := by
  by_cases l0 : l = 0
  · rw [l0, Nat.pow_zero, Nat.mod_one]
    rw [show ((1 : Int32) <<< (nI 0 &&& 31)) - 1 = 0 by decide, Int32.and_zero]
    exact ⟨fun _ => rfl, fun _ => rfl⟩
  have hh := hh (by omega)
  have p1 : 2 ^ l ≤ 2 ^ 8 := Nat.pow_le_pow_right (by decide) hl
  have p0 := Nat.two_pow_pos l
  rw [pw_16 (by omega), show nI (2 ^ l) - 1 = nI (2 ^ l - 1) from pk_sub (b := 1) (by omega), nI_andN (by omega) (by omega), Nat.and_two_pow_sub_one_eq_mod]
  exact nI_eq (Nat.lt_of_le_of_lt (Nat.mod_le _ _) (by omega)) (by omega)
theorem bnd_2 {D : Nat → Nat} {n i : Nat} (h : bnd D n i) (hi : i < n) (e : D i = 255) : bnd D n (i + 2) := by
  intro Q h0 hs
  have := hs i (h Q h0 hs) hi
  rw [if_pos e] at this
  exact this
def zRb (D : Nat → Nat) (n code : Nat) (a : zS) : Nat ⊕ zS := if (a.2.1 = 0 ∧ a.1.2.2 % 2 ^ a.1.2.1 = 2 ^ a.1.2.1 - 1) ∧ a.1.1 < n ∧ D a.1.1 = 255 ∧ D (a.1.1 + 1) = code then .inr ((a.1.1 + 2, 0, a.1.2.2), 0, (fun _ => 0), a.2.2.2) else .inl 5
def zBk (D : Nat → Nat) (n : Nat) (Wd Wa : Nat → zT) (first last bf b : Nat) (g : gG) (mm : Nat) (u c j : Nat) (a : zS) : Nat ⊕ zS := zBlk D n (Wd c) (Wa c) first last bf b c (uT g mm u c j) a
def zCx (x : rg_S) (P first last bf bb : Nat) (g : gG) (cm : Nat → Nat) (mm : Nat) (td ta : Nat → Nat) (Wd Wa : Nat → zT) : Prop := zKx x P first last bf bb ∧ uR x P g cm mm ∧ ∀ i, i < mm → zTx x i (td (cm i)) (ta (cm i)) first last bf (Wd (cm i)) (Wa (cm i))
section
variable {X : px_X} {b B : Nat} {w0 w1 : px_W} {x x' y y' : rg_S} {D : Nat → Nat} {n d0 P mm m i j u first last bf bb L iv : Nat} {cm td ta : Nat → Nat} {Wd Wa : Nat → zT} {a : zS} {g : gG}
theorem zCx.f (h : zCx x P first last bf bb g cm mm td ta Wd Wa) (F : zFX P x x') : zCx x' P first last bf bb g cm mm td ta Wd Wa := ⟨h.1.f F, h.2.1.f h.1.1 F, fun i hi => (h.2.2 i hi).f h.1.1 F⟩
theorem x_ends (h : zX P cm mm D n d0 x a) (ok : zOk a) : ∃ x', fX6_endBits X (rg_p lX B w0 x) (B + 95) = some (rg_p lX B w0 x') ∧ zFX P x x' ∧ x'.1 95 3 = nI (d0 + a.1.1) ∧ ((a.2.1 = 0 ∧ a.1.2.2 % 2 ^ a.1.2.1 = 2 ^ a.1.2.1 - 1) ∧ zX P cm mm D n d0 x' ((a.1.1, 0, a.1.2.2), a.2) ∨ ¬ (a.2.1 = 0 ∧ a.1.2.2 % 2 ^ a.1.2.1 = 2 ^ a.1.2.1 - 1) ∧ x'.1 95 6 = nI 5) := by
  have o1 := ok.1
  obtain ⟨⟨h1, h2, h3, h4, h5, h6, h7, h7b, h7c, h7d⟩, h8, h9, h10⟩ := h
  have bo := h7d
  obtain ⟨b1, b2, b3, b4⟩ := h7d
  have e31 : ∀ z : rg_S, fX6_endBits_31 X (B + 95) (rg_p lX B w0 z) = some (rg_p lX B w0 (rg_wI z 95 5 0)) := by
    intro z
    unfold fX6_endBits_31
    exact ob_v (rg_pI rfl rfl _) rfl
  have e26 : fX6_endBits_26 X (B + 95) (rg_p lX B w0 x) = some (rg_p lX B w0 (rg_wI (rg_wI x 95 6 5) 95 5 0)) := by
    unfold fX6_endBits_26
    exact ob_v (rg_pI rfl rfl _) (e31 _)
  have bad : ¬ (a.2.1 = 0 ∧ a.1.2.2 % 2 ^ a.1.2.1 = 2 ^ a.1.2.1 - 1) → fX6_endBits X (rg_p lX B w0 x) (B + 95) = fX6_endBits_26 X (B + 95) (rg_p lX B w0 x) → ∃ x', fX6_endBits X (rg_p lX B w0 x) (B + 95) = some (rg_p lX B w0 x') ∧ zFX P x x' ∧ x'.1 95 3 = nI (d0 + a.1.1) ∧ ((a.2.1 = 0 ∧ a.1.2.2 % 2 ^ a.1.2.1 = 2 ^ a.1.2.1 - 1) ∧ zX P cm mm D n d0 x' ((a.1.1, 0, a.1.2.2), a.2) ∨ ¬ (a.2.1 = 0 ∧ a.1.2.2 % 2 ^ a.1.2.1 = 2 ^ a.1.2.1 - 1) ∧ x'.1 95 6 = nI 5) := by
    intro no e
    exact ⟨_, e.trans e26, (zFX.wI (k := 6) (by omega)).trans (zFX.wI (k := 5) (by omega)), by rw [wI_n _ _ (by omega), wI_n _ _ (by omega)]; exact h1, Or.inr ⟨no, by rw [wI_n _ _ (by omega), wI_s]; rfl⟩⟩
  by_cases r0 : a.2.1 = 0
  · have nr : ¬ 0 < x.1 95 7 := by rw [h8, r0]; decide
    by_cases q : a.1.2.2 % 2 ^ a.1.2.1 = 2 ^ a.1.2.1 - 1
    · refine ⟨rg_wI x 95 5 0, ?_, zFX.wI (by omega), by rw [wI_n _ _ (by omega)]; exact h1, Or.inl ⟨⟨r0, q⟩, ⟨?_, ?_, wI_s _ _ _ _, ?_, h5, ?_, h7, h7b, h7c, ?_⟩, ?_, h9, h10⟩⟩
      · unfold fX6_endBits
        refine ob_v (rg_I rfl rfl) (ob_v (rg_I rfl rfl) (ei_n nr (ob_v (rg_I rfl rfl) (ei_t ?_ (e31 x)))))
        rw [h2, h3]
        exact (on_l b4 b3).mpr q
      · rw [wI_n _ _ (by omega)]; exact h1
      · rw [wI_n _ _ (by omega)]; exact h2
      · rw [wI_n _ _ (by omega)]; exact h4
      · rw [wI_n _ _ (by omega)]; exact h6
      · exact ⟨b1, b2, by show 0 ≤ 8; decide, fun e => absurd e (by show ¬ 1 ≤ 0; decide)⟩
      · rw [wI_n _ _ (by omega)]; exact h8
    · refine bad (fun e => q e.2) ?_
      unfold fX6_endBits
      refine ob_v (rg_I rfl rfl) (ob_v (rg_I rfl rfl) (ei_n nr (ob_v (rg_I rfl rfl) (ei_n ?_ rfl))))
      rw [h2, h3]
      exact fun e => q ((on_l b4 b3).mp e)
  · refine bad (fun e => r0 e.1) ?_
    unfold fX6_endBits
    refine ob_v (rg_I rfl rfl) (ob_v (rg_I rfl rfl) (ei_t ?_ rfl))
    rw [h8]
    exact nI_lt (a := 0) (by omega) (by omega)
theorem x_pass {code : Nat} (m4 : mm ≤ 4) (hcode : 208 ≤ code) (hc2 : code < 256) (k : zKx x P first last bf bb) (hL : x.1 1 1 = nI L) (hL1 : L ≤ 16384) (hL2 : d0 + n ≤ L) (h : zX P cm mm D n d0 x a) (ok : zOk a) : ∃ x', fX6_passRestart X (rg_p lX B w0 x) (B + 95) (nI code) = some (rg_p lX B w0 x') ∧ zFX P x x' ∧ zXo P cm mm D n d0 (zRb D n code a) x' := by
  have hP := k.1
  have hP' := hP
  unfold isP at hP'
  obtain ⟨x1, e1, F1, p1, hh⟩ := x_ends (X := X) (B := B) (w0 := w0) h ok
  have k1 := k.f F1
  have L1 : x1.1 1 1 = nI L := by rw [F1.1 _ _ (by omega)]; exact hL
  have h10 : x1.1 41 10 = nI (d0 + n) := by rw [F1.1 _ _ (by omega)]; exact h.1.2.2.2.2.2.1
  have hdn : d0 + n ≤ 16384 := h.1.2.2.2.2.2.2.1
  have hby : ∀ i, i < n → x1.2.2.1 2 (d0 + i) &&& 255 = nI (D i) := by
    intro i hi
    rw [F1.2.2.1 2 (by omega) (by omega)]
    exact (h.1.2.2.2.2.2.2.2.1 i hi).1
  have hd : dOk D n := h.1.2.2.2.2.2.2.2.2.1
  have hbo : bOk D n a.1 := h.1.2.2.2.2.2.2.2.2.2
  have sn : a.1.1 ≤ n := hbo.2.1
  -- the tail
  have e59 : ∀ z : rg_S, fX6_passRestart_59 X (B + 95) (rg_p lX B w0 z) = some (rg_p lX B w0 (rg_wA (rg_wI (rg_wI z 95 3 (z.1 95 3 + 2)) 95 7 0) 104 fun i => if i < 4 then 0 else (rg_wI (rg_wI z 95 3 (z.1 95 3 + 2)) 95 7 0).2.2.1 104 i)) := by
    intro z
    unfold fX6_passRestart_59 fX6_begin
    exact ob_v (rg_I rfl rfl) (ob_v (rg_pI rfl rfl _) (ob_v (rg_O rfl) (ob_v (ob_v (rg_pI rfl rfl _) (ob_v (rg_C rfl rfl) (ob_v (rg_fill rfl (by decide) 0) rfl))) rfl)))
  have F59 : ∀ z : rg_S, zFX P z (rg_wA (rg_wI (rg_wI z 95 3 (z.1 95 3 + 2)) 95 7 0) 104 fun i => if i < 4 then 0 else (rg_wI (rg_wI z 95 3 (z.1 95 3 + 2)) 95 7 0).2.2.1 104 i) := fun z => (zFX.wI (k := 3) (by omega)).trans ((zFX.wI (k := 7) (by omega)).trans (zFX.w104 _))
  have f59 : ∀ z : rg_S, (rg_wA (rg_wI (rg_wI z 95 3 (z.1 95 3 + 2)) 95 7 0) 104 fun i => if i < 4 then 0 else (rg_wI (rg_wI z 95 3 (z.1 95 3 + 2)) 95 7 0).2.2.1 104 i).1 95 6 = z.1 95 6 := by
    intro z
    rw [wA_1, wI_n _ _ (by omega), wI_n _ _ (by omega)]
  have e54 : fX6_passRestart_54 X (B + 95) (rg_p lX B w0 x1) = fX6_passRestart_59 X (B + 95) (rg_p lX B w0 (rg_wI x1 95 6 5)) := by
    unfold fX6_passRestart_54
    exact ob_v (rg_pI rfl rfl _) rfl
  have bad54 : ∃ x', fX6_passRestart_54 X (B + 95) (rg_p lX B w0 x1) = some (rg_p lX B w0 x') ∧ zFX P x x' ∧ x'.1 95 6 = nI 5 := ⟨_, e54.trans (e59 _), F1.trans ((zFX.wI (k := 6) (by omega)).trans (F59 _)), by rw [f59, wI_s]; rfl⟩
  have st : ∀ r, (if nI (d0 + n) < nI (d0 + a.1.1 + 2) then fX6_passRestart_54 X (B + 95) (rg_p lX B w0 x1) else (gR (rg_p lX B w0 x1) (B + 95) 6 0).bind fun v30 => (gI (rg_p lX B w0 x1) (B + 95) 6 3).bind fun v31 => (gO (rg_p lX B w0 x1) v30 1).bind fun o32 => (fX1_at X (rg_p lX B w0 x1) v30 v31).bind fun q33 => if q33.1 = 255 then (gR q33.2 (B + 95) 6 0).bind fun v35 => (gI q33.2 (B + 95) 6 3).bind fun v36 => (gO q33.2 v35 1).bind fun o37 => (fX1_at X q33.2 v35 (v36 + 1)).bind fun q38 => if q38.1 = nI code then fX6_passRestart_59 X (B + 95) q38.2 else fX6_passRestart_54 X (B + 95) q38.2 else fX6_passRestart_54 X (B + 95) q33.2) = r → fX6_passRestart X (rg_p lX B w0 x) (B + 95) (nI code) = r := by
    intro r hr
    unfold fX6_passRestart
    refine ob_v (rg_O rfl) (ob_v e1 (ob_v (rg_I rfl rfl) (ob_v k1.g2 (ob_v (rg_I rfl rfl) ?_))))
    rw [h10, p1, show nI (d0 + a.1.1) + 2 = nI (d0 + a.1.1 + 2) from nI_add _ 2]
    exact hr
  have st2 : a.1.1 + 2 ≤ n → ∀ r, (if D a.1.1 = 255 then (if D (a.1.1 + 1) = code then fX6_passRestart_59 X (B + 95) (rg_p lX B w0 x1) else fX6_passRestart_54 X (B + 95) (rg_p lX B w0 x1)) else fX6_passRestart_54 X (B + 95) (rg_p lX B w0 x1)) = r → fX6_passRestart X (rg_p lX B w0 x) (B + 95) (nI code) = r := by
    intro hn r hr
    have at1 := x_at (X := X) (B := B) (w0 := w0) (o := 1) (k := d0 + a.1.1) (Or.inl rfl) L1 hL1 (by omega)
    have at2 := x_at (X := X) (B := B) (w0 := w0) (o := 1) (k := d0 + (a.1.1 + 1)) (Or.inl rfl) L1 hL1 (by omega)
    rw [hby _ (by omega)] at at1 at2
    have D1 := hd.2.1 a.1.1
    have D2 := hd.2.1 (a.1.1 + 1)
    refine st _ (ei_n (nI_nlt (by omega) (by omega)) (ob_v (rg_C rfl rfl) (ob_v (rg_I rfl rfl) (ob_v (rg_O rfl) ?_))))
    rw [p1]
    refine ob_v at1 ?_
    dsimp only
    by_cases d1 : D a.1.1 = 255
    · rw [if_pos d1] at hr
      refine ei_t (by rw [d1]; rfl) (ob_v (rg_C rfl rfl) (ob_v (rg_I rfl rfl) (ob_v (rg_O rfl) ?_)))
      rw [p1, show nI (d0 + a.1.1) + 1 = nI (d0 + (a.1.1 + 1)) from nI_add _ 1]
      refine ob_v at2 ?_
      dsimp only
      by_cases d2 : D (a.1.1 + 1) = code
      · rw [if_pos d2] at hr
        exact ei_t (by rw [d2]) hr
      · rw [if_neg d2] at hr
        exact ei_n (fun e => d2 ((nI_eq (by omega) (by omega)).mp e)) hr
    · rw [if_neg d1] at hr
      exact ei_n (fun e => d1 ((nI_eq (b := 255) (by omega) (by omega)).mp e)) hr
  -- any way through with a fault
  have anyw : x1.1 95 6 = nI 5 → ∃ x', fX6_passRestart X (rg_p lX B w0 x) (B + 95) (nI code) = some (rg_p lX B w0 x') ∧ zFX P x x' ∧ x'.1 95 6 = nI 5 := by
    intro f5
    obtain ⟨xb, eb, Fb, fb⟩ := bad54
    by_cases hn : a.1.1 + 2 ≤ n
    · by_cases d1 : D a.1.1 = 255 ∧ D (a.1.1 + 1) = code
      · refine ⟨_, st2 hn _ ?_, F1.trans (F59 x1), by rw [f59]; exact f5⟩
        rw [if_pos d1.1, if_pos d1.2]
        exact e59 x1
      · refine ⟨xb, st2 hn _ ?_, Fb, fb⟩
        split
        · split
          · exact absurd ⟨by assumption, by assumption⟩ d1
          · exact eb
        · exact eb
    · exact ⟨xb, st _ (ei_t (nI_lt (by omega) (by omega)) eb), Fb, fb⟩
  unfold zRb
  rcases hh with ⟨c1, c2⟩ | ⟨c1, c2⟩
  · by_cases q : a.1.1 < n ∧ D a.1.1 = 255 ∧ D (a.1.1 + 1) = code
    · rw [if_pos ⟨c1, q⟩]
      have l2 := (hd.2.2 a.1.1 hbo.1 q.1 q.2.1).1
      refine ⟨_, st2 (by omega) _ (by rw [if_pos q.2.1, if_pos q.2.2]; exact e59 x1), F1.trans (F59 x1), Or.inr ⟨_, rfl, ?_, ?_⟩⟩
      · exact ⟨by show 0 < 65536; decide, fun _ => by show (0 : Int).natAbs ≤ 1024; decide, ok.2.2⟩
      · obtain ⟨⟨g1, g2, g3, g4, g5, g6, g7, g7b, g7c, g7d⟩, g8, g9, g10⟩ := c2
        refine ⟨⟨?_, ?_, ?_, ?_, g5, ?_, g7, ?_, g7c, ?_⟩, ?_, ?_, ?_⟩
        · rw [wA_1, wI_n _ _ (by omega), wI_s, p1]
          exact nI_add _ 2
        · rw [wA_1, wI_n _ _ (by omega), wI_n _ _ (by omega)]; exact g2
        · rw [wA_1, wI_n _ _ (by omega), wI_n _ _ (by omega)]; exact g3
        · rw [wA_1, wI_n _ _ (by omega), wI_n _ _ (by omega)]; exact g4
        · rw [wA_1, wI_n _ _ (by omega), wI_n _ _ (by omega)]; exact g6
        · rw [wA_n _ _ (by decide)]; exact g7b
        · exact ⟨bnd_2 hbo.1 q.1 q.2.1, by show a.1.1 + 2 ≤ n; omega, by show 0 ≤ 8; decide, fun e => absurd e (by show ¬ 1 ≤ 0; decide)⟩
        · rw [wA_1, wI_s]; rfl
        · intro m hm
          rw [wA_s]
          rw [if_pos (by omega)]
          rfl
        · rw [wA_n _ _ (by omega)]; exact g10
    · rw [if_neg (fun e => q e.2)]
      obtain ⟨xb, eb, Fb, fb⟩ := bad54
      by_cases hn : a.1.1 + 2 ≤ n
      · refine ⟨xb, st2 hn _ ?_, Fb, Or.inl ⟨5, rfl, by decide, by decide, fb⟩⟩
        split
        · split
          · exact absurd ⟨by omega, by assumption, by assumption⟩ q
          · exact eb
        · exact eb
      · exact ⟨xb, st _ (ei_t (nI_lt (by omega) (by omega)) eb), Fb, Or.inl ⟨5, rfl, by decide, by decide, fb⟩⟩
  · rw [if_neg (fun e => c1 e.1)]
    obtain ⟨xb, eb, Fb, fb⟩ := anyw c2
    exact ⟨xb, eb, Fb, Or.inl ⟨5, rfl, by decide, by decide, fb⟩⟩
end
