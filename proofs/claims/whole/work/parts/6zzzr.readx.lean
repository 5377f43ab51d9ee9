/-! a whole scan read; the byte held at the start does not matter -/
section
variable {D : Nat → Nat} {n p h h' : Nat} {r : Nat × (Nat → Int) × (Nat → Int32)}
theorem tB_h : tB D n (p, 0, h) = tB D n (p, 0, h') := by
  have f : fil D (p, 0, h) = fil D (p, 0, h') := by
    unfold fil
    rw [if_pos rfl, if_pos rfl]
  unfold tB
  rw [f]
theorem sy_h {c : Nat → Nat} {j l v : Nat} : sy D n c (j + 1) l v (p, 0, h) = sy D n c (j + 1) l v (p, 0, h') := by
  rw [sy, sy, tB_h (h' := h')]
theorem zSy_h {W : zT} : zSy D n W (p, 0, h) = zSy D n W (p, 0, h') := by
  unfold zSy
  rw [show sy D n W.1 16 0 0 (p, 0, h) = sy D n W.1 16 0 0 (p, 0, h') from sy_h (j := 15)]
theorem zDir_e {W : zT} {s s' : bSt} {bf b c q : Nat} (e1 : tB D n s = tB D n s') (e2 : zSy D n W s = zSy D n W s') : zDir D n W bf b c q (s, r) = zDir D n W bf b c q (s', r) := by
  unfold zDir
  dsimp only
  rw [e1, e2]
theorem zOth_e {W : zT} {s s' : bSt} {first last b q j k : Nat} (hk : k ≤ last) (e2 : zSy D n W s = zSy D n W s') : zOth D n W first last b q (j + 1) k (s, r) = zOth D n W first last b q (j + 1) k (s', r) := by
  rw [zOth, zOth, if_neg (by omega), if_neg (by omega)]
  dsimp only
  rw [e2]
theorem zMo_e {W : zT} {s s' : bSt} {last b q j k : Nat} (hk : k ≤ last) (e2 : zSy D n W s = zSy D n W s') : zMo D n W last b q (j + 1) k (s, r) = zMo D n W last b q (j + 1) k (s', r) := by
  rw [zMo, zMo, if_neg (by omega), if_neg (by omega)]
  dsimp only
  rw [e2]
theorem zBlk_h {Wd Wa : zT} {first last bf b c T : Nat} (fl : first ≤ last) (hr : r.1 = 0) : zBlk D n Wd Wa first last bf b c T ((p, 0, h), r) = zBlk D n Wd Wa first last bf b c T ((p, 0, h'), r) := by
  unfold zBlk
  by_cases f0 : first = 0
  · rw [if_pos f0, if_pos f0, zDir_e (tB_h (h' := h')) (zSy_h (h' := h'))]
  · rw [if_neg f0, if_neg f0]
    show (if last = 0 then Sum.inr ((p, 0, h), r) else if bf = 0 then zOt D n Wa first last b (64 * T) ((p, 0, h), r) else zMr D n Wa first last b (64 * T) ((p, 0, h), r)) = (if last = 0 then Sum.inr ((p, 0, h'), r) else if bf = 0 then zOt D n Wa first last b (64 * T) ((p, 0, h'), r) else zMr D n Wa first last b (64 * T) ((p, 0, h'), r))
    rw [if_neg (show ¬ last = 0 by omega), if_neg (show ¬ last = 0 by omega)]
    have e1 : zOt D n Wa first last b (64 * T) ((p, 0, h), r) = zOt D n Wa first last b (64 * T) ((p, 0, h'), r) := by
      unfold zOt
      dsimp only
      rw [hr, if_neg (Nat.lt_irrefl 0), if_neg (Nat.lt_irrefl 0)]
      exact zOth_e (j := 63) (by omega) (zSy_h (h' := h'))
    have e2 : zMr D n Wa first last b (64 * T) ((p, 0, h), r) = zMr D n Wa first last b (64 * T) ((p, 0, h'), r) := by
      unfold zMr
      dsimp only
      rw [hr, if_neg (Nat.lt_irrefl 0), if_neg (Nat.lt_irrefl 0)]
      exact zMo_e (j := 63) fl (zSy_h (h' := h'))
    rw [e1, e2]
end
theorem zUn_e {bk : Nat → Nat → Nat → zS → Nat ⊕ zS} {rs : Nat → zS → Nat ⊕ zS} {cm Bc : Nat → Nat} {mm N : Nat} {a a' : zS} (hN : 1 ≤ N) (hm : 1 ≤ mm) (hB : 1 ≤ Bc (cm 0)) (e1 : rs 0 a = .inr a) (e2 : rs 0 a' = .inr a') (e3 : bk 0 (cm 0) 0 a = bk 0 (cm 0) 0 a') : zUn bk rs cm Bc mm N 0 a = zUn bk rs cm Bc mm N 0 a' := by
  obtain ⟨N, rfl⟩ : ∃ N', N = N' + 1 := ⟨N - 1, by omega⟩
  obtain ⟨m, rfl⟩ : ∃ m', mm = m' + 1 := ⟨mm - 1, by omega⟩
  obtain ⟨q, hq⟩ : ∃ q', Bc (cm 0) = q' + 1 := ⟨Bc (cm 0) - 1, by omega⟩
  rw [zUn, zUn, e1, e2]
  show zBd (zIs (bk 0) cm Bc (m + 1) 0 a) _ = zBd (zIs (bk 0) cm Bc (m + 1) 0 a') _
  rw [zIs, zIs, hq, zJs, zJs, e3]
def zSc (D : Nat → Nat) (n : Nat) (Wd Wa : Nat → zT) (first last bf b : Nat) (g : gG) (cm : Nat → Nat) (mm iv : Nat) (Q : Nat → Int32) (h : Nat) : Nat ⊕ zS := zBd (zUn (zBk D n Wd Wa first last bf b g mm) (zRs D n iv) cm (uB g mm) mm (uU g cm mm) 0 ((0, 0, h), 0, (fun _ => 0), Q)) (zFn n)
theorem uB_1 {g : gG} {mm c : Nat} (hg : gOk g) (hc : c < g.2.2.1) : 1 ≤ uB g mm c := by
  unfold uB
  split
  · exact Nat.le_refl _
  · have f := hg.2.2.2.2.2.2 c hc
    exact Nat.mul_le_mul f.1.1 f.2.1
theorem zSc_h {D : Nat → Nat} {n first last bf b mm iv h : Nat} {Wd Wa : Nat → zT} {g : gG} {cm : Nat → Nat} {Q : Nat → Int32} (hg : gOk g) (hm : mOk g cm mm) (fl : first ≤ last) : zSc D n Wd Wa first last bf b g cm mm iv Q h = zSc D n Wd Wa first last bf b g cm mm iv Q 0 := by
  unfold zSc
  have e1 : ∀ a : zS, zRs D n iv 0 a = .inr a := by
    intro a
    unfold zRs
    exact if_neg (fun e => Nat.lt_irrefl 0 e.2.1)
  have e := zUn_e (bk := zBk D n Wd Wa first last bf b g mm) (rs := zRs D n iv) (cm := cm) (Bc := uB g mm) (mm := mm) (a := ((0, 0, h), 0, (fun _ => 0), Q)) (a' := ((0, 0, 0), 0, (fun _ => 0), Q)) (uU_lt hg hm).1 hm.1 (uB_1 hg (hm.2.2.1 0 hm.1)) (e1 _) (e1 _) (zBlk_h fl rfl)
  rw [e]
theorem ex_nI (v : Int32) : ∃ h, v = nI h := by
  refine ⟨v.toBitVec.toNat, ?_⟩
  apply Int32.toBitVec_inj.mp
  show _ = BitVec.ofInt 32 ((v.toBitVec.toNat : Nat) : Int)
  rw [BitVec.ofInt_natCast, BitVec.ofNat_toNat, BitVec.setWidth_eq]
/-- what a scan's reading may change in the class -/
def FXrd (P : Nat) (x x' : rg_S) : Prop := (∀ p k, ¬ (p = 95 ∧ 3 ≤ k ∧ k ≤ 7) → ¬ (p = 41 ∧ 11 ≤ k ∧ k ≤ 13) → x'.1 p k = x.1 p k) ∧ (∀ p k, ¬ (p = 95 ∧ (k = 1 ∨ k = 2)) → x'.2.1 p k = x.2.1 p k) ∧ (∀ o, o ≠ P + 6 → o ≠ 104 → ¬ (46 ≤ o ∧ o ≤ 48) → x'.2.2.1 o = x.2.2.1 o) ∧ x'.2.2.2 = x.2.2.2
/-- a scan ready to be read by the class -/
def rdX (x : rg_S) (P first last bf bb : Nat) (g : gG) (cm : Nat → Nat) (mm : Nat) (td ta : Nat → Nat) (Wd Wa : Nat → zT) (D : Nat → Nat) (n d0 L : Nat) (Q : Nat → Int32) : Prop := isP P ∧ lyR x P g cm mm ∧ (x.1 41 1 = nI first ∧ x.1 41 2 = nI last ∧ x.1 41 3 = nI bf ∧ x.1 41 4 = nI bb) ∧ (first ≤ last ∧ last ≤ 63 ∧ bf ≤ 10 ∧ bb ≤ 9 ∧ (first = 0 → 0 < last → bf = 0)) ∧ (∀ i, i < mm → zTx x i (td (cm i)) (ta (cm i)) first last bf (Wd (cm i)) (Wa (cm i))) ∧ (x.1 41 9 = nI d0 ∧ x.1 41 10 = nI (d0 + n) ∧ x.1 1 1 = nI L ∧ L ≤ 16384 ∧ d0 + n ≤ L) ∧ (∀ i, i < n → x.2.2.1 2 (d0 + i) &&& 255 = nI (D i) ∧ (x.2.2.1 2 (d0 + i) = 0 ↔ D i = 0)) ∧ dOk D n ∧ (∀ i, i < 12288 → x.2.2.1 (P + 6) i = Q i) ∧ ∀ i, i < 12288 → cfOk (i % 64) (Q i)
section
variable {X : px_X} {b B : Nat} {w0 w1 : px_W} {x x' y y' : rg_S} {D : Nat → Nat} {n d0 P mm m i j u first last bf bb L iv : Nat} {cm td ta : Nat → Nat} {Wd Wa : Nat → zT} {a : zS} {g : gG} {Q : Nat → Int32}
theorem zTx.l {W W' : zT} {td ta : Nat} (h : zTx x m td ta first last bf W W') (F : FXl x x') : zTx x' m td ta first last bf W W' := by
  have wl : ∀ {t m : Nat} {c : Nat → Nat} {S : List Nat}, t < 8 → wX x t c S m → wX x' t c S m := by
    intro t m c S ht h
    unfold wX
    rw [F.1 _ _ (by omega), F.1 _ _ (by omega), F.2.2.1 (55 + 5 * t + 1) (by omega), F.2.2.1 (55 + 5 * t + 2) (by omega), F.2.2.1 (55 + 5 * t + 3) (by omega), F.2.2.1 (55 + 5 * t + 4) (by omega)]
    exact h
  obtain ⟨h1, h2, h3, h4, h5, h6⟩ := h
  exact ⟨by rw [F.2.2.1 43 (by omega)]; exact h1, by rw [F.2.2.1 44 (by omega)]; exact h2, h3, h4, fun e e' => ⟨(h5 e e').1, wl (by omega) (h5 e e').2⟩, fun e => ⟨(h6 e).1, wl (by omega) (h6 e).2⟩⟩
theorem zXo_f {r : Nat ⊕ zS} (o : zXo P cm mm D n d0 r x) : (∀ f, zBd r (zFn n) = .inl f → f < 100) ∧ ∀ a, zBd r (zFn n) = .inr a → zOk a := by
  rcases o with ⟨f, r1, r2, r3, r4⟩ | ⟨a, r1, r2, r3⟩
  · rw [r1]
    exact ⟨fun f' e => by rw [← Sum.inl.inj e]; exact r3, fun a e => (by cases e)⟩
  · rw [r1]
    show (∀ f, zFn n a = .inl f → f < 100) ∧ ∀ a', zFn n a = .inr a' → zOk a'
    unfold zFn
    split
    · exact ⟨fun f e => (by cases e), fun a' e => by rw [← Sum.inr.inj e]; exact r2⟩
    · exact ⟨fun f e => by rw [← Sum.inl.inj e]; decide, fun a' e => (by cases e)⟩
theorem x_read (hg : gOk g) (hm : mOk g cm mm) (hb : gBs g g.2.2.1 ≤ 192) (hiv : iv < 65536) (R : rdX x P first last bf bb g cm mm td ta Wd Wa D n d0 L Q) : ∃ x', fX6_read X (rg_p lX B w0 x) (B + 95) (B + P) (B + 41) (B + 49) (nI iv) = some (match zSc D n Wd Wa first last bf bb g cm mm iv Q 0 with | .inl f => nI (10 + f) | .inr _ => 0, rg_p lX B w0 x') ∧ FXrd P x x' ∧ (∀ a, zSc D n Wd Wa first last bf bb g cm mm iv Q 0 = .inr a → ∀ i, i < 12288 → x'.2.2.1 (P + 6) i = a.2.2.2 i) ∧ (∀ f, zSc D n Wd Wa first last bf bb g cm mm iv Q 0 = .inl f → f < 100) ∧ ∀ a, zSc D n Wd Wa first last bf bb g cm mm iv Q 0 = .inr a → zOk a := by
  obtain ⟨hP, hl, ⟨k1, k2, k3, k4⟩, ⟨fl, l6, hbf, hbb, hff⟩, ht, ⟨h9, h10, hL, hL1, hL2⟩, hby, hd, hQ, hQ2⟩ := R
  have hP' := hP
  unfold isP at hP'
  have hl0 : lyR (rg_wR (rg_wR x 95 1 P) 95 2 41) P g cm mm := hl
  obtain ⟨x1, e1, u1, F1⟩ := x_rlay (X := X) (B := B) (w0 := w0) hP hg hm hl0
  have r1 : x1.2.1 95 1 = P := by
    rw [F1.2.1, wR_2, if_neg (by omega), wR_2, if_pos ⟨rfl, rfl⟩]
  have r2 : x1.2.1 95 2 = 41 := by
    rw [F1.2.1, wR_2, if_pos ⟨rfl, rfl⟩]
  have z1 : ∀ p k, ¬ (p = 41 ∧ (k = 11 ∨ k = 12 ∨ k = 13)) → x1.1 p k = x.1 p k := fun p k e => F1.1 p k e
  have z3 : ∀ p, ¬ (46 ≤ p ∧ p ≤ 48) → x1.2.2.1 p = x.2.2.1 p := fun p e => F1.2.2.1 p e
  have K1 : zKx x1 P first last bf bb := ⟨hP, r1, r2, by rw [z1 _ _ (by omega)]; exact k1, by rw [z1 _ _ (by omega)]; exact k2, by rw [z1 _ _ (by omega)]; exact k3, by rw [z1 _ _ (by omega)]; exact k4, fl, l6, hbf, hbb⟩
  have T1 : ∀ i, i < mm → zTx x1 i (td (cm i)) (ta (cm i)) first last bf (Wd (cm i)) (Wa (cm i)) := fun i hi => zTx.l (show zTx (rg_wR (rg_wR x 95 1 P) 95 2 41) i (td (cm i)) (ta (cm i)) first last bf (Wd (cm i)) (Wa (cm i)) from ht i hi) F1
  generalize hx2 : rg_wI (rg_wI (rg_wI x1 95 3 (nI d0)) 95 6 0) 95 5 0 = x2
  generalize hx3 : (rg_wA (rg_wI x2 95 7 0) 104 fun i => if i < 4 then 0 else (rg_wI x2 95 7 0).2.2.1 104 i) = x3
  have F3 : zFX P x1 x3 := by
    rw [← hx3, ← hx2]
    exact (zFX.wI (k := 3) (by omega)).trans ((zFX.wI (k := 6) (by omega)).trans ((zFX.wI (k := 5) (by omega)).trans ((zFX.wI (k := 7) (by omega)).trans (zFX.w104 _))))
  have C3 : zCx x3 P first last bf bb g cm mm td ta Wd Wa := ⟨K1.f F3, u1.f hP F3, fun i hi => (T1 i hi).f hP F3⟩
  obtain ⟨hh, ehh⟩ := ex_nI (x1.1 95 4)
  have ok0 : zOk ((0, 0, hh), 0, (fun _ => 0), Q) := ⟨by show 0 < 65536; decide, fun _ => by show (0 : Int).natAbs ≤ 1024; decide, hQ2⟩
  have h3 : zX P cm mm D n d0 x3 ((0, 0, hh), 0, (fun _ => 0), Q) := by
    refine ⟨⟨?_, ?_, ?_, ?_, ?_, ?_, by omega, ?_, hd, bnd_0, Nat.zero_le _, Nat.zero_le _, fun e => absurd e (by show ¬ 1 ≤ 0; decide)⟩, ?_, ?_, ?_⟩
    · rw [← hx3, wA_1, wI_n _ _ (by omega), ← hx2, wI_n _ _ (by omega), wI_n _ _ (by omega), wI_s]
      rfl
    · rw [← hx3, wA_1, wI_n _ _ (by omega), ← hx2, wI_n _ _ (by omega), wI_n _ _ (by omega), wI_n _ _ (by omega)]
      exact ehh
    · rw [← hx3, wA_1, wI_n _ _ (by omega), ← hx2, wI_s]
      rfl
    · rw [← hx3, wA_1, wI_n _ _ (by omega), ← hx2, wI_n _ _ (by omega), wI_s]
    · rw [F3.2.1]
      exact r2
    · rw [F3.1 _ _ (by omega), z1 _ _ (by omega)]
      exact h10
    · intro i hi
      rw [F3.2.2.1 2 (by omega) (by omega), z3 2 (by omega)]
      exact hby i hi
    · rw [← hx3, wA_1, wI_s]
      rfl
    · intro m hm'
      have h4 := hg.2.2.2.2.2.1
      have hmm := hm.2.1
      rw [← hx3, wA_s, if_pos (by omega)]
      rfl
    · intro i hi
      rw [← hx3, wA_n _ _ (by omega), wI_2, ← hx2, wI_2, wI_2, wI_2, z3 _ (by omega)]
      exact hQ i hi
  have ul := uU_lt hg hm
  obtain ⟨x4, e4, F4, o4⟩ := x_us (X := X) (B := B) (w0 := w0) hg hm hb hff hiv hL1 hL2 (uU g cm mm) 0 FU x3 _ (by omega) (by unfold FU; omega) (by rw [F3.1 _ _ (by omega), z1 _ _ (by omega)]; exact hL) C3 h3 ok0
  obtain ⟨x5, e5, F5, o5⟩ := x_fin (X := X) (B := B) (w0 := w0) (C3.f F4).1 (by rw [F4.1 _ _ (by omega), F3.1 _ _ (by omega), z1 _ _ (by omega)]; exact h10) (by omega) o4
  have hz := zSc_h (D := D) (n := n) (Wd := Wd) (Wa := Wa) (bf := bf) (b := bb) (iv := iv) (Q := Q) (h := hh) hg hm fl
  rw [← hz]
  refine ⟨x5, ?_, ?_, o5, zXo_f o4⟩
  · unfold fX6_read
    refine ob_v (rg_pR rfl rfl P) (ob_v (rg_pR rfl rfl 41) (ob_v (rg_R rfl rfl) (ob_v (rg_R rfl rfl) ?_)))
    rw [wR_2, if_pos ⟨rfl, rfl⟩, wR_2, if_neg (by omega), wR_2, if_pos ⟨rfl, rfl⟩]
    refine ob_v (rg_O rfl) (ob_v e1 (ob_v K1.g2 (ob_v (rg_I rfl rfl) ?_)))
    rw [z1 _ _ (by omega), h9]
    refine ob_v (rg_pI rfl rfl _) (ob_v (rg_pI rfl rfl _) (ob_v (rg_pI rfl rfl _) (ob_v (rg_O rfl) ?_)))
    rw [hx2]
    have eb : fX6_begin X (rg_p lX B w0 x2) (B + 95) = some (rg_p lX B w0 x3) := by
      rw [← hx3]
      unfold fX6_begin
      exact ob_v (rg_pI rfl rfl _) (ob_v (rg_C rfl rfl) (ob_v (rg_fill rfl (by decide) 0) rfl))
    exact ob_v eb (e4.trans e5)
  · have F := F3.trans (F4.trans F5)
    refine ⟨fun p k a1 a2 => ?_, fun p k a1 => ?_, fun o a1 a2 a3 => ?_, ?_⟩
    · rw [F.1 p k a1, z1 p k (by omega)]
    · rw [F.2.1, F1.2.1, wR_2, if_neg (by omega), wR_2, if_neg (by omega)]
    · rw [F.2.2.1 o a1 a2, z3 o a3]
    · rw [F.2.2.2, F1.2.2.2]
      rfl
end
