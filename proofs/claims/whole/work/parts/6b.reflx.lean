/-! the class' becomeReflected -/
def gRf (g : gG) (m f : Nat) : gG := (if m = 1 then g.1 / (8 * gH g) * (8 * gH g) else g.1, if f = 1 then g.2.1 / (8 * gV_ g) * (8 * gV_ g) else g.2.1, g.2.2)
def rfOk (g : gG) (m f : Nat) : Prop := m < 2 ∧ f < 2 ∧ (m = 1 → 1 ≤ g.1 / (8 * gH g)) ∧ (f = 1 → 1 ≤ g.2.1 / (8 * gV_ g))
theorem gRf_ok {g : gG} {m f : Nat} (hg : gOk g) (h : rfOk g m f) : gOk (gRf g m f) ∧ gUA (gRf g m f) ≤ gUA g ∧ gUD (gRf g m f) ≤ gUD g := by
  obtain ⟨h1, h2, h3, h4⟩ := h
  have hh := hg.h
  have hv := hg.v
  have e1 : 1 ≤ (gRf g m f).1 ∧ (gRf g m f).1 ≤ g.1 := by
    show 1 ≤ (if m = 1 then g.1 / (8 * gH g) * (8 * gH g) else g.1) ∧ (if m = 1 then g.1 / (8 * gH g) * (8 * gH g) else g.1) ≤ g.1
    split
    · rename_i e
      exact ⟨Nat.mul_pos (h3 e) (by omega), Nat.div_mul_le_self _ _⟩
    · exact ⟨hg.1, Nat.le_refl _⟩
  have e2 : 1 ≤ (gRf g m f).2.1 ∧ (gRf g m f).2.1 ≤ g.2.1 := by
    show 1 ≤ (if f = 1 then g.2.1 / (8 * gV_ g) * (8 * gV_ g) else g.2.1) ∧ (if f = 1 then g.2.1 / (8 * gV_ g) * (8 * gV_ g) else g.2.1) ≤ g.2.1
    split
    · rename_i e
      exact ⟨Nat.mul_pos (h4 e) (by omega), Nat.div_mul_le_self _ _⟩
    · exact ⟨hg.2.2.1, Nat.le_refl _⟩
  have g1 := hg.2.1
  have g3 := hg.2.2.2.1
  exact ⟨⟨e1.1, by omega, e2.1, by omega, hg.2.2.2.2⟩, gUp_mono e1.2, gUp_mono e2.2⟩
def rfB (g g' : gG) (m f c q : Nat) : Nat := gBs g c + (if f = 1 then gDn g' c - 1 - q / gAc g' c else q / gAc g' c) * gAc g c + (if m = 1 then gAc g' c - 1 - q % gAc g' c else q % gAc g' c)
def rfV (g g' : gG) (m f : Nat) (F : Nat → Int32) : Nat → Int32 := flV g' (fun c q k => tbv m f k (F (64 * rfB g g' m f c q + k)))
theorem rf_in {g g' : gG} {m f c q : Nat} (hn : g'.2.2 = g.2.2) (ha : gUA g' ≤ gUA g) (hd : gUD g' ≤ gUD g) (hc : c < g.2.2.1) (hq : q < gAc g' c * gDn g' c) : (if m = 1 then gAc g' c - 1 - q % gAc g' c else q % gAc g' c) < gAc g c ∧ (if f = 1 then gDn g' c - 1 - q / gAc g' c else q / gAc g' c) < gDn g c ∧ rfB g g' m f c q < gBs g g.2.2.1 := by
  have a0 : 0 < gAc g' c := by
    rcases Nat.eq_zero_or_pos (gAc g' c) with e | e
    · rw [e, Nat.zero_mul] at hq; omega
    · exact e
  have m1 := Nat.mod_lt q a0
  have m2 : q / gAc g' c < gDn g' c := Nat.div_lt_of_lt_mul hq
  have e1 : gAc g' c ≤ gAc g c := by unfold gAc; rw [hn]; exact Nat.mul_le_mul ha (Nat.le_refl _)
  have e2 : gDn g' c ≤ gDn g c := by unfold gDn; rw [hn]; exact Nat.mul_le_mul hd (Nat.le_refl _)
  have r1 : (if m = 1 then gAc g' c - 1 - q % gAc g' c else q % gAc g' c) < gAc g c := by split <;> omega
  have r2 : (if f = 1 then gDn g' c - 1 - q / gAc g' c else q / gAc g' c) < gDn g c := by
    generalize q / gAc g' c = z at m2 ⊢
    split <;> omega
  have := gB_in (g := g) hc r1 r2
  exact ⟨r1, r2, by unfold rfB; omega⟩
section
variable {X : px_X} {b B : Nat} {w0 w1 w : px_W} {x y : rg_S} {P Q : Nat} {g g' : gG} {F S : Nat → Int32} {m f : Nat}
theorem x_rf_i (hs : px_st X) (hP : isP P) (hQ : isP Q) (hPQ : P ≠ Q) (hg : gOk g) (hg' : gOk g') (hb : gBs g g.2.2.1 ≤ 192) (hb' : gBs g' g'.2.2.1 ≤ 192) (hn : g'.2.2 = g.2.2) (ha : gUA g' ≤ gUA g) (hd : gUD g' ≤ gUD g) (hm : m < 2) (hf : f < 2) (hx : xPic x P g') (hx' : xPic x Q g) {Z : Nat → Int32} {c j M N : Nat} (hc : c < g.2.2.1) (hj : j < gDn g' c) :
    fX2_becomeReflected_109 X (fX2_becomeReflected_82 X M) (fX2_becomeReflected_94 X (fX2_becomeReflected_82 X M) N) FU (B + P) (B + Q) (nI m) (nI f) (nI c) (nI j) 0 (rg_p lX B w0 (rg_wA x (P + 6) (fU (64 * (gBs g' c + j * gAc g' c)) (rfV g g' m f (x.2.2.1 (Q + 6))) Z))) = fX2_becomeReflected_94 X (fX2_becomeReflected_82 X M) N (B + P) (B + Q) (nI m) (nI f) (nI c) (nI (j + 1)) (rg_p lX B w0 (rg_wA x (P + 6) (fU (64 * (gBs g' c + (j + 1) * gAc g' c)) (rfV g g' m f (x.2.2.1 (Q + 6))) Z))) := by
  have hP' : P = 7 ∨ P = 15 := hP
  have hQ' : Q = 7 ∨ Q = 15 := hQ
  have hc' : c < g'.2.2.1 := by rw [hn]; exact hc
  have hc4 := hg.2.2.2.2.2.1
  have hac := hg'.ac hc'
  have hdn := hg'.dn hc'
  have fm : ∀ n, n < 2 → (nI n = 0 ↔ n = 0) := fun n hn => nI_eq (b := 0) (by omega) (by omega)
  refine rg_lpF (F := fun u (q : Int32 × px_W) => fX2_becomeReflected_109 X (fX2_becomeReflected_82 X M) (fX2_becomeReflected_94 X (fX2_becomeReflected_82 X M) N) u (B + P) (B + Q) (nI m) (nI f) (nI c) (nI j) q.1 q.2) (gAc g' c) (fun i => (nI i, rg_p lX B w0 (rg_wA x (P + 6) (fU (64 * (gBs g' c + j * gAc g' c + i)) (rfV g g' m f (x.2.2.1 (Q + 6))) Z)))) (by omega) ?_ ?_
  · intro u i hi
    dsimp only
    have hin := gB_in hc' hi hj
    have hq : j * gAc g' c + i < gAc g' c * gDn g' c := by rw [Nat.mul_comm j]; exact row_lt hi hj
    have ed : (j * gAc g' c + i) / gAc g' c = j := by rw [Nat.mul_comm, Nat.mul_add_div (by omega), Nat.div_eq_of_lt hi, Nat.add_zero]
    have em : (j * gAc g' c + i) % gAc g' c = i := by rw [Nat.mul_comm, Nat.mul_add_mod, Nat.mod_eq_of_lt hi]
    have hci := rf_in (m := m) (f := f) hn ha hd hc hq
    rw [ed, em] at hci
    have px := hx.wA (o := P + 6) (f := fU (64 * (gBs g' c + j * gAc g' c + i)) (rfV g g' m f (x.2.2.1 (Q + 6))) Z) (fun j _ _ => by omega)
    have qx := hx'.wA (o := P + 6) (f := fU (64 * (gBs g' c + j * gAc g' c + i)) (rfV g g' m f (x.2.2.1 (Q + 6))) Z) (fun j _ _ => by omega)
    obtain ⟨p3, p4, p5⟩ := px.2.2.2.2 c hc'
    -- the blocks are found and the block is taken
    have f166 : ∀ i' j', i' = (if m = 1 then gAc g' c - 1 - i else i) → j' = (if f = 1 then gDn g' c - 1 - j else j) → fX2_becomeReflected_166 X (fX2_becomeReflected_82 X M) (fX2_becomeReflected_94 X (fX2_becomeReflected_82 X M) N) (fX2_becomeReflected_109 X (fX2_becomeReflected_82 X M) (fX2_becomeReflected_94 X (fX2_becomeReflected_82 X M) N) u) (B + P) (B + Q) (nI m) (nI f) (nI c) (nI j) (nI i) (nI j') (nI i') (nI c) (B + Q) (rg_p lX B w0 (rg_wA x (P + 6) (fU (64 * (gBs g' c + j * gAc g' c + i)) (rfV g g' m f (x.2.2.1 (Q + 6))) Z))) = fX2_becomeReflected_109 X (fX2_becomeReflected_82 X M) (fX2_becomeReflected_94 X (fX2_becomeReflected_82 X M) N) u (B + P) (B + Q) (nI m) (nI f) (nI c) (nI j) (nI (i + 1)) (rg_p lX B w0 (rg_wA x (P + 6) (fU (64 * (gBs g' c + j * gAc g' c + (i + 1))) (rfV g g' m f (x.2.2.1 (Q + 6))) Z))) := by
      rintro i' j' rfl rfl
      unfold fX2_becomeReflected_166
      refine ob_v (rg_O hQ.o) (ob_v (x_block1 hQ hg qx hc hci.1 hci.2.1) (ob_v (rg_O hP.o) (ob_v (x_block1 hP hg' px hc' hi hj) (ob_v (rg_O hP.o) ?_))))
      have hin2 := gB_in (g := g) hc hci.1 hci.2.1
      refine ob_v (x_takeB hs hP hQ hPQ (by omega) (by omega) hm hf ?_) ?_
      · intro k hk
        unfold rfV
        rw [Nat.add_assoc, flV_at (by omega) hq hk]
        unfold rfB
        rw [ed, em]
      · rw [nI_1]
        rfl
    have f145 : ∀ i', i' = (if m = 1 then gAc g' c - 1 - i else i) → fX2_becomeReflected_145 X (fX2_becomeReflected_82 X M) (fX2_becomeReflected_94 X (fX2_becomeReflected_82 X M) N) (fX2_becomeReflected_109 X (fX2_becomeReflected_82 X M) (fX2_becomeReflected_94 X (fX2_becomeReflected_82 X M) N) u) (B + P) (B + Q) (nI m) (nI f) (nI c) (nI j) (nI i) (nI i') (nI c) (B + Q) (rg_p lX B w0 (rg_wA x (P + 6) (fU (64 * (gBs g' c + j * gAc g' c + i)) (rfV g g' m f (x.2.2.1 (Q + 6))) Z))) = fX2_becomeReflected_109 X (fX2_becomeReflected_82 X M) (fX2_becomeReflected_94 X (fX2_becomeReflected_82 X M) N) u (B + P) (B + Q) (nI m) (nI f) (nI c) (nI j) (nI (i + 1)) (rg_p lX B w0 (rg_wA x (P + 6) (fU (64 * (gBs g' c + j * gAc g' c + (i + 1))) (rfV g g' m f (x.2.2.1 (Q + 6))) Z))) := by
      intro i' hi'
      unfold fX2_becomeReflected_145
      by_cases f0 : f = 0
      · refine ei_t ((fm f hf).mpr f0) (f166 i' j hi' ?_)
        rw [if_neg (by omega)]
      · refine ei_n (fun e => f0 ((fm f hf).mp e)) (ob_v (rg_C hP.o rfl) (ob_v (rg_A hP.a4 (by decide) c (by omega) (by decide)) ?_))
        rw [p4, show nI (gDn g' c) - 1 = nI (gDn g' c - 1) from pk_sub (b := 1) (by omega), pk_sub (by omega)]
        refine f166 i' _ hi' ?_
        rw [if_pos (by omega)]
    rw [fX2_becomeReflected_109.eq_2]
    refine ob_v (rg_C hP.o rfl) (ob_v (rg_A hP.a3 (by decide) c (by omega) (by decide)) ?_)
    rw [p3, if_neg (nI_ge hi (by omega))]
    by_cases m0 : m = 0
    · refine ei_t ((fm m hm).mpr m0) (f145 i ?_)
      rw [if_neg (by omega)]
    · refine ei_n (fun e => m0 ((fm m hm).mp e)) (ob_v (rg_C hP.o rfl) (ob_v (rg_A hP.a3 (by decide) c (by omega) (by decide)) ?_))
      rw [p3, show nI (gAc g' c) - 1 = nI (gAc g' c - 1) from pk_sub (b := 1) (by omega), pk_sub (by omega)]
      refine f145 _ ?_
      rw [if_pos (by omega)]
  · intro u
    dsimp only
    have px := hx.wA (o := P + 6) (f := fU (64 * (gBs g' c + j * gAc g' c + gAc g' c)) (rfV g g' m f (x.2.2.1 (Q + 6))) Z) (fun j _ _ => by omega)
    rw [fX2_becomeReflected_109.eq_2]
    refine ob_v (rg_C hP.o rfl) (ob_v (rg_A hP.a3 (by decide) c (by omega) (by decide)) ?_)
    rw [(px.2.2.2.2 c hc').1, if_pos (nI_le (Nat.le_refl _) (by omega)), fX2_becomeReflected_196, nI_1, Nat.add_mul, Nat.one_mul, Nat.add_assoc]
theorem x_rf_j (hs : px_st X) (hP : isP P) (hQ : isP Q) (hPQ : P ≠ Q) (hg : gOk g) (hg' : gOk g') (hb : gBs g g.2.2.1 ≤ 192) (hb' : gBs g' g'.2.2.1 ≤ 192) (hn : g'.2.2 = g.2.2) (ha : gUA g' ≤ gUA g) (hd : gUD g' ≤ gUD g) (hm : m < 2) (hf : f < 2) (hx : xPic x P g') (hx' : xPic x Q g) {Z : Nat → Int32} {c M : Nat} (hc : c < g.2.2.1) :
    fX2_becomeReflected_94 X (fX2_becomeReflected_82 X M) FU (B + P) (B + Q) (nI m) (nI f) (nI c) 0 (rg_p lX B w0 (rg_wA x (P + 6) (fU (64 * gBs g' c) (rfV g g' m f (x.2.2.1 (Q + 6))) Z))) = fX2_becomeReflected_82 X M (B + P) (B + Q) (nI m) (nI f) (nI (c + 1)) (rg_p lX B w0 (rg_wA x (P + 6) (fU (64 * gBs g' (c + 1)) (rfV g g' m f (x.2.2.1 (Q + 6))) Z))) := by
  have hP' : P = 7 ∨ P = 15 := hP
  have hc' : c < g'.2.2.1 := by rw [hn]; exact hc
  have hc4 := hg.2.2.2.2.2.1
  have hdn := hg'.dn hc'
  have e := rg_lpF (F := fun u (q : Int32 × px_W) => fX2_becomeReflected_94 X (fX2_becomeReflected_82 X M) u (B + P) (B + Q) (nI m) (nI f) (nI c) q.1 q.2) (gDn g' c) (fun j => (nI j, rg_p lX B w0 (rg_wA x (P + 6) (fU (64 * (gBs g' c + j * gAc g' c)) (rfV g g' m f (x.2.2.1 (Q + 6))) Z)))) (r := fX2_becomeReflected_82 X M (B + P) (B + Q) (nI m) (nI f) (nI (c + 1)) (rg_p lX B w0 (rg_wA x (P + 6) (fU (64 * gBs g' (c + 1)) (rfV g g' m f (x.2.2.1 (Q + 6))) Z)))) (by omega) ?_ ?_
  · refine Eq.trans ?_ e
    dsimp only
    rw [Nat.zero_mul, nI_0]
    rfl
  · intro u j hj
    dsimp only
    have px := hx.wA (o := P + 6) (f := fU (64 * (gBs g' c + j * gAc g' c)) (rfV g g' m f (x.2.2.1 (Q + 6))) Z) (fun j _ _ => by omega)
    rw [fX2_becomeReflected_94.eq_2]
    refine ob_v (rg_C hP.o rfl) (ob_v (rg_A hP.a4 (by decide) c (by omega) (by decide)) ?_)
    rw [(px.2.2.2.2 c hc').2.1, if_neg (nI_ge hj (by omega))]
    exact x_rf_i hs hP hQ hPQ hg hg' hb hb' hn ha hd hm hf hx hx' hc hj
  · intro u
    dsimp only
    have px := hx.wA (o := P + 6) (f := fU (64 * (gBs g' c + gDn g' c * gAc g' c)) (rfV g g' m f (x.2.2.1 (Q + 6))) Z) (fun j _ _ => by omega)
    rw [fX2_becomeReflected_94.eq_2]
    refine ob_v (rg_C hP.o rfl) (ob_v (rg_A hP.a4 (by decide) c (by omega) (by decide)) ?_)
    rw [(px.2.2.2.2 c hc').2.1, if_pos (nI_le (Nat.le_refl _) (by omega)), fX2_becomeReflected_202, nI_1, Nat.mul_comm (gDn g' c)]
    rfl
theorem x_rf_c (hs : px_st X) (hP : isP P) (hQ : isP Q) (hPQ : P ≠ Q) (hg : gOk g) (hg' : gOk g') (hb : gBs g g.2.2.1 ≤ 192) (hb' : gBs g' g'.2.2.1 ≤ 192) (hn : g'.2.2 = g.2.2) (ha : gUA g' ≤ gUA g) (hd : gUD g' ≤ gUD g) (hm : m < 2) (hf : f < 2) (hx : xPic x P g') (hx' : xPic x Q g) :
    fX2_becomeReflected_82 X FU (B + P) (B + Q) (nI m) (nI f) 0 (rg_p lX B w0 x) = some (rg_p lX B w0 (rg_wA x (P + 6) (fU (64 * gBs g' g'.2.2.1) (rfV g g' m f (x.2.2.1 (Q + 6))) (x.2.2.1 (P + 6))))) := by
  have hP' : P = 7 ∨ P = 15 := hP
  have hc4 := hg.2.2.2.2.2.1
  have en : g'.2.2.1 = g.2.2.1 := by rw [hn]
  have e := rg_lpF (F := fun u (q : Int32 × px_W) => fX2_becomeReflected_82 X u (B + P) (B + Q) (nI m) (nI f) q.1 q.2) g.2.2.1 (fun c => (nI c, rg_p lX B w0 (rg_wA x (P + 6) (fU (64 * gBs g' c) (rfV g g' m f (x.2.2.1 (Q + 6))) (x.2.2.1 (P + 6)))))) (r := some (rg_p lX B w0 (rg_wA x (P + 6) (fU (64 * gBs g' g'.2.2.1) (rfV g g' m f (x.2.2.1 (Q + 6))) (x.2.2.1 (P + 6)))))) (by omega) ?_ ?_
  · refine Eq.trans ?_ e
    dsimp only
    rw [show gBs g' 0 = 0 from rfl, Nat.mul_zero, fU_0, wA_id rfl, nI_0]
  · intro u c hc
    dsimp only
    rw [fX2_becomeReflected_82.eq_2]
    refine ob_v (rg_I hP.o rfl) ?_
    rw [wA_1, hx.1.2.2.1, en, if_neg (nI_ge hc (by omega))]
    exact x_rf_j hs hP hQ hPQ hg hg' hb hb' hn ha hd hm hf hx hx' hc
  · intro u
    dsimp only
    rw [fX2_becomeReflected_82.eq_2]
    refine ob_v (rg_I hP.o rfl) ?_
    rw [wA_1, hx.1.2.2.1, en, if_pos (nI_le (Nat.le_refl _) (by omega))]
theorem x_reflect (hs : px_st X) (h : XP x Q P g F S) (hr : rfOk g m f) : ∃ x1 x', (∀ w0, fX2_becomeReflected X (rg_p lX B w0 x) (B + P) (B + Q) (nI m) (nI f) = some (rg_p lX B w0 x1)) ∧ (∀ w0, fX11_takeDraft X (rg_p lX B w0 x1) (B + 0) = some (rg_p lX B w0 x')) ∧ XP x' P Q (gRf g m f) (rfV g (gRf g m f) m f F) S ∧ FX x x' := by
  obtain ⟨hQ, hP, hPQ, hR, hR', ht, hg, hb, px, pc, ps⟩ := h
  have hP' : P = 7 ∨ P = 15 := hP
  have hQ' : Q = 7 ∨ Q = 15 := hQ
  have hc4 := hg.2.2.2.2.2.1
  have hgh := hg.h
  have hgv := hg.v
  have g1 := hg.2.1
  have g3 := hg.2.2.2.1
  have hm := hr.1
  have hf := hr.2.1
  obtain ⟨ok', ha, hd⟩ := gRf_ok hg hr
  have hn : (gRf g m f).2.2 = g.2.2 := rfl
  have bl := gBs_le (g := g) (g' := gRf g m f) hn ha hd g.2.2.1
  have hb' : gBs (gRf g m f) (gRf g m f).2.2.1 ≤ 192 := by show gBs (gRf g m f) g.2.2.1 ≤ 192; omega
  have fm : ∀ n, n < 2 → (nI n = 0 ↔ n = 0) := fun n hn => nI_eq (b := 0) (by omega) (by omega)
  have n8 : ∀ u, (8 : Int32) * nI u = nI (8 * u) := fun u => pk_mul 8 u
  have i0 : ∀ k, (xTF x P Q).1 Q k = x.1 Q k := fun k => by rw [xTF_I, if_neg (by omega)]
  refine ⟨rg_wA (xCr x P Q (gRf g m f)) (P + 6) (fU (64 * gBs (gRf g m f) g.2.2.1) (rfV g (gRf g m f) m f (x.2.2.1 (Q + 6))) (x.2.2.1 (P + 6))), _, fun w0 => ?_, fun w0 => x_takeDraft (P := P) (Q := Q) hR hR', ?_, ?_⟩
  · have fin : fX2_becomeReflected_72 X (B + P) (B + Q) (nI m) (nI f) (nI (gRf g m f).2.1) (B + P) (rg_p lX B w0 (rg_wI (xTF x P Q) P 0 (nI (gRf g m f).1))) = some (rg_p lX B w0 (rg_wA (xCr x P Q (gRf g m f)) (P + 6) (fU (64 * gBs (gRf g m f) g.2.2.1) (rfV g (gRf g m f) m f (x.2.2.1 (Q + 6))) (x.2.2.1 (P + 6))))) := by
      unfold fX2_becomeReflected_72
      refine ob_v (rg_pI hP.o rfl _) (ob_v (rg_O hP.o) (ob_v (x_settle hP ok' (xCr_fr hg hn px)) ?_))
      have pP : xPic (xCr x P Q (gRf g m f)) P (gRf g m f) := xSt_pic (xCr_fr hg hn px)
      have e := x_rf_c (X := X) (B := B) (w0 := w0) hs hP hQ hPQ hg ok' hb hb' hn ha hd hm hf pP (xCr_Q hP hQ hPQ px)
      rw [xCr_A (by omega), xCr_A (by omega)] at e
      exact e
    have fin2 : fX2_becomeReflected_37 X (B + P) (B + Q) (nI m) (nI f) (nI (gRf g m f).1) (B + P) (rg_p lX B w0 (xTF x P Q)) = some (rg_p lX B w0 (rg_wA (xCr x P Q (gRf g m f)) (P + 6) (fU (64 * gBs (gRf g m f) g.2.2.1) (rfV g (gRf g m f) m f (x.2.2.1 (Q + 6))) (x.2.2.1 (P + 6))))) := by
      unfold fX2_becomeReflected_37
      refine ob_v (rg_pI hP.o rfl _) ?_
      have e21 : (gRf g m f).2.1 = if f = 1 then g.2.1 / (8 * gV_ g) * (8 * gV_ g) else g.2.1 := rfl
      by_cases f0 : f = 0
      · refine ei_t ((fm f hf).mpr f0) (ob_v (rg_I hQ.o rfl) ?_)
        rw [wI_n _ _ (by omega), i0, px.1.2.1]
        rw [if_neg (by omega)] at e21
        rw [← e21]
        exact fin
      · refine ei_n (fun e => f0 ((fm f hf).mp e)) (ob_v (rg_I hQ.o rfl) (ob_v (rg_I hQ.o rfl) ?_))
        rw [wI_n _ _ (by omega), wI_n _ _ (by omega), i0, i0, px.1.2.1, px.2.2.1, n8]
        refine ob_v (dI_n (by omega) (by omega) (by omega)) (ob_v (rg_I hQ.o rfl) ?_)
        rw [wI_n _ _ (by omega), i0, px.2.2.1, n8, pk_mul]
        rw [if_pos (by omega)] at e21
        rw [← e21]
        exact fin
    unfold fX2_becomeReflected
    refine ob_v (rg_O hP.o) (ob_v (x_takeFrame hP hQ hPQ) ?_)
    have e1 : (gRf g m f).1 = if m = 1 then g.1 / (8 * gH g) * (8 * gH g) else g.1 := rfl
    by_cases m0 : m = 0
    · refine ei_t ((fm m hm).mpr m0) (ob_v (rg_I hQ.o rfl) ?_)
      rw [i0, px.1.1]
      rw [if_neg (by omega)] at e1
      rw [← e1]
      exact fin2
    · refine ei_n (fun e => m0 ((fm m hm).mp e)) (ob_v (rg_I hQ.o rfl) (ob_v (rg_I hQ.o rfl) ?_))
      rw [i0, i0, px.1.1, px.2.1, n8]
      refine ob_v (dI_n (by omega) (by omega) (by omega)) (ob_v (rg_I hQ.o rfl) ?_)
      rw [i0, px.2.1, n8, pk_mul]
      rw [if_pos (by omega)] at e1
      rw [← e1]
      exact fin2
  · have pP : xPic (xCr x P Q (gRf g m f)) P (gRf g m f) := xSt_pic (xCr_fr hg hn px)
    refine ⟨hP, hQ, fun e => hPQ e.symm, rfl, rfl, rfl, ok', hb', ?_, ?_, ?_⟩
    · exact (pP.wA (fun j j1 j2 => by omega)).c (fun k _ => wI_n _ _ (by omega)) (fun j _ _ => rfl)
    · intro i hi
      have hi' : i < 64 * gBs (gRf g m f) g.2.2.1 := hi
      show (rg_wA _ (P + 6) _).2.2.1 (P + 6) i = _
      rw [wA_s, fU_lt hi']
      obtain ⟨c, q, k, hc, hq, hk, rfl⟩ := fl_in hi'
      have hci := rf_in (m := m) (f := f) hn ha hd hc hq
      unfold rfV
      rw [flV_at (by omega) hq hk, flV_at (by omega) hq hk, pc _ (by omega)]
    · intro i hi
      have hi' : i < 64 * g.2.2.1 := hi
      show (rg_wA _ (P + 6) _).2.2.1 (P + 7) i = _
      rw [wA_n _ _ (by omega), xCr_7, pk_cpy_in (by omega) (by omega), Nat.sub_zero, Nat.zero_add]
      exact ps i hi'
  · refine ⟨fun o k ho hk => ?_, fun k k4 k5 => ?_, fun o ho => ?_⟩
    · exact (wI_n _ _ (by omega)).trans (xCr_I (by omega))
    · show (if (0 : Nat) = 0 ∧ k = 5 then Q else if (0 : Nat) = 0 ∧ k = 4 then P else x.2.1 0 k) = x.2.1 0 k
      rw [if_neg (by omega), if_neg (by omega)]
    · show (rg_wA _ (P + 6) _).2.2.1 o = _
      rw [wA_n _ _ (by omega)]
      exact xCr_A (by omega)
end
