/-! writeAll, tally and write of the reference -/
section
variable {X : px_X} {b B : Nat} {w0 w1 w : px_W} {y y' y0 : rg_S} {t n c j T q c0 m u iv N : Nat} {p : scP} {K : kS} {a a' : aS} {Z : Nat → Int} {g : gG} {e : eS}
theorem m_t32 {md : Nat} (hm : md = 0 ∨ md = 1) (h : y.1 24 35 = nI md) : fX13_writeAll_32 X FU (b + 24) 0 (rg_p lM b w0 y) = fX13_writeAll_68 X (b + 24) (rg_p lM b w0 (rg_wA y 43 (if md = 1 then fU 2048 (fun _ => 0) (y.2.2.1 43) else y.2.2.1 43))) := by
  rcases hm with rfl | rfl
  · rw [if_neg (by decide), wA_id rfl]
    refine rg_lpF (F := fun M (s : Int32) => fX13_writeAll_32 X M (b + 24) s (rg_p lM b w0 y)) 2048 (fun i => nI i) (r := fX13_writeAll_68 X (b + 24) (rg_p lM b w0 y)) (by omega) ?_ ?_
    · intro M i hi
      rw [fX13_writeAll_32.eq_2]
      refine ei_n (nI_ge (b := 2048) (by omega) (by omega)) (ob_v (rg_C rfl rfl) (ob_v (rg_I rfl rfl) (ei_t (by rw [h]; rfl) (ob_v (rg_C rfl rfl) (ob_v (rg_A rfl (by decide) _ hi (by decide)) ?_)))))
      unfold fX13_writeAll_61
      refine ob_v (rg_sA _ rfl (by decide) _ _ hi (by decide)) ?_
      rw [id, upd_id, wA_id rfl, nI_1]
    · intro M
      rw [fX13_writeAll_32.eq_2]
      exact ei_t (by decide) rfl
  · rw [if_pos rfl]
    have e := rg_lpF (F := fun M (s : Int32 × rg_S) => fX13_writeAll_32 X M (b + 24) s.1 (rg_p lM b w0 s.2)) 2048 (fun i => (nI i, rg_wA y 43 (fU i (fun _ => 0) (y.2.2.1 43)))) (r := fX13_writeAll_68 X (b + 24) (rg_p lM b w0 (rg_wA y 43 (fU 2048 (fun _ => 0) (y.2.2.1 43))))) (by omega) ?_ ?_
    · dsimp only at e
      rw [fU_0, wA_id rfl] at e
      exact e
    · intro M i hi
      dsimp only
      rw [fX13_writeAll_32.eq_2]
      refine ei_n (nI_ge (b := 2048) (by omega) (by omega)) (ob_v (rg_C rfl rfl) (ob_v (rg_I rfl rfl) (ei_n (by rw [wA_1, h]; exact n10) ?_)))
      unfold fX13_writeAll_61
      refine ob_v (rg_sA _ rfl (by decide) _ _ hi (by decide)) ?_
      rw [wA_s, wA_wA, id, nI_1, ← fU_s i (fun _ => 0) (y.2.2.1 43)]
    · intro M
      dsimp only
      rw [fX13_writeAll_32.eq_2]
      exact ei_t (by decide) rfl
theorem m_writeAll (S : sY K (yBeg y K.md)) (pp : pY (yBeg y K.md) p.1 p.2.1 p.2.2.1 p.2.2.2 (64 * gBs g g.2.2.1) g.2.2.1 (gBs g) Z) (q : uY (yBeg y K.md) g c0 m iv) (hg : gOk g) (hs : scOk g c0 m) (hff : p.1 = 0 → 0 < p.2.1 → p.2.2.1 = 0) (hZ : ∀ i, i < 64 * gBs g g.2.2.1 → -1024 ≤ Z i ∧ Z i ≤ 1023) (hiv : iv < 65536) (h42 : y.1 24 42 = 0) (hE : inE K (aAll g c0 m p Z iv)) : ∃ y', fX13_writeAll X (rg_p lM b w0 y) (b + 24) = some (rg_p lM b w0 y') ∧ yW K (yBeg y K.md) (aAll g c0 m p Z iv) y' := by
  have hun := scU_lt hg hs
  have hcm := hs.cm hg
  have h4 := hg.2.2.2.2.2.1
  have h35 : y.1 24 35 = nI K.md := by
    have := S.2.1
    unfold yBeg at this
    rw [wA_1, wI_n _ _ (by omega), wI_n _ _ (by omega), wI_n _ _ (by omega), wI_n _ _ (by omega), wI_n _ _ (by omega), wI_n _ _ (by omega)] at this
    exact this
  have ew : fX13_writeAll X (rg_p lM b w0 y) (b + 24) = fX13_writeAll_68 X (b + 24) (rg_p lM b w0 (yBeg y K.md)) := by
    unfold fX13_writeAll
    refine ob_v (rg_pI rfl rfl _) (ob_v (rg_pI rfl rfl _) (ob_v (rg_pI rfl rfl _) (ob_v (rg_pZ rfl rfl _ (Or.inl rfl)) (ob_v (rg_pI rfl rfl _) (ob_v (rg_pI rfl rfl _) ?_)))))
    exact m_t32 S.1 (by rw [wI_n _ _ (by omega), wI_n _ _ (by omega), wI_n _ _ (by omega), wI_n _ _ (by omega), wI_n _ _ (by omega), wI_n _ _ (by omega)]; exact h35)
  rw [ew]
  have b31 : (yBeg y K.md).1 24 31 = 0 := by
    unfold yBeg
    rw [wA_1, wI_n _ _ (by omega), wI_n _ _ (by omega), wI_n _ _ (by omega), wI_n _ _ (by omega), wI_n _ _ (by omega), wI_s]
  have b32 : (yBeg y K.md).1 24 32 = 0 := by
    unfold yBeg
    rw [wA_1, wI_n _ _ (by omega), wI_n _ _ (by omega), wI_n _ _ (by omega), wI_n _ _ (by omega), wI_s]
  have b33 : (yBeg y K.md).1 24 33 = 0 := by
    unfold yBeg
    rw [wA_1, wI_n _ _ (by omega), wI_n _ _ (by omega), wI_n _ _ (by omega), wI_s]
  have b34 : (yBeg y K.md).1 24 34 = 0 := by
    unfold yBeg
    rw [wA_1, wI_n _ _ (by omega), wI_n _ _ (by omega), wI_s]
  have b38 : (yBeg y K.md).1 24 38 = 0 := by
    unfold yBeg
    rw [wA_1, wI_n _ _ (by omega), wI_s]
  have b40 : (yBeg y K.md).1 24 40 = 0 := by
    unfold yBeg
    rw [wA_1, wI_s]
  have b42 : (yBeg y K.md).1 24 42 = 0 := by
    unfold yBeg
    rw [wA_1, wI_n _ _ (by omega), wI_n _ _ (by omega), wI_n _ _ (by omega), wI_n _ _ (by omega), wI_n _ _ (by omega), wI_n _ _ (by omega)]
    exact h42
  have b43 : K.md = 1 → ∀ t s, t < 8 → s < 256 → (yBeg y K.md).2.2.1 43 (256 * t + s) = 0 := by
    intro e t s ht hs
    unfold yBeg
    rw [wA_s, if_pos e, fU_lt (by omega)]
  generalize yBeg y K.md = y0 at *
  have st : yW K y0 (aUs g c0 m p Z iv 0) (rg_wA y0 44 (fU 4 (fun _ => 0) (y0.2.2.1 44))) := by
    refine ⟨⟨fun _ _ _ => rfl, rfl, fun p hp => wA_n _ _ (by omega), rfl⟩, ?_, fun e t s ht hs' => ?_, b38, b40, b42, lst_nil, lst_nil, fun c hc => ?_⟩
    · have e : emit K.md K.cw K.cl (aUs g c0 m p Z iv 0).1 ([], 0, 0) = ([], 0, 0) := by
        show emit K.md K.cw K.cl [] ([], 0, 0) = _
        unfold emit
        split <;> rfl
      rw [e]
      exact ⟨⟨b31, b34, fun i hi => absurd hi (Nat.not_lt_zero _)⟩, b32, b33, (show 0 < 8 by decide), (show 0 < 2 ^ 0 by decide)⟩
    · rw [wA_n _ _ (by decide)]
      exact b43 e t s ht hs'
    · rw [wA_s, fU_lt hc]
      rfl
  have hE1 : inE K (aSend (4 + c0) (aUs g c0 m p Z iv (scU g c0 m))) := hE.g (gr_ap _ _)
  have hE0 := hE1.g (gr_send _ _)
  have g1 := gr_us (g := g) (c0 := c0) (m := m) (p := p) (Z := Z) (iv := iv) 1 (scU g c0 m - 1)
  rw [show 1 + (scU g c0 m - 1) = scU g c0 m by omega] at g1
  have rs0 : aRs iv (4 + c0) 0 (aUs g c0 m p Z iv 0) = aUs g c0 m p Z iv 0 := if_neg (by omega)
  have us1 : aUs g c0 m p Z iv 1 = aUn g c0 m p Z 0 a00 g.2.2.1 := by
    show aUn g c0 m p Z 0 (aRs iv (4 + c0) 0 (aUs g c0 m p Z iv 0)) g.2.2.1 = _
    rw [rs0]
    rfl
  have hE2 := hE0.g g1
  rw [us1] at hE2
  obtain ⟨FU', hFU⟩ : ∃ m', FU = m' + 1 := ⟨3999999, rfl⟩
  obtain ⟨x2, e2, h2⟩ := m_comps (X := X) (b := b) (w0 := w0) (k82 := fX13_writeAll_82 X FU') (a1 := nI (4 + c0)) (a2 := nI 0) (u := 0) S pp q hg hs hff hZ (by omega) aIv_00 hE2 g.2.2.1 FU 0 _ (by omega) (by unfold FU; omega) st
  rw [← us1] at h2
  obtain ⟨x3, e3, h3⟩ := m_u82 (X := X) (b := b) (w0 := w0) S pp q hg hs hff hZ hiv hE0 (scU g c0 m - 1) FU' 1 x2 (by omega) (by unfold FU at hFU; omega) (by omega) h2
  have hI := aIv_us (iv := iv) hg hs hZ hff (scU g c0 m) (Nat.le_refl _)
  obtain ⟨x4, e4, h4'⟩ := m_send (X := X) (b := b) (w0 := w0) (t := 4 + c0) S h3 (by decide) (by decide) hI.1 (by omega) hE1
  obtain ⟨x5, e5, h5⟩ := m_align (X := X) (b := b) (w0 := w0) S h4'
  refine ⟨x5, ?_, h5⟩
  unfold fX13_writeAll_68
  refine ob_v (rg_C rfl rfl) (ob_v (rg_O rfl) (ob_v (m_single hg hs q.1) (ob_v (rg_A rfl (by decide) _ hcm.1 (by decide)) ?_)))
  rw [(pp.2.2.2.2.2.2.2.2.2.2.2 c0 (by omega)).2.2, hFU, fX13_writeAll_82.eq_2]
  refine ob_v (rg_O rfl) (ob_v (m_units hg hs q) (ei_n (nI_ge (a := 0) (by omega) (by omega)) (ob_v (rg_I rfl rfl) ?_)))
  have e114 : fX13_writeAll_114 X (fX13_writeAll_82 X FU') (b + 24) (nI (4 + c0)) 0 0 (rg_p lM b w0 y0) = some (rg_p lM b w0 x5) := by
    unfold fX13_writeAll_114 fX13_writeAll_115
    refine ei_t rfl ((m_pred0 (Or.inl rfl)).trans ?_)
    unfold fX13_writeAll_202
    refine (show fX13_writeAll_205 X (fX13_writeAll_82 X FU') FU (b + 24) (nI (4 + c0)) (nI 0) (nI 0) (nI 0) _ = _ from e2).trans ?_
    have e0 : (1 - 1) / iv = 0 := Nat.zero_div _
    rw [e0] at e3
    refine e3.trans ?_
    unfold fX13_writeAll_261
    exact ob_v (rg_O rfl) (ob_v e4 (ob_v (rg_O rfl) (ob_v e5 rfl)))
  rw [q.2.2.2.2.1]
  by_cases i0 : nI iv ≤ 0
  · exact ei_t i0 e114
  · exact ei_n i0 (ei_t (by decide) e114)
/-- counting -/
theorem m_tally (h1 : K.md = 1) (S : sY K (yBeg (rg_wI y 24 35 1) 1)) (pp : pY (yBeg (rg_wI y 24 35 1) 1) p.1 p.2.1 p.2.2.1 p.2.2.2 (64 * gBs g g.2.2.1) g.2.2.1 (gBs g) Z) (q : uY (yBeg (rg_wI y 24 35 1) 1) g c0 m iv) (hg : gOk g) (hs : scOk g c0 m) (hff : p.1 = 0 → 0 < p.2.1 → p.2.2.1 = 0) (hZ : ∀ i, i < 64 * gBs g g.2.2.1 → -1024 ≤ Z i ∧ Z i ≤ 1023) (hiv : iv < 65536) (h42 : y.1 24 42 = 0) : ∃ v y', fX13_tally X (rg_p lM b w0 y) (b + 24) = some (v, rg_p lM b w0 y') ∧ yW K (yBeg (rg_wI y 24 35 1) 1) (aAll g c0 m p Z iv) y' := by
  obtain ⟨y', e', h'⟩ := m_writeAll (X := X) (b := b) (w0 := w0) (y := rg_wI y 24 35 1) (K := K) (iv := iv) (by rw [h1]; exact S) (by rw [h1]; exact pp) (by rw [h1]; exact q) hg hs hff hZ hiv (by rw [wI_n _ _ (by omega)]; exact h42) (fun e => absurd (h1.symm.trans e) (by decide))
  rw [h1] at h'
  have lp : ∀ (k M i : Nat) (v : Int32), i + k = 2048 → k < M → ∃ v', fX13_tally_13 X M (b + 24) v (nI i) (rg_p lM b w0 y') = some (v', rg_p lM b w0 y') := by
    intro k
    induction k with
    | zero =>
      intro M i v hi hM
      obtain rfl : i = 2048 := by omega
      obtain ⟨M, rfl⟩ : ∃ M', M = M' + 1 := ⟨M - 1, by omega⟩
      refine ⟨v, ?_⟩
      rw [fX13_tally_13.eq_2]
      exact ei_t (by decide) rfl
    | succ k ih =>
      intro M i v hi hM
      obtain ⟨M, rfl⟩ : ∃ M', M = M' + 1 := ⟨M - 1, by omega⟩
      obtain ⟨v', hv'⟩ := ih M (i + 1) (v + y'.2.2.1 43 i) (by omega) (by omega)
      refine ⟨v', ?_⟩
      rw [fX13_tally_13.eq_2]
      refine ei_n (nI_ge (b := 2048) (by omega) (by omega)) (ob_v (rg_C rfl rfl) (ob_v (rg_A rfl (by decide) _ (by omega) (by decide)) ?_))
      rw [nI_1]
      exact hv'
  obtain ⟨v', hv'⟩ := lp 2048 FU 0 0 rfl (by unfold FU; omega)
  refine ⟨v', y', ?_, h'⟩
  unfold fX13_tally
  exact ob_v (rg_pZ rfl rfl _ (Or.inr rfl)) (ob_v (rg_O rfl) (ob_v e' hv'))
/-- writing: the times are kept beside -/
def yKp (y : rg_S) : rg_S := rg_wA (rg_wI y 24 35 0) 47 (fU 2048 (y.2.2.1 43) (y.2.2.1 47))
theorem m_k7 : fX13_write_7 X FU (b + 24) 0 (rg_p lM b w0 (rg_wI y 24 35 0)) = fX13_write_32 X (b + 24) (rg_p lM b w0 (yKp y)) := by
  have e := rg_lpF (F := fun M (s : Int32 × rg_S) => fX13_write_7 X M (b + 24) s.1 (rg_p lM b w0 s.2)) 2048 (fun i => (nI i, rg_wA (rg_wI y 24 35 0) 47 (fU i (y.2.2.1 43) (y.2.2.1 47)))) (r := fX13_write_32 X (b + 24) (rg_p lM b w0 (yKp y))) (by omega) ?_ ?_
  · dsimp only at e
    rw [fU_0, show rg_wA (rg_wI y 24 35 0) 47 (y.2.2.1 47) = rg_wI y 24 35 0 from wA_id rfl] at e
    exact e
  · intro M i hi
    dsimp only
    rw [fX13_write_7.eq_2]
    refine ei_n (nI_ge (b := 2048) (by omega) (by omega)) (ob_v (rg_C rfl rfl) (ob_v (rg_C rfl rfl) (ob_v (rg_A rfl (by decide) _ hi (by decide)) (ob_v (rg_sA _ rfl (by decide) _ _ hi (by decide)) ?_))))
    rw [wA_s, wA_wA, id, nI_1, ← fU_s i (y.2.2.1 43) (y.2.2.1 47), wA_n _ _ (by decide)]
    rfl
  · intro M
    dsimp only
    rw [fX13_write_7.eq_2]
    exact ei_t (by decide) rfl
theorem m_k38 : fX13_write_38 X FU (b + 24) 0 (rg_p lM b w0 y) = fX13_write_63 X (b + 24) (rg_p lM b w0 (rg_wA y 43 (fU 2048 (y.2.2.1 47) (y.2.2.1 43)))) := by
  have e := rg_lpF (F := fun M (s : Int32 × rg_S) => fX13_write_38 X M (b + 24) s.1 (rg_p lM b w0 s.2)) 2048 (fun i => (nI i, rg_wA y 43 (fU i (y.2.2.1 47) (y.2.2.1 43)))) (r := fX13_write_63 X (b + 24) (rg_p lM b w0 (rg_wA y 43 (fU 2048 (y.2.2.1 47) (y.2.2.1 43))))) (by omega) ?_ ?_
  · dsimp only at e
    rw [fU_0, wA_id rfl] at e
    exact e
  · intro M i hi
    dsimp only
    rw [fX13_write_38.eq_2]
    refine ei_n (nI_ge (b := 2048) (by omega) (by omega)) (ob_v (rg_C rfl rfl) (ob_v (rg_C rfl rfl) (ob_v (rg_A rfl (by decide) _ hi (by decide)) (ob_v (rg_sA _ rfl (by decide) _ _ hi (by decide)) ?_))))
    rw [wA_s, wA_wA, id, nI_1, ← fU_s i (y.2.2.1 47) (y.2.2.1 43), wA_n _ _ (by decide)]
  · intro M
    dsimp only
    rw [fX13_write_38.eq_2]
    exact ei_t (by decide) rfl
theorem m_k82 (hn : n ≤ 16384) (h31 : y.1 24 31 = nI n) (hb : ∀ i, i < n → vp_nar .byte (y.2.2.1 42 i) = y.2.2.1 42 i) : fX13_write_82 X FU (b + 24) 0 (rg_p lM b w0 y) = fX13_write_108 X (b + 24) (rg_p lM b w0 (rg_wA y 41 (fU n (y.2.2.1 42) (y.2.2.1 41)))) := by
  have e := rg_lpF (F := fun M (s : Int32 × rg_S) => fX13_write_82 X M (b + 24) s.1 (rg_p lM b w0 s.2)) n (fun i => (nI i, rg_wA y 41 (fU i (y.2.2.1 42) (y.2.2.1 41)))) (r := fX13_write_108 X (b + 24) (rg_p lM b w0 (rg_wA y 41 (fU n (y.2.2.1 42) (y.2.2.1 41))))) (by omega) ?_ ?_
  · dsimp only at e
    rw [fU_0, wA_id rfl] at e
    exact e
  · intro M i hi
    dsimp only
    rw [fX13_write_82.eq_2]
    refine ob_v (rg_I rfl rfl) ?_
    rw [wA_1, h31]
    refine ei_n (nI_ge (by omega) (by omega)) (ob_v (rg_C rfl rfl) (ob_v (rg_C rfl rfl) (ob_v (rg_A rfl (by decide) _ (by omega) (by decide)) (ob_v (rg_sA _ rfl (by decide) _ _ (by omega) (by decide)) ?_))))
    rw [wA_s, wA_wA, nI_1, wA_n _ _ (by decide), hb i hi, ← fU_s i (y.2.2.1 42) (y.2.2.1 41)]
  · intro M
    dsimp only
    rw [fX13_write_82.eq_2]
    refine ob_v (rg_I rfl rfl) ?_
    rw [wA_1, h31]
    exact ei_t (nI_le (Nat.le_refl _) (by omega)) rfl
theorem bt_bt (v : Int32) : bt (bt v) = bt v := by
  unfold bt
  simp
def bL (e : eS) : Prop := ∀ v, v ∈ e.1 → bt v = v
theorem bL_eb {c : Nat} (h : bL e) : bL (eb c e) := by
  have h1 : ∀ (l : List Int32) (z : Int32), (∀ v, v ∈ l → bt v = v) → ∀ v, v ∈ l ++ [bt z] → bt v = v := by
    intro l z hl v hv
    rcases List.mem_append.mp hv with hv | hv
    · exact hl v hv
    · rw [List.mem_singleton.mp hv]
      exact bt_bt _
  unfold eb
  by_cases q : e.2.2 + 1 = 8
  · rw [if_pos q]
    by_cases r : 2 * e.2.1 + c = 255
    · rw [if_pos r]
      exact h1 _ _ (h1 _ _ h)
    · rw [if_neg r]
      exact h1 _ _ h
  · rw [if_neg q]
    exact h
theorem bL_ebs {v : Int32} : ∀ {n : Nat} {e : eS}, bL e → bL (ebs v n e) := by
  intro n
  induction n with
  | zero => intro e h; exact h
  | succ n ih => intro e h; exact ih (bL_eb h)
theorem bL_em {cw cl : Nat → Nat → Nat} (v : ev) (h : bL e) : bL (em1 cw cl v e) := by
  match v with
  | .inl _ => exact bL_ebs h
  | .inr (.inl _) => exact bL_ebs h
  | .inr (.inr none) =>
    show bL (al e)
    unfold al
    split
    · exact h
    · exact bL_ebs h
  | .inr (.inr (some c)) =>
    intro v hv
    rcases List.mem_append.mp hv with hv | hv
    · rcases List.mem_append.mp hv with hv | hv
      · exact h v hv
      · rw [List.mem_singleton.mp hv]
        exact bt_bt _
    · rw [List.mem_singleton.mp hv]
      exact bt_bt _
theorem bL_emit {md : Nat} {cw cl : Nat → Nat → Nat} : ∀ {E : List ev} {e : eS}, bL e → bL (emit md cw cl E e) := by
  intro E
  unfold emit
  split
  · intro e h; exact h
  · induction E with
    | nil => intro e h; exact h
    | cons v E ih => intro e h; exact ih (bL_em v h)
/-- what a scan's writing leaves alone -/
def FYs (y y' : rg_S) : Prop := (∀ p k, ¬ (p = 24 ∧ (k = 29 ∨ k = 31 ∨ k = 32 ∨ k = 33 ∨ k = 34 ∨ k = 35 ∨ k = 38 ∨ k = 40)) → y'.1 p k = y.1 p k) ∧ y'.2.1 = y.2.1 ∧ (∀ p, ¬ (41 ≤ p ∧ p ≤ 47) → y'.2.2.1 p = y.2.2.1 p) ∧ y'.2.2.2 = y.2.2.2
theorem m_wr (h0 : K.md = 0) (S : sY K (yBeg (yKp y) 0)) (pp : pY (yBeg (yKp y) 0) p.1 p.2.1 p.2.2.1 p.2.2.2 (64 * gBs g g.2.2.1) g.2.2.1 (gBs g) Z) (q : uY (yBeg (yKp y) 0) g c0 m iv) (hg : gOk g) (hs : scOk g c0 m) (hff : p.1 = 0 → 0 < p.2.1 → p.2.2.1 = 0) (hZ : ∀ i, i < 64 * gBs g g.2.2.1 → -1024 ≤ Z i ∧ Z i ≤ 1023) (hiv : iv < 65536) (h42 : y.1 24 42 = 0) (hE : inE K (aAll g c0 m p Z iv)) {L : List Int32} (hL : (emit 0 K.cw K.cl (aAll g c0 m p Z iv).1 ([], 0, 0)).1 = L) : ∃ y', fX13_write X (rg_p lM b w0 y) (b + 24) = some (if 16384 < L.length then -1 else nI L.length, rg_p lM b w0 y') ∧ FYs y y' ∧ (∀ i, i < 2048 → y'.2.2.1 43 i = y.2.2.1 43 i) ∧ (L.length ≤ 16384 → ∀ i, i < L.length → y'.2.2.1 41 i = L.getD i 0) := by
  have bl : bL (emit 0 K.cw K.cl (aAll g c0 m p Z iv).1 ([], 0, 0)) := bL_emit (fun v hv => by cases hv)
  obtain ⟨y1, e1, h1⟩ := m_writeAll (X := X) (b := b) (w0 := w0) (y := yKp y) (K := K) (iv := iv) (by rw [h0]; exact S) (by rw [h0]; exact pp) (by rw [h0]; exact q) hg hs hff hZ hiv (by unfold yKp; rw [wA_1, wI_n _ _ (by omega)]; exact h42) hE
  rw [h0] at h1
  obtain ⟨F1, E1, _, v1, v2, v3, _⟩ := h1
  have zl := E1.1
  rw [h0] at zl
  unfold zO oB at zl
  rw [hL] at zl
  have tc0 : (aAll g c0 m p Z iv).2.2.2.1.length = 0 := by
    have hI := aIv_send (t := 4 + c0) (aIv_us (iv := iv) hg hs hZ hff (scU g c0 m) (Nat.le_refl _))
    exact Nat.le_zero.mp hI.1.2.2.1
  have i1 : ∀ p k, ¬ (p = 24 ∧ (k = 29 ∨ k = 31 ∨ k = 32 ∨ k = 33 ∨ k = 34 ∨ k = 35 ∨ k = 38 ∨ k = 40)) → y1.1 p k = y.1 p k := by
    intro p' k hk
    by_cases e42 : p' = 24 ∧ k = 42
    · rw [e42.1, e42.2, v3, tc0, h42]
      rfl
    · rw [F1.1 p' k (by omega)]
      unfold yBeg yKp
      rw [wA_1, wI_n _ _ (by omega), wI_n _ _ (by omega), wI_n _ _ (by omega), wI_n _ _ (by omega), wI_n _ _ (by omega), wI_n _ _ (by omega), wA_1, wI_n _ _ (by omega)]
  have a1 : ∀ p, ¬ (41 ≤ p ∧ p ≤ 47) → y1.2.2.1 p = y.2.2.1 p := by
    intro p' hp
    rw [F1.2.2.1 p' (by omega)]
    unfold yBeg yKp
    rw [wA_n _ _ (by omega)]
    show (rg_wA (rg_wI y 24 35 0) 47 _).2.2.1 p' = _
    rw [wA_n _ _ (by omega)]
    rfl
  have a47 : y1.2.2.1 47 = fU 2048 (y.2.2.1 43) (y.2.2.1 47) := by
    rw [F1.2.2.1 47 (by omega)]
    unfold yBeg yKp
    rw [wA_n _ _ (by omega)]
    show (rg_wA (rg_wI y 24 35 0) 47 _).2.2.1 47 = _
    rw [wA_s]
  have k43 : ∀ i, i < 2048 → fU 2048 (y1.2.2.1 47) (y1.2.2.1 43) i = y.2.2.1 43 i := by
    intro i hi
    rw [fU_lt hi, a47, fU_lt hi]
  have st : ∀ r, fX13_write_63 X (b + 24) (rg_p lM b w0 (rg_wA y1 43 (fU 2048 (y1.2.2.1 47) (y1.2.2.1 43)))) = r → fX13_write X (rg_p lM b w0 y) (b + 24) = r := by
    intro r hr
    unfold fX13_write
    refine ob_v (rg_pZ rfl rfl _ (Or.inl rfl)) (m_k7.trans ?_)
    unfold fX13_write_32
    exact ob_v (rg_O rfl) (ob_v e1 (m_k38.trans hr))
  by_cases big : 16384 < L.length
  · rw [if_pos big]
    refine ⟨rg_wA y1 43 (fU 2048 (y1.2.2.1 47) (y1.2.2.1 43)), st _ ?_, ⟨i1, F1.2.1, fun p' hp => ?_, F1.2.2.2⟩, fun i hi => by rw [wA_s]; exact k43 i hi, fun h => by omega⟩
    · unfold fX13_write_63
      refine ob_v (rg_I rfl rfl) ?_
      rw [wA_1, zl.2.1, if_pos big]
      exact ei_n n10 rfl
    · rw [wA_n _ _ (by omega)]
      exact a1 p' hp
  · rw [if_neg big]
    have h31 := zl.1
    rw [Nat.min_eq_right (by omega)] at h31
    refine ⟨rg_wA (rg_wI (rg_wA y1 43 (fU 2048 (y1.2.2.1 47) (y1.2.2.1 43))) 24 29 (nI L.length)) 41 (fU L.length (y1.2.2.1 42) (y1.2.2.1 41)), st _ ?_, ⟨fun p' k hk => ?_, F1.2.1, fun p' hp => ?_, F1.2.2.2⟩, fun i hi => ?_, fun h i hi => ?_⟩
    · unfold fX13_write_63
      refine ob_v (rg_I rfl rfl) (ei_t (by rw [wA_1, zl.2.1, if_neg big]) (ob_v (rg_I rfl rfl) ?_))
      rw [wA_1, h31]
      refine ob_v (rg_pI rfl rfl _) ?_
      have e82 := m_k82 (X := X) (b := b) (w0 := w0) (y := rg_wI (rg_wA y1 43 (fU 2048 (y1.2.2.1 47) (y1.2.2.1 43))) 24 29 (nI L.length)) (n := L.length) (by omega) (by rw [wI_n _ _ (by omega), wA_1]; exact h31) (fun i hi => by
        show vp_nar .byte ((rg_wA y1 43 _).2.2.1 42 i) = (rg_wA y1 43 _).2.2.1 42 i
        rw [wA_n _ _ (by decide), zl.2.2 i hi (by omega)]
        have hm : L.getD i 0 ∈ L := by
          rw [List.getD_eq_getElem?_getD, List.getElem?_eq_getElem hi]
          exact List.getElem_mem hi
        have := bl (L.getD i 0) (by rw [hL]; exact hm)
        rw [← this]
        exact bt_nar _)
      refine e82.trans ?_
      unfold fX13_write_108
      refine ob_v (rg_I rfl rfl) ?_
      rw [wA_1, wI_s]
      rfl
    · rw [wA_1, wI_n _ _ (by omega), wA_1]
      exact i1 p' k hk
    · rw [wA_n _ _ (by omega)]
      show (rg_wA y1 43 _).2.2.1 p' = _
      rw [wA_n _ _ (by omega)]
      exact a1 p' hp
    · rw [wA_n _ _ (by decide)]
      show (rg_wA y1 43 _).2.2.1 43 i = _
      rw [wA_s]
      exact k43 i hi
    · rw [wA_s, fU_lt hi]
      exact zl.2.2 i hi (by omega)
end
