/-! a scan written by the reference: all of it -/
theorem upd_id (f : Nat → Int32) (i : Nat) : upd f i (f i) = f := by
  funext j
  by_cases e : j = i
  · rw [e, pk_us]
  · rw [pk_un e]
def yBeg (y : rg_S) (md : Nat) : rg_S := rg_wA (rg_wI (rg_wI (rg_wI (rg_wI (rg_wI (rg_wI y 24 31 0) 24 32 0) 24 33 0) 24 34 0) 24 38 0) 24 40 0) 43 (if md = 1 then fU 2048 (fun _ => 0) (y.2.2.1 43) else y.2.2.1 43)
section
variable {X : px_X} {b B : Nat} {w0 w1 w : px_W} {y y' y0 : rg_S} {t n c j T q c0 m u iv N : Nat} {p : scP} {K : kS} {a a' : aS} {Z : Nat → Int} {g : gG} {e : eS}
theorem m_al0 (v : Int32) : ∀ (j M : Nat) (e : eS) (y : rg_S), e.2.2 + (j + 1) = 8 → 0 < e.2.2 → (∀ i, i ≤ j → vb v i = 1) → j + 1 < M → yE y e → y.1 24 35 = 0 → ∃ y', fX13_align_0 X M (b + 24) (rg_p lM b w0 y) = some (rg_p lM b w0 y') ∧ yE y' (ebs v (j + 1) e) ∧ FYb y y' := by
  intro j
  induction j with
  | zero =>
    intro M e y he h0 hv hM h ct
    obtain ⟨M, rfl⟩ : ∃ M', M = M' + 1 + 1 := ⟨M - 2, by omega⟩
    obtain ⟨y1, e1, h1, F1⟩ := m_bit (X := X) (b := b) (w0 := w0) (c := 1) h (by decide) ct
    have e7 : eb 1 e = ((eb 1 e).1, 0, 0) := by
      unfold eb
      rw [if_pos (by omega)]
    refine ⟨y1, ?_, ?_, F1⟩
    · rw [fX13_align_0.eq_2]
      refine ob_v (rg_I rfl rfl) ?_
      rw [h.2.2.1]
      refine ei_n (nI_nle h0 (by omega)) (ob_v (rg_O rfl) (ob_v e1 ?_))
      rw [fX13_align_0.eq_2]
      refine ob_v (rg_I rfl rfl) ?_
      rw [h1.2.2.1, e7]
      exact ei_t (by show nI 0 ≤ 0; decide) rfl
    · show yE y1 (eb (vb v 0) e)
      rw [hv 0 (by omega)]
      exact h1
  | succ j ih =>
    intro M e y he h0 hv hM h ct
    obtain ⟨M, rfl⟩ : ∃ M', M = M' + 1 := ⟨M - 1, by omega⟩
    obtain ⟨y1, e1, h1, F1⟩ := m_bit (X := X) (b := b) (w0 := w0) (c := 1) h (by decide) ct
    have e7 : (eb 1 e).2.2 = e.2.2 + 1 := by
      unfold eb
      rw [if_neg (by omega)]
    obtain ⟨y2, e2, h2, F2⟩ := ih M (eb 1 e) y1 (by omega) (by omega) (fun i hi => hv i (by omega)) (by omega) h1 (by rw [F1.1 24 35 (by omega)]; exact ct)
    refine ⟨y2, ?_, ?_, F1.trans F2⟩
    · rw [fX13_align_0.eq_2]
      refine ob_v (rg_I rfl rfl) ?_
      rw [h.2.2.1]
      exact ei_n (nI_nle h0 (by omega)) (ob_v (rg_O rfl) (ob_v e1 e2))
    · show yE y2 (ebs v (j + 1) (eb (vb v (j + 1)) e))
      rw [hv (j + 1) (by omega)]
      exact h2
theorem ones_b {k i : Nat} (hk : 1 ≤ k) (hk7 : k ≤ 7) (hi : i ≤ 8 - k - 1) : vb (nI (2 ^ (8 - k) - 1)) i = 1 := by
  rcases (show k = 1 ∨ k = 2 ∨ k = 3 ∨ k = 4 ∨ k = 5 ∨ k = 6 ∨ k = 7 by omega) with rfl | rfl | rfl | rfl | rfl | rfl | rfl <;> rcases (show i = 0 ∨ i = 1 ∨ i = 2 ∨ i = 3 ∨ i = 4 ∨ i = 5 ∨ i = 6 by omega) with rfl | rfl | rfl | rfl | rfl | rfl | rfl <;> first | decide | omega
theorem m_align (S : sY K y0) (h : yW K y0 a y) : ∃ y', fX13_align X (rg_p lM b w0 y) (b + 24) = some (rg_p lM b w0 y') ∧ yW K y0 (ap [eA none] a) y' := by
  have ct := S.c h
  have hE := h.2.1
  unfold fX13_align
  obtain ⟨FU', hFU⟩ : ∃ m', FU = m' + 1 := ⟨3999999, rfl⟩
  rcases S.1 with md | md
  · rw [md] at hE ct
    have em : emit K.md K.cw K.cl (ap [eA none] a).1 ([], 0, 0) = al (emit 0 K.cw K.cl a.1 ([], 0, 0)) := by
      rw [md]
      show emit 0 K.cw K.cl (a.1 ++ [eA none]) ([], 0, 0) = _
      rw [emit_0]
      rfl
    have k8 := hE.2.2.2.1
    by_cases k0 : (emit 0 K.cw K.cl a.1 ([], 0, 0)).2.2 = 0
    · refine ⟨y, ?_, yW_b h md (FYb_43 FYb.rfl) rfl ?_⟩
      · rw [hFU, fX13_align_0.eq_2]
        refine ob_v (rg_I rfl rfl) ?_
        rw [hE.2.2.1, k0]
        exact ei_t (by decide) rfl
      · rw [em]
        unfold al
        rw [if_pos k0]
        exact hE
    · generalize hk : (emit 0 K.cw K.cl a.1 ([], 0, 0)).2.2 = k at *
      obtain ⟨y', e', h', F'⟩ := m_al0 (X := X) (b := b) (w0 := w0) (nI (2 ^ (8 - k) - 1)) (8 - k - 1) FU _ y (by rw [hk]; omega) (by rw [hk]; omega) (fun i hi => ones_b (by omega) (by omega) hi) (by unfold FU; omega) hE ct
      refine ⟨y', e', yW_b h md (FYb_43 F') rfl ?_⟩
      rw [em]
      unfold al
      rw [hk, if_neg k0, show 8 - k = 8 - k - 1 + 1 by omega]
      rw [show 8 - k - 1 + 1 = 8 - k by omega] at h' ⊢
      exact h'
  · refine ⟨y, ?_, ?_⟩
    · rw [md, emit_1] at hE
      rw [hFU, fX13_align_0.eq_2]
      refine ob_v (rg_I rfl rfl) ?_
      rw [hE.2.2.1]
      exact ei_t (by show nI 0 ≤ 0; decide) rfl
    · refine ⟨h.1, ?_, fun _ t s ht hs => ?_, h.2.2.2⟩
      · rw [md, emit_1] at hE ⊢
        exact hE
      · show _ = nI (cnt (a.1 ++ [.inr (.inr none)]) t s)
        rw [cnt_n]
        exact h.2.2.1 md t s ht hs
theorem m_mark (S : sY K y0) (h : yW K y0 a y) (md : K.md = 0) {code : Nat} : ∃ y1 y', fX13_raw X (rg_p lM b w0 y) (b + 24) 255 = some (rg_p lM b w0 y1) ∧ fX13_raw X (rg_p lM b w0 y1) (b + 24) (nI code) = some (rg_p lM b w0 y') ∧ yW K y0 (ap [eA (some code)] a) y' := by
  have hE := h.2.1
  rw [md] at hE
  obtain ⟨y1, e1, z1, f1, f2, f3, f4⟩ := m_raw (X := X) (b := b) (w0 := w0) hE.1 255
  obtain ⟨y2, e2, z2, g1, g2, g3, g4⟩ := m_raw (X := X) (b := b) (w0 := w0) z1 (nI code)
  have F : FYb y y2 := ⟨fun p k hk => (g1 p k (by omega)).trans (f1 p k (by omega)), g2.trans f2, fun p hp => (g3 p hp).trans (f3 p hp), g4.trans f4⟩
  refine ⟨y1, y2, e1, e2, yW_b h md (FYb_43 F) rfl ?_⟩
  rw [md]
  show yE y2 (emit 0 K.cw K.cl (a.1 ++ [eA (some code)]) ([], 0, 0))
  rw [emit_0]
  refine ⟨z2, ?_, ?_, hE.2.2.2⟩
  · rw [g1 24 32 (by omega), f1 24 32 (by omega)]
    exact hE.2.1
  · rw [g1 24 33 (by omega), f1 24 33 (by omega)]
    exact hE.2.2.1
/-- predictions begin anew -/
theorem m_pred0 {k82 : Nat → Int32 → Int32 → Int32 → px_W → Option (px_W)} {a1 a2 a3 a4 : Int32} (h : a3 = 0 ∨ a4 ≠ 0) : fX13_writeAll_160 X k82 (b + 24) a1 a2 a3 a4 (rg_p lM b w0 y) = fX13_writeAll_202 X k82 (b + 24) a1 a2 a3 (rg_p lM b w0 (rg_wA y 44 (fU 4 (fun _ => 0) (y.2.2.1 44)))) := by
  unfold fX13_writeAll_160
  have e := rg_lpF (F := fun M (s : Int32 × rg_S) => fX13_writeAll_163 X k82 M (b + 24) a1 a2 a3 a4 s.1 (rg_p lM b w0 s.2)) 4 (fun i => (nI i, rg_wA y 44 (fU i (fun _ => 0) (y.2.2.1 44)))) (r := fX13_writeAll_202 X k82 (b + 24) a1 a2 a3 (rg_p lM b w0 (rg_wA y 44 (fU 4 (fun _ => 0) (y.2.2.1 44))))) (by omega) ?_ ?_
  · dsimp only at e
    rw [fU_0, wA_id rfl] at e
    exact e
  · intro M i hi
    dsimp only
    rw [fX13_writeAll_163.eq_2]
    refine ei_n (nI_ge (b := 4) (by omega) (by omega)) (ob_v (rg_C rfl rfl) ?_)
    have st : fX13_writeAll_184 X k82 (fX13_writeAll_163 X k82 M) (b + 24) a1 a2 a3 a4 (nI i) (nI i) (b + 44) (rg_p lM b w0 (rg_wA y 44 (fU i (fun _ => 0) (y.2.2.1 44)))) = fX13_writeAll_163 X k82 M (b + 24) a1 a2 a3 a4 (nI (i + 1)) (rg_p lM b w0 (rg_wA y 44 (fU (i + 1) (fun _ => 0) (y.2.2.1 44)))) := by
      unfold fX13_writeAll_184 fX13_writeAll_195
      refine ob_v (rg_sA _ rfl (by decide) _ _ hi (by decide)) ?_
      rw [wA_s, wA_wA, id, nI_1, ← fU_s i (fun _ => 0) (y.2.2.1 44)]
    by_cases h0 : a3 = 0
    · exact ei_t h0 st
    · exact ei_n h0 (ei_n (h.resolve_left h0) st)
  · intro M
    dsimp only
    rw [fX13_writeAll_163.eq_2]
    exact ei_t (by decide) rfl
theorem m_pred1 {k82 : Nat → Int32 → Int32 → Int32 → px_W → Option (px_W)} {a1 a2 a3 : Int32} (h : a3 ≠ 0) : fX13_writeAll_160 X k82 (b + 24) a1 a2 a3 0 (rg_p lM b w0 y) = fX13_writeAll_202 X k82 (b + 24) a1 a2 a3 (rg_p lM b w0 y) := by
  unfold fX13_writeAll_160
  refine rg_lpF (F := fun M (s : Int32) => fX13_writeAll_163 X k82 M (b + 24) a1 a2 a3 0 s (rg_p lM b w0 y)) 4 (fun i => nI i) (r := fX13_writeAll_202 X k82 (b + 24) a1 a2 a3 (rg_p lM b w0 y)) (by omega) ?_ ?_
  · intro M i hi
    rw [fX13_writeAll_163.eq_2]
    refine ei_n (nI_ge (b := 4) (by omega) (by omega)) (ob_v (rg_C rfl rfl) (ei_n h (ei_t rfl (ob_v (rg_C rfl rfl) (ob_v (rg_A rfl (by decide) _ hi (by decide)) ?_)))))
    unfold fX13_writeAll_195
    refine ob_v (rg_sA _ rfl (by decide) _ _ hi (by decide)) ?_
    rw [id, upd_id, wA_id rfl, nI_1]
  · intro M
    rw [fX13_writeAll_163.eq_2]
    exact ei_t (by decide) rfl
theorem yW_z (h : yW K y0 a y) : yW K y0 (aZr a) (rg_wA y 44 (fU 4 (fun _ => 0) (y.2.2.1 44))) := by
  obtain ⟨v1, v2, v3, v4, v5, v6⟩ := h.2.2.2
  refine yW_f h (fun _ _ _ => rfl) rfl (fun p' p3' _ _ => by rw [wA_n _ _ p3']) rfl rfl ⟨v1, v2, v3, ?_, ?_, fun j hj => ?_⟩
  · rw [wA_n _ _ (by decide)]; exact v4
  · rw [wA_n _ _ (by decide)]; exact v5
  · rw [wA_s, fU_lt hj]
    rfl
theorem m_u82 (S : sY K y0) (pp : pY y0 p.1 p.2.1 p.2.2.1 p.2.2.2 (64 * gBs g g.2.2.1) g.2.2.1 (gBs g) Z) (q : uY y0 g c0 m iv) (hg : gOk g) (hs : scOk g c0 m) (hff : p.1 = 0 → 0 < p.2.1 → p.2.2.1 = 0) (hZ : ∀ i, i < 64 * gBs g g.2.2.1 → -1024 ≤ Z i ∧ Z i ≤ 1023) (hiv : iv < 65536) (hE : inE K (aUs g c0 m p Z iv (scU g c0 m))) : ∀ (k M u : Nat) (y : rg_S), u + k = scU g c0 m → k < M → 1 ≤ u → yW K y0 (aUs g c0 m p Z iv u) y → ∃ y', fX13_writeAll_82 X M (b + 24) (nI (4 + c0)) (nI ((u - 1) / iv)) (nI u) (rg_p lM b w0 y) = fX13_writeAll_261 X (b + 24) (nI (4 + c0)) (rg_p lM b w0 y') ∧ yW K y0 (aUs g c0 m p Z iv (scU g c0 m)) y' := by
  have hun := scU_lt hg hs
  have hcm := hs.cm hg
  have h4 := hg.2.2.2.2.2.1
  intro k
  induction k with
  | zero =>
    intro M u y hu hM _ h
    obtain rfl : u = scU g c0 m := by omega
    obtain ⟨M, rfl⟩ : ∃ M', M = M' + 1 := ⟨M - 1, by omega⟩
    refine ⟨y, ?_, h⟩
    rw [fX13_writeAll_82.eq_2]
    exact ob_v (rg_O rfl) (ob_v (m_units hg hs (q.st h)) (ei_t (nI_le (Nat.le_refl _) (by omega)) rfl))
  | succ k ih =>
    intro M u y hu hM u1 h
    obtain ⟨M, rfl⟩ : ∃ M', M = M' + 1 := ⟨M - 1, by omega⟩
    have hI := aIv_us (iv := iv) hg hs hZ hff u (by omega)
    have g1 := gr_us (g := g) (c0 := c0) (m := m) (p := p) (Z := Z) (iv := iv) (u + 1) k
    rw [show u + 1 + k = scU g c0 m by omega] at g1
    have hE1 := hE.g g1
    have un0 : ¬ nI u = 0 := nI_ne0 (by omega) (by omega)
    obtain ⟨x1, e1, h1⟩ : ∃ x1, fX13_writeAll_82 X (M + 1) (b + 24) (nI (4 + c0)) (nI ((u - 1) / iv)) (nI u) (rg_p lM b w0 y) = fX13_writeAll_202 X (fX13_writeAll_82 X M) (b + 24) (nI (4 + c0)) (nI (u / iv)) (nI u) (rg_p lM b w0 x1) ∧ yW K y0 (aRs iv (4 + c0) u (aUs g c0 m p Z iv u)) x1 := by
      have hE2 : inE K (aRs iv (4 + c0) u (aUs g c0 m p Z iv u)) := hE1.g (gr_aUn0 _)
      have e27 := (q.st h).2.2.2.2.1
      have start : ∀ r, (if nI iv ≤ 0 then fX13_writeAll_114 X (fX13_writeAll_82 X M) (b + 24) (nI (4 + c0)) (nI ((u - 1) / iv)) (nI u) (rg_p lM b w0 y) else (rI (nI u) (nI iv)).bind fun v85 => if v85 = 0 then fX13_writeAll_115 X (fX13_writeAll_82 X M) (b + 24) (nI (4 + c0)) (nI ((u - 1) / iv)) (nI u) 1 (rg_p lM b w0 y) else fX13_writeAll_114 X (fX13_writeAll_82 X M) (b + 24) (nI (4 + c0)) (nI ((u - 1) / iv)) (nI u) (rg_p lM b w0 y)) = r → fX13_writeAll_82 X (M + 1) (b + 24) (nI (4 + c0)) (nI ((u - 1) / iv)) (nI u) (rg_p lM b w0 y) = r := by
        intro r hr
        rw [fX13_writeAll_82.eq_2]
        refine ob_v (rg_O rfl) (ob_v (m_units hg hs (q.st h)) (ei_n (nI_ge (by omega) (by omega)) (ob_v (rg_I rfl rfl) ?_)))
        rw [e27]
        by_cases i0 : nI iv ≤ 0
        · rw [if_pos i0] at hr
          exact ei_t i0 hr
        · rw [if_neg i0] at hr
          refine ei_n i0 (ei_n (nI_nle (by omega) (by omega)) (ob_v (rg_I rfl rfl) ?_))
          rw [e27]
          exact hr
      have e114 : fX13_writeAll_114 X (fX13_writeAll_82 X M) (b + 24) (nI (4 + c0)) (nI ((u - 1) / iv)) (nI u) (rg_p lM b w0 y) = fX13_writeAll_202 X (fX13_writeAll_82 X M) (b + 24) (nI (4 + c0)) (nI ((u - 1) / iv)) (nI u) (rg_p lM b w0 y) := by
        unfold fX13_writeAll_114 fX13_writeAll_115
        exact ei_t rfl (m_pred1 un0)
      unfold aRs at hE2 ⊢
      by_cases i0 : 0 < iv
      · have dm := Nat.div_add_mod u iv
        have dm1 := Nat.div_add_mod (u - 1) iv
        have ml := Nat.mod_lt u i0
        have ml1 := Nat.mod_lt (u - 1) i0
        by_cases r0 : u % iv = 0
        · rw [if_pos ⟨i0, u1, r0⟩] at hE2 ⊢
          have d1 : 1 ≤ u / iv := by
            rw [r0] at dm
            rcases Nat.eq_zero_or_pos (u / iv) with z | z
            · rw [z] at dm
              omega
            · exact z
          have d2 : (u - 1) / iv = u / iv - 1 := by
            have e : u - 1 = iv - 1 + iv * (u / iv - 1) := by
              have : iv * (u / iv - 1) + iv = iv * (u / iv) := by
                rw [← Nat.mul_succ]
                congr 1
                omega
              omega
            rw [e, Nat.add_mul_div_left _ _ i0, Nat.div_eq_of_lt (by omega), Nat.zero_add]
          have d3 : u / iv ≤ u := Nat.div_le_self _ _
          have hE3 : inE K (aSend (4 + c0) (aUs g c0 m p Z iv u)) := hE2.g ((gr_ap _ _).trans (gr_ap _ _))
          obtain ⟨x2, e2, h2⟩ := m_send (X := X) (b := b) (w0 := w0) (t := 4 + c0) S h (by decide) (by decide) hI.1 (by omega) hE3
          have ct := S.c h2
          have fin : ∀ y2, yW K y0 (ap [eA (some (208 + (u / iv - 1) % 8))] (ap [eA none] (aSend (4 + c0) (aUs g c0 m p Z iv u)))) y2 → ∃ x1, fX13_writeAll_157 X (fX13_writeAll_82 X M) (b + 24) (nI (4 + c0)) (nI ((u - 1) / iv)) (nI u) 1 (rg_p lM b w0 y2) = fX13_writeAll_202 X (fX13_writeAll_82 X M) (b + 24) (nI (4 + c0)) (nI (u / iv)) (nI u) (rg_p lM b w0 x1) ∧ yW K y0 (aMk iv (4 + c0) u (aUs g c0 m p Z iv u)) x1 := by
            intro y2 hy2
            refine ⟨_, ?_, yW_z hy2⟩
            unfold fX13_writeAll_157
            rw [d2, nI_1, show u / iv - 1 + 1 = u / iv by omega]
            exact m_pred0 (Or.inr n10)
          rcases S.1 with md | md
          · obtain ⟨x3, e3, h3⟩ := m_align (X := X) (b := b) (w0 := w0) S h2
            obtain ⟨x4, x5, e4, e5, h5⟩ := m_mark (X := X) (b := b) (w0 := w0) (code := 208 + (u / iv - 1) % 8) S h3 md
            obtain ⟨x6, e6, h6⟩ := fin x5 h5
            refine ⟨x6, start _ (ei_n (nI_nle i0 (by omega)) (ob_v (rI_n (by omega) i0 (by omega)) (ei_t (by rw [r0]; rfl) ?_))), h6⟩
            unfold fX13_writeAll_115
            refine ei_n n10 (ob_v (rg_O rfl) (ob_v e2 (ob_v (rg_I rfl rfl) (ei_t (by rw [ct, md]; rfl) (ob_v (rg_O rfl) (ob_v e3 (ob_v (rg_O rfl) (ob_v e4 (ob_v (rI_n (d := 8) (by omega) (by decide) (by decide)) (ob_v (rg_O rfl) ?_))))))))))
            rw [d2, show (208 : Int32) + nI ((u / iv - 1) % 8) = nI (208 + (u / iv - 1) % 8) from nI_add 208 _]
            refine ob_v e5 ?_
            rw [d2] at e6
            exact e6
          · have h3 : yW K y0 (ap [eA (some (208 + (u / iv - 1) % 8))] (ap [eA none] (aSend (4 + c0) (aUs g c0 m p Z iv u)))) x2 := by
              refine ⟨h2.1, ?_, fun _ t s ht hs => ?_, h2.2.2.2⟩
              · have := h2.2.1
                rw [md, emit_1] at this ⊢
                exact this
              · show _ = nI (cnt ((aSend (4 + c0) (aUs g c0 m p Z iv u)).1 ++ [.inr (.inr none)] ++ [.inr (.inr (some _))]) t s)
                rw [cnt_n, cnt_n]
                exact h2.2.2.1 md t s ht hs
            obtain ⟨x6, e6, h6⟩ := fin x2 h3
            refine ⟨x6, start _ (ei_n (nI_nle i0 (by omega)) (ob_v (rI_n (by omega) i0 (by omega)) (ei_t (by rw [r0]; rfl) ?_))), h6⟩
            unfold fX13_writeAll_115
            refine ei_n n10 (ob_v (rg_O rfl) (ob_v e2 (ob_v (rg_I rfl rfl) ?_)))
            rw [ct, md]
            exact ei_n n10 e6
        · rw [if_neg (fun e => r0 e.2.2)]
          have d2 : (u - 1) / iv = u / iv := by
            have e : u - 1 = (u % iv - 1) + iv * (u / iv) := by omega
            rw [e, Nat.add_mul_div_left _ _ i0, Nat.div_eq_of_lt (by omega), Nat.zero_add]
          refine ⟨y, start _ (ei_n (nI_nle i0 (by omega)) (ob_v (rI_n (by omega) i0 (by omega)) (ei_n (nI_ne0 (by omega) (by omega)) ?_))), h⟩
          rw [← d2]
          exact e114
      · rw [if_neg (fun e => i0 e.1)]
        refine ⟨y, start _ (ei_t (by rw [show iv = 0 by omega]; decide) ?_), h⟩
        rw [e114, show iv = 0 by omega, Nat.div_zero, Nat.div_zero]
    obtain ⟨x2, e2, h2⟩ := m_comps (X := X) (b := b) (w0 := w0) (k82 := fX13_writeAll_82 X M) (a1 := nI (4 + c0)) (a2 := nI (u / iv)) (u := u) S pp q hg hs hff hZ (by omega) (aIv_rs (t := 4 + c0) (iv := iv) (u := u) hI) hE1 g.2.2.1 FU 0 x1 (by omega) (by unfold FU; omega) h1
    obtain ⟨x3, e3, h3⟩ := ih M (u + 1) x2 (by omega) (by omega) (by omega) h2
    refine ⟨x3, e1.trans ?_, h3⟩
    unfold fX13_writeAll_202
    refine (show fX13_writeAll_205 X (fX13_writeAll_82 X M) FU (b + 24) (nI (4 + c0)) (nI (u / iv)) (nI u) (nI 0) _ = _ from e2).trans ?_
    rw [show u + 1 - 1 = u by omega] at e3
    exact e3
end
