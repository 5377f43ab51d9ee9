/-! the first coefficient of a block, read by the reference -/
section
variable {X : px_X} {b B : Nat} {w0 w1 : px_W} {x x' y y' : rg_S} {D : Nat → Nat} {n t m c first last bf bb T q : Nat} {bs : Nat → Nat} {s s' : bSt} {W : zT} {a : zS}
theorem m_d148_0 {f : Nat} {Z V : Int32} (hc : c < 4) (hf : y.1 24 46 = nI f) (h0 : 0 < f) (h9 : f < 100) : fX13_readDirect_148 X (b + 24) (nI c) Z V 0 (nI q) (nI c) (b + 24) (rg_p lM b w0 y) = some (rg_p lM b w0 (rg_wA y 44 (upd (y.2.2.1 44) c Z))) := by
  unfold fX13_readDirect_148
  exact ob_v (rg_O rfl) (ob_v (m_become0 hf h0 h9) (ob_v (rg_C rfl rfl) (ob_v (rg_sA id rfl (by decide) _ _ hc (by decide)) rfl)))
/-- what comes after the number -/
theorem m_dtl0 {f : Nat} {Z : Int32} (hc : c < 4) (hf : y.1 24 46 = nI f) (h0 : 0 < f) (h9 : f < 100) : (if Z < (-1024) then fX13_readDirect_133 X (b + 24) (nI c) Z 0 (nI q) (nI c) (b + 24) (rg_p lM b w0 y) else if Z ≤ 1023 then (gI (rg_p lM b w0 y) (b + 24) 13 26).bind fun v39 => fX13_readDirect_148 X (b + 24) (nI c) Z (Z * ((1 : Int32) <<< (v39 &&& 31))) 0 (nI q) (nI c) (b + 24) (rg_p lM b w0 y) else fX13_readDirect_133 X (b + 24) (nI c) Z 0 (nI q) (nI c) (b + 24) (rg_p lM b w0 y)) = some (rg_p lM b w0 (rg_wA y 44 (upd (y.2.2.1 44) c Z))) := by
  refine ei_c (fun _ => ?_) (fun _ => ei_c (fun _ => ob_v (rg_I rfl rfl) (m_d148_0 hc hf h0 h9)) (fun _ => ?_))
  · unfold fX13_readDirect_133
    exact m_d148_0 hc hf h0 h9
  · unfold fX13_readDirect_133
    exact m_d148_0 hc hf h0 h9
theorem m_d97_0 {f u : Nat} (hc : c < 4) (hu : u ≤ 16) (hf : y.1 24 46 = nI f) (h0 : 0 < f) (h9 : f < 100) : ∃ v, fX13_readDirect_97 X (b + 24) (nI c) (nI q) (nI u) (b + 24) (rg_p lM b w0 y) = some (rg_p lM b w0 (rg_wA y 44 (upd (y.2.2.1 44) c v))) := by
  obtain ⟨v, e⟩ := m_numO0 (X := X) (b := b) (w0 := w0) hf h0 h9 hu
  refine ⟨y.2.2.1 44 c + v, ?_⟩
  unfold fX13_readDirect_97
  exact ob_v (rg_O rfl) (ob_v e (ob_v (rg_C rfl rfl) (ob_v (rg_A rfl (by decide) _ hc (by decide)) (m_dtl0 hc hf h0 h9))))
theorem m_dir97 (k : zKy y first last bf bb bs) (h : zY D n y a) (ok : zOk a) (hc : c < 4) (hq : bs c + q = T) (hT : 64 * T + 64 ≤ 12288) {u : Nat} (hu : u ≤ 11) :
    ∃ y', fX13_readDirect_97 X (b + 24) (nI c) (nI q) (nI u) (b + 24) (rg_p lM b w0 y) = some (rg_p lM b w0 y') ∧ zFY y y' ∧ zYo D n (zOb (tN D n u 0 a.1) fun v s2 => if -1024 ≤ (a.2.2.1 c + nmb u v) * 2 ^ bb ∧ (a.2.2.1 c + nmb u v) * 2 ^ bb ≤ 1023 then .inr (s2, a.2.1, (fun j => if j = c then a.2.2.1 c + nmb u v else a.2.2.1 j), upd a.2.2.2 (64 * T) (iI ((a.2.2.1 c + nmb u v) * 2 ^ bb))) else .inl 4) y' := by
  obtain ⟨v0, y1, e1, F1, hh⟩ := m_numO (X := X) (b := b) (w0 := w0) (k := u) (by omega) h.1
  have hb : bb ≤ 9 := k.2.2.2.2.2.2.2.1
  have k1 := k.f F1.q
  have e44 : y1.2.2.1 44 c = iI (a.2.2.1 c) := by
    rw [F1.2]
    exact h.2.2.1 c hc
  have st : ∀ r, (if iI (a.2.2.1 c) + v0 < (-1024) then fX13_readDirect_133 X (b + 24) (nI c) (iI (a.2.2.1 c) + v0) 0 (nI q) (nI c) (b + 24) (rg_p lM b w0 y1) else if iI (a.2.2.1 c) + v0 ≤ 1023 then (gI (rg_p lM b w0 y1) (b + 24) 13 26).bind fun v39 => fX13_readDirect_148 X (b + 24) (nI c) (iI (a.2.2.1 c) + v0) ((iI (a.2.2.1 c) + v0) * ((1 : Int32) <<< (v39 &&& 31))) 0 (nI q) (nI c) (b + 24) (rg_p lM b w0 y1) else fX13_readDirect_133 X (b + 24) (nI c) (iI (a.2.2.1 c) + v0) 0 (nI q) (nI c) (b + 24) (rg_p lM b w0 y1)) = r → fX13_readDirect_97 X (b + 24) (nI c) (nI q) (nI u) (b + 24) (rg_p lM b w0 y) = r := by
    intro r hr
    unfold fX13_readDirect_97
    refine ob_v (rg_O rfl) (ob_v e1 (ob_v (rg_C rfl rfl) (ob_v (rg_A rfl (by decide) _ hc (by decide)) ?_)))
    rw [e44]
    exact hr
  rcases hh with ⟨t1, t2⟩ | ⟨v, s1, t1, t2, t3, t4⟩
  · refine ⟨_, st _ (m_dtl0 (f := 1) hc (by rw [t2]; rfl) (by decide) (by decide)), F1.q.trans (zFY.w44 _), Or.inl ⟨1, by rw [t1]; rfl, by decide, by decide, by show y1.1 24 46 = _; rw [t2]; rfl⟩⟩
  · have hz : (a.2.2.1 c + nmb u v).natAbs ≤ 3072 := by
      have h1 := ok.2.1 c
      have h2 := nmb_b t2
      have h3 : 2 ^ u ≤ 2 ^ 11 := Nat.pow_le_pow_right (by decide) hu
      omega
    rw [t1]
    show ∃ y', _ ∧ _ ∧ zYo D n (if -1024 ≤ (a.2.2.1 c + nmb u v) * 2 ^ bb ∧ (a.2.2.1 c + nmb u v) * 2 ^ bb ≤ 1023 then .inr (s1, a.2.1, (fun j => if j = c then a.2.2.1 c + nmb u v else a.2.2.1 j), upd a.2.2.2 (64 * T) (iI ((a.2.2.1 c + nmb u v) * 2 ^ bb))) else .inl 4) y'
    rw [t3, iI_add] at st
    generalize a.2.2.1 c + nmb u v = z at st hz ⊢
    have h1 := h.s F1 t4
    have f1 : y1.1 24 46 = 0 := t4.2.2.2.1
    have far : (z < -1024 ∨ 1023 < z) → ∃ y', fX13_readDirect_133 X (b + 24) (nI c) (iI z) 0 (nI q) (nI c) (b + 24) (rg_p lM b w0 y1) = some (rg_p lM b w0 y') ∧ zFY y y' ∧ zYo D n (if -1024 ≤ z * 2 ^ bb ∧ z * 2 ^ bb ≤ 1023 then .inr (s1, a.2.1, (fun j => if j = c then z else a.2.2.1 j), upd a.2.2.2 (64 * T) (iI (z * 2 ^ bb))) else .inl 4) y' := by
      intro o
      rw [if_neg (dr_no hb o)]
      rcases m_becomeS (X := X) (b := b) (w0 := w0) (k := 0) (z := 9999) hc (k1.2.2.2.2.2.2.2.2 c hc) hq hT (by decide) (by decide) f1 with ⟨e, g⟩ | ⟨e, g⟩
      · exfalso
        exact absurd g.2 (by decide)
      · refine ⟨rg_wA (rg_wI y1 24 46 4) 44 (upd ((rg_wI y1 24 46 4).2.2.1 44) c (iI z)), ?_, F1.q.trans ((zFY.wI (k := 46) (v := 4) (by omega)).trans (zFY.w44 _)), Or.inl ⟨4, rfl, by decide, by decide, wI_s y1 24 46 4⟩⟩
        unfold fX13_readDirect_133 fX13_readDirect_148
        exact ob_v (rg_O rfl) (ob_v e (ob_v (rg_C rfl rfl) (ob_v (rg_sA id rfl (by decide) _ (iI z) hc (by decide)) rfl)))
    have zi1 : iI z < -1024 ↔ z < -1024 := iI_lt (b := -1024) (by omega) (by omega) (by omega) (by omega)
    have zi2 : iI z ≤ 1023 ↔ z ≤ 1023 := iI_le (b := 1023) (by omega) (by omega) (by omega) (by omega)
    by_cases o1 : z < -1024
    · obtain ⟨y2, e2, F2, o2⟩ := far (Or.inl o1)
      exact ⟨y2, st _ (ei_t (zi1.mpr o1) e2), F2, o2⟩
    · by_cases o2 : z ≤ 1023
      · have zb := dr_b hb hz
        have st2 : ∀ r, (fX13_become X (rg_p lM b w0 y1) (b + 24) (nI c) (nI q) (nI 0) (iI (z * 2 ^ bb))).bind (fun q30 => (gR q30 (b + 24) 13 37).bind fun v31 => (sN id q30 0 v31 (nI c) (iI z)).bind fun w32 => some w32) = r → fX13_readDirect_97 X (b + 24) (nI c) (nI q) (nI u) (b + 24) (rg_p lM b w0 y) = r := by
          intro r hr
          refine st _ (ei_n (fun e => o1 (zi1.mp e)) (ei_t (zi2.mpr o2) (ob_v (rg_I rfl rfl) ?_)))
          rw [k1.2.2.2.1, pw_16 (by omega), iI_pw]
          unfold fX13_readDirect_148
          exact ob_v (rg_O rfl) hr
        rcases m_becomeS (X := X) (b := b) (w0 := w0) (k := 0) (z := z * 2 ^ bb) hc (k1.2.2.2.2.2.2.2.2 c hc) hq hT (by decide) (by omega) f1 with ⟨e, g⟩ | ⟨e, g⟩
        · have g' : -1024 ≤ z * 2 ^ bb ∧ z * 2 ^ bb ≤ 1023 := g
          rw [if_pos g']
          refine ⟨_, st2 _ (ob_v e (ob_v (rg_C rfl rfl) (ob_v (rg_sA id rfl (by decide) _ (iI z) hc (by decide)) rfl))), F1.q.trans ((zFY.w32 _).trans (zFY.w44 _)), Or.inr ⟨_, rfl, ?_, (h1.q (i := 64 * T) (v := iI (z * 2 ^ bb))).p (c := c) (z := z)⟩⟩
          refine ((ok.s s1).q (i := 64 * T) (v := iI (z * 2 ^ bb)) ?_).p (c := c) (z := z) (by omega)
          rw [show 64 * T % 64 = 0 by omega]
          unfold cfOk
          rw [if_pos rfl, iI_t (by omega) (by omega)]
          exact g'
        · have g' : ¬ (-1024 ≤ z * 2 ^ bb ∧ z * 2 ^ bb ≤ 1023) := g
          rw [if_neg g']
          exact ⟨_, st2 _ (ob_v e (ob_v (rg_C rfl rfl) (ob_v (rg_sA id rfl (by decide) _ (iI z) hc (by decide)) rfl))), F1.q.trans ((zFY.wI (k := 46) (v := 4) (by omega)).trans (zFY.w44 _)), Or.inl ⟨4, rfl, by decide, by decide, wI_s y1 24 46 4⟩⟩
      · obtain ⟨y2, e2, F2, o3⟩ := far (Or.inr (by omega))
        exact ⟨y2, st _ (ei_n (fun e => o1 (zi1.mp e)) (ei_n (fun e => o2 (zi2.mp e)) e2)), F2, o3⟩
theorem m_zDir (k : zKy y first last bf bb bs) (h : zY D n y a) (ok : zOk a) (hc : c < 4) (hq : bs c + q = T) (hT : 64 * T + 64 ≤ 12288) (hW : bf = 0 → t < 8 ∧ y.2.2.1 39 c = nI t ∧ tbOk W.1 W.2.1 W.2.2 ∧ rT y t W.1 W.2.1 W.2.2) :
    ∃ y', fX13_readDirect X (rg_p lM b w0 y) (b + 24) (nI c) (nI q) = some (rg_p lM b w0 y') ∧ zFY y y' ∧ zYo D n (zDir D n W bf bb c (64 * T) a) y' := by
  have hb : bb ≤ 9 := k.2.2.2.2.2.2.2.1
  have hbf : bf ≤ 10 := k.2.2.2.2.2.2.1
  have e31 : y.2.2.1 31 c = nI (bs c) := k.2.2.2.2.2.2.2.2 c hc
  unfold zDir
  by_cases q0 : 0 < bf
  · rw [if_pos q0]
    obtain ⟨v, y1, e1, F1, hh⟩ := m_tB (X := X) (b := b) (w0 := w0) h.1
    have k1 := k.f F1.q
    have cf0 : cfOk 0 (y1.2.2.1 32 (64 * T)) := by
      rw [F1.2, h.2.2.2 _ (by omega)]
      have := ok.2.2 (64 * T) (by omega)
      rw [show 64 * T % 64 = 0 by omega] at this
      exact this
    have st : ∀ r, (if v = 1 then (gR (rg_p lM b w0 y1) (b + 24) 13 12).bind fun v60 => (aN (rg_p lM b w0 y1) 2 v60 (nI (64 * T))).bind fun v61 => (gI (rg_p lM b w0 y1) (b + 24) 13 26).bind fun v62 => (sN (vp_nar .short) (rg_p lM b w0 y1) 2 (b + 32) (nI (64 * T)) ((v61 ||| ((1 : Int32) <<< (v62 &&& 31))).toInt16.toInt32)).bind fun w63 => some w63 else (gR (rg_p lM b w0 y1) (b + 24) 13 12).bind fun v57 => (aN (rg_p lM b w0 y1) 2 v57 (nI (64 * T))).bind fun v58 => (sN (vp_nar .short) (rg_p lM b w0 y1) 2 (b + 32) (nI (64 * T)) v58.toInt16.toInt32).bind fun w59 => some w59) = r → fX13_readDirect X (rg_p lM b w0 y) (b + 24) (nI c) (nI q) = r := by
      intro r hr
      unfold fX13_readDirect
      refine ob_v (rg_C rfl rfl) (ob_v (rg_A rfl (by decide) _ hc (by decide)) (ob_v (rg_I rfl rfl) ?_))
      rw [k.2.2.1, e31, n64' hq]
      exact ei_n (nI_nle q0 (by omega)) (ob_v (rg_C rfl rfl) (ob_v (rg_O rfl) (ob_v e1 hr)))
    have back : ∀ r, some (rg_p lM b w0 (rg_wA y1 32 (upd (y1.2.2.1 32) (64 * T) (y1.2.2.1 32 (64 * T))))) = r → ((gR (rg_p lM b w0 y1) (b + 24) 13 12).bind fun v57 => (aN (rg_p lM b w0 y1) 2 v57 (nI (64 * T))).bind fun v58 => (sN (vp_nar .short) (rg_p lM b w0 y1) 2 (b + 32) (nI (64 * T)) v58.toInt16.toInt32).bind fun w59 => some w59) = r := by
      intro r hr
      refine ob_v (rg_C rfl rfl) (ob_v (rg_A rfl (by decide) _ (by omega) (by decide)) (ob_v (rg_sA _ rfl (by decide) _ _ (by omega) (by decide)) ?_))
      rw [sh_ok cf0, nar_ok cf0]
      exact hr
    rw [upd_id] at back
    rcases hh with ⟨t1, t2, t3⟩ | ⟨u, s1, t1, t2, t3⟩
    · exact ⟨_, st _ (ei_n (by rw [t3]; decide) (back _ rfl)), F1.q.trans (zFY.w32 _), Or.inl ⟨1, by rw [t1]; rfl, by decide, by decide, by show y1.1 24 46 = _; rw [t2]; rfl⟩⟩
    · rw [t1]
      have h1 := h.s F1 t3
      by_cases u1 : u = 1
      · have c2 := cf_or (b := bb) hb cf0
        refine ⟨_, st _ (ei_t (by rw [t2, u1]; rfl) (ob_v (rg_C rfl rfl) (ob_v (rg_A rfl (by decide) _ (by omega) (by decide)) (ob_v (rg_I rfl rfl) (ob_v (rg_sA _ rfl (by decide) _ _ (by omega) (by decide)) rfl))))), F1.q.trans (zFY.w32 _), Or.inr ⟨_, rfl, ?_, ?_⟩⟩
        · show zOk (s1, a.2.1, a.2.2.1, if u = 1 then _ else _)
          rw [if_pos u1]
          refine (ok.s s1).q ?_
          rw [show 64 * T % 64 = 0 by omega]
          exact cf_or hb (ok.2.2 (64 * T) (by omega))
        · show zY D n _ (s1, a.2.1, a.2.2.1, if u = 1 then _ else _)
          rw [if_pos u1, k1.2.2.2.1, pw_16 (by omega)]
          show zY D n (rg_wA y1 32 (upd (y1.2.2.1 32) (64 * T) (vp_nar .short (orB bb (y1.2.2.1 32 (64 * T))).toInt16.toInt32))) _
          rw [sh_ok c2, nar_ok c2, h1.2.2.2 _ (by omega)]
          exact h1.q
      · refine ⟨_, st _ (ei_n (fun e => ?_) (back _ rfl)), F1.q.trans (zFY.w32 _), Or.inr ⟨_, rfl, ?_, ?_⟩⟩
        · rw [t2] at e
          have := (tB_ok h.1.2.2.2.2.2.2.1 h.1.2.2.2.2.2.2.2 t1).2
          exact u1 ((nI_eq (b := 1) (by omega) (by omega)).mp e)
        · show zOk (s1, a.2.1, a.2.2.1, if u = 1 then _ else _)
          rw [if_neg u1]
          exact ok.s s1
        · show zY D n _ (s1, a.2.1, a.2.2.1, if u = 1 then _ else _)
          rw [if_neg u1, wA_id rfl]
          exact h1
  · rw [if_neg q0]
    obtain ⟨ht, h39, hT1, hT2⟩ := hW (by omega)
    obtain ⟨v, y1, e1, F1, hh⟩ := m_sb (X := X) (b := b) (w0 := w0) ht hT1 h.1 hT2
    have k1 := k.f F1.q
    have st : ∀ r, (if v ≤ 11 then fX13_readDirect_83 X (b + 24) (nI c) (nI q) v (rg_p lM b w0 y1) else (gO (rg_p lM b w0 y1) (b + 24) 13).bind fun o51 => (fX13_wrong X (rg_p lM b w0 y1) (b + 24) 3).bind fun q52 => fX13_readDirect_83 X (b + 24) (nI c) (nI q) v q52.2) = r → fX13_readDirect X (rg_p lM b w0 y) (b + 24) (nI c) (nI q) = r := by
      intro r hr
      unfold fX13_readDirect
      refine ob_v (rg_C rfl rfl) (ob_v (rg_A rfl (by decide) _ hc (by decide)) (ob_v (rg_I rfl rfl) ?_))
      rw [k.2.2.1]
      refine ei_t (by rw [show bf = 0 by omega]; decide) (ob_v (rg_C rfl rfl) (ob_v (rg_A rfl (by decide) _ hc (by decide)) (ob_v (rg_O rfl) ?_)))
      rw [h39]
      exact ob_v e1 hr
    have f83 : ∀ (z : rg_S) (f : Nat) (V : Int32), z.1 24 46 = nI f → 0 < f → f < 100 → ∃ v, fX13_readDirect_83 X (b + 24) (nI c) (nI q) V (rg_p lM b w0 z) = some (rg_p lM b w0 (rg_wA z 44 (upd (z.2.2.1 44) c v))) := by
      intro z f V hz h0 h9
      obtain ⟨v, e⟩ := m_d97_0 (X := X) (b := b) (w0 := w0) (q := q) (u := 0) hc (by decide) hz h0 h9
      refine ⟨v, ?_⟩
      unfold fX13_readDirect_83
      exact ob_v (rg_I rfl rfl) (ei_n (by rw [hz]; exact nI_nle h0 (by omega)) e)
    rcases hh with ⟨f, t1, t2, t3, t4, t5⟩ | ⟨u, s1, t1, t2, t3, t4⟩
    · obtain ⟨v', e2⟩ := f83 y1 f v t4 t2 t3
      exact ⟨_, st _ (ei_t (by rw [t5]; decide) e2), F1.q.trans (zFY.w44 _), Or.inl ⟨f, by rw [t1]; rfl, t2, t3, t4⟩⟩
    · rw [t1]
      show ∃ y', _ ∧ _ ∧ zYo D n (if 11 < u then .inl 3 else _) y'
      by_cases u1 : 11 < u
      · rw [if_pos u1]
        obtain ⟨v', e2⟩ := f83 (rg_wI y1 24 46 3) 3 v (wI_s _ _ _ _) (by decide) (by decide)
        refine ⟨_, st _ (ei_n ?_ (ob_v (rg_O rfl) (ob_v (m_wrong t4.2.2.2.1 3) e2))), F1.q.trans ((zFY.wI (by omega)).trans (zFY.w44 _)), Or.inl ⟨3, rfl, by decide, by decide, wI_s y1 24 46 3⟩⟩
        rw [t3]
        exact nI_ge (b := u) u1 (by omega)
      · rw [if_neg u1]
        obtain ⟨y2, e2, F2, o2⟩ := m_dir97 (X := X) (b := b) (w0 := w0) k1 (h.s F1 t4) (ok.s s1) hc hq hT (u := u) (by omega)
        refine ⟨y2, st _ (ei_t ?_ ?_), F1.q.trans F2, o2⟩
        · rw [t3]
          exact nI_le (b := 11) (by omega) (by omega)
        · rw [t3]
          unfold fX13_readDirect_83
          refine ob_v (rg_I rfl rfl) (ei_t ?_ e2)
          rw [t4.2.2.2.1]
          decide
end
