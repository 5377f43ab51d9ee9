/-! a scan written by the class: all of it -/
def xBeg (x : rg_S) (md : Nat) : rg_S := rg_wA (rg_wI (rg_wI (rg_wI x 195 4 (nI md)) 195 5 0) 195 6 0) 198 fun i => if i < 4 then 0 else x.2.2.1 198 i
section
variable {X : px_X} {b B : Nat} {w0 w1 : px_W} {x x' x0 y : rg_S} {o t s n c j T P N c0 m u iv : Nat} {p : scP} {K : kS} {L0 : List Int32} {a a' : aS} {Z : Nat → Int} {g : gG}
theorem scU_lt (hg : gOk g) (hs : scOk g c0 m) : 1 ≤ scU g c0 m ∧ scU g c0 m ≤ 256 := by
  have ua := hg.ua
  have ud := hg.ud
  unfold scU
  by_cases m1 : m = 1
  · rw [if_pos m1]
    have oa := hg.oa (c := c0) (by unfold scOk at hs; omega)
    have od := hg.od (c := c0) (by unfold scOk at hs; omega)
    have ac := hg.ac (c := c0) (by unfold scOk at hs; omega)
    have dn := hg.dn (c := c0) (by unfold scOk at hs; omega)
    exact ⟨Nat.mul_pos oa.1 od.1, Nat.mul_le_mul (show gOA g c0 ≤ 16 by omega) (show gOD g c0 ≤ 16 by omega)⟩
  · rw [if_neg m1]
    have : gUA g * gUD g ≤ 8 * 8 := Nat.mul_le_mul ua.2 ud.2
    exact ⟨Nat.mul_pos ua.1 ud.1, by omega⟩
theorem scOk.cm (hs : scOk g c0 m) (hg : gOk g) : c0 < 4 ∧ 1 ≤ m ∧ c0 + m ≤ g.2.2.1 := by
  have := hg.2.2.2.2.1
  have := hg.2.2.2.2.2.1
  unfold scOk at hs
  omega
theorem x_u25 (S : sX K o x0) (pp : pX x0 P p.1 p.2.1 p.2.2.1 p.2.2.2 (64 * gBs g g.2.2.1) Z) (q : uX x0 P g c0 m) (hg : gOk g) (hs : scOk g c0 m) (h10 : scO g c0 m g.2.2.1 ≤ 10) (hff : p.1 = 0 → 0 < p.2.1 → p.2.2.1 = 0) (hU : ∀ c, c0 ≤ c → c < c0 + m → K.U c ∧ K.U (4 + c)) (hZ : ∀ i, i < 64 * gBs g g.2.2.1 → -1024 ≤ Z i ∧ Z i ≤ 1023) (hiv : iv < 65536) (hE : inE K (aUs g c0 m p Z iv (scU g c0 m))) : ∀ (k M u : Nat) (x : rg_S), u + k = scU g c0 m → k < M → xW K o L0 x0 (aUs g c0 m p Z iv u) x → ∃ x', fX7_write_25 X M (B + 195) (nI iv) (nI u) (rg_p lX B w0 x) = fX7_write_217 X (B + 195) (rg_p lX B w0 x') ∧ xW K o L0 x0 (aUs g c0 m p Z iv (scU g c0 m)) x' := by
  have hun := scU_lt hg hs
  have hcm := hs.cm hg
  intro k
  induction k with
  | zero =>
    intro M u x hu hM h
    obtain rfl : u = scU g c0 m := by omega
    obtain ⟨M, rfl⟩ : ∃ M', M = M' + 1 := ⟨M - 1, by omega⟩
    obtain ⟨_, _, u11, _⟩ := q.st pp.1 S.2.1 h
    refine ⟨x, ?_, h⟩
    rw [fX7_write_25.eq_2]
    refine ob_v (rg_C rfl rfl) (ob_v (rg_I rfl rfl) ?_)
    rw [u11]
    exact ei_t (nI_le (Nat.le_refl _) (by omega)) rfl
  | succ k ih =>
    intro M u x hu hM h
    obtain ⟨M, rfl⟩ : ∃ M', M = M' + 1 := ⟨M - 1, by omega⟩
    obtain ⟨_, _, u11, _⟩ := q.st pp.1 S.2.1 h
    have hI := aIv_us (iv := iv) hg hs hZ hff u (by omega)
    have g1 := gr_us (g := g) (c0 := c0) (m := m) (p := p) (Z := Z) (iv := iv) (u + 1) k
    rw [show u + 1 + k = scU g c0 m by omega] at g1
    have hE1 := hE.g g1
    obtain ⟨x1, e1, h1⟩ : ∃ x1, fX7_write_25 X (M + 1) (B + 195) (nI iv) (nI u) (rg_p lX B w0 x) = fX7_write_70 X (fX7_write_25 X M) (B + 195) (nI iv) (nI u) (rg_p lX B w0 x1) ∧ xW K o L0 x0 (aRs iv (4 + c0) u (aUs g c0 m p Z iv u)) x1 := by
      have hE2 : inE K (aRs iv (4 + c0) u (aUs g c0 m p Z iv u)) := hE1.g (gr_aUn0 _)
      have start : ∀ r, (if nI iv ≤ 0 then fX7_write_70 X (fX7_write_25 X M) (B + 195) (nI iv) (nI u) (rg_p lX B w0 x) else if nI u ≤ 0 then fX7_write_70 X (fX7_write_25 X M) (B + 195) (nI iv) (nI u) (rg_p lX B w0 x) else (rI (nI u) (nI iv)).bind fun v91 => if v91 = 0 then (gO (rg_p lX B w0 x) (B + 195) 7).bind fun o93 => (fX7_endBits X (rg_p lX B w0 x) (B + 195)).bind fun q94 => (dI (nI u) (nI iv)).bind fun v95 => (rI (v95 - 1) 8).bind fun v96 => (gO q94 (B + 195) 7).bind fun o97 => (fX7_writeRestart X q94 (B + 195) (208 + v96)).bind fun q98 => fX7_write_70 X (fX7_write_25 X M) (B + 195) (nI iv) (nI u) q98 else fX7_write_70 X (fX7_write_25 X M) (B + 195) (nI iv) (nI u) (rg_p lX B w0 x)) = r → fX7_write_25 X (M + 1) (B + 195) (nI iv) (nI u) (rg_p lX B w0 x) = r := by
        intro r hr
        rw [fX7_write_25.eq_2]
        refine ob_v (rg_C rfl rfl) (ob_v (rg_I rfl rfl) ?_)
        rw [u11]
        exact ei_n (nI_ge (by omega) (by omega)) hr
      unfold aRs at hE2 ⊢
      by_cases i0 : 0 < iv
      · by_cases z0 : 0 < u
        · by_cases r0 : u % iv = 0
          · rw [if_pos ⟨i0, z0, r0⟩] at hE2 ⊢
            have hE3 : inE K (aSend (4 + c0) (aUs g c0 m p Z iv u)) := hE2.g ((gr_ap _ _).trans (gr_ap _ _))
            obtain ⟨x2, e2, h2⟩ := x_end (X := X) (B := B) (w0 := w0) (c0 := c0) S h hI.1 (q.2.2.2.2.2.1 0 (by omega)) hcm.1 (hU c0 (by omega) (by omega)).2 hE3
            obtain ⟨x3, e3, h3⟩ := x_rst (X := X) (B := B) (w0 := w0) (code := 208 + (u / iv - 1) % 8) S h2
            have d1 : 1 ≤ u / iv := by
              have := Nat.div_add_mod u iv
              rw [r0] at this
              rcases Nat.eq_zero_or_pos (u / iv) with z | z
              · rw [z] at this
                omega
              · exact z
            have d2 : u / iv ≤ u := Nat.div_le_self _ _
            refine ⟨x3, start _ (ei_n (nI_nle i0 (by omega)) (ei_n (nI_nle z0 (by omega)) (ob_v (rI_n (by omega) i0 (by omega)) (ei_t (by rw [r0]; rfl) (ob_v (rg_O rfl) (ob_v e2 (ob_v (dI_n (by omega) i0 (by omega)) ?_))))))), h3⟩
            rw [show nI (u / iv) - 1 = nI (u / iv - 1) from pk_sub (b := 1) d1]
            refine ob_v (rI_n (d := 8) (by omega) (by decide) (by decide)) (ob_v (rg_O rfl) ?_)
            rw [show (208 : Int32) + nI ((u / iv - 1) % 8) = nI (208 + (u / iv - 1) % 8) from nI_add 208 _]
            exact ob_v e3 rfl
          · rw [if_neg (fun e => r0 e.2.2)]
            refine ⟨x, start _ (ei_n (nI_nle i0 (by omega)) (ei_n (nI_nle z0 (by omega)) (ob_v (rI_n (by omega) i0 (by omega)) (ei_n (nI_ne0 (by omega) (by have := Nat.mod_lt u i0; omega)) rfl)))), h⟩
        · rw [if_neg (fun e => z0 e.2.1)]
          refine ⟨x, start _ (ei_n (nI_nle i0 (by omega)) (ei_t (by rw [show u = 0 by omega]; decide) rfl)), h⟩
      · rw [if_neg (fun e => i0 e.1)]
        refine ⟨x, start _ (ei_t (by rw [show iv = 0 by omega]; decide) rfl), h⟩
    obtain ⟨x2, e2, h2⟩ := x_unit (X := X) (B := B) (w0 := w0) (k25 := fX7_write_25 X M) (i := nI iv) (u := u) S pp q hg hs h10 hff hU hZ (by omega) (aIv_rs (t := 4 + c0) (iv := iv) (u := u) hI) h1 hE1
    obtain ⟨x3, e3, h3⟩ := ih M (u + 1) x2 (by omega) (by omega) h2
    exact ⟨x3, e1.trans (e2.trans e3), h3⟩
theorem x_write (S : sX K o (xBeg x K.md)) (pp : pX (xBeg x K.md) P p.1 p.2.1 p.2.2.1 p.2.2.2 (64 * gBs g g.2.2.1) Z) (q : uX (xBeg x K.md) P g c0 m) (hg : gOk g) (hs : scOk g c0 m) (h10 : scO g c0 m g.2.2.1 ≤ 10) (hff : p.1 = 0 → 0 < p.2.1 → p.2.2.1 = 0) (hU : ∀ c, c0 ≤ c → c < c0 + m → K.U c ∧ K.U (4 + c)) (hZ : ∀ i, i < 64 * gBs g g.2.2.1 → -1024 ≤ Z i ∧ Z i ≤ 1023) (hiv : iv < 65536) (h0 : xO x o L0) (h7 : x.1 195 7 = 0) (h8 : x.1 195 8 = 0) (h1 : x.1 195 10 = 0) (hz : K.md = 1 → ∀ t s, K.U t → t < 8 → s < 256 → x.2.2.1 (115 + 10 * t + 1) s = 0) (hE : inE K (aAll g c0 m p Z iv)) : ∃ x', fX7_write X (rg_p lX B w0 x) (B + 195) (nI iv) (nI K.md) = some (rg_p lX B w0 x') ∧ xW K o L0 (xBeg x K.md) (aAll g c0 m p Z iv) x' := by
  have So := S.2.1
  have hcm := hs.cm hg
  have hun := scU_lt hg hs
  have st : xW K o L0 (xBeg x K.md) (aUs g c0 m p Z iv 0) (xBeg x K.md) := by
    refine ⟨⟨fun _ _ _ _ => rfl, rfl, fun _ _ _ _ _ _ => rfl, rfl⟩, ?_, fun e t s hUt ht hs' => ?_, ?_, ?_, ?_, lst_nil, lst_nil, fun c hc => ?_⟩
    · have e : emit K.md K.cw K.cl (aUs g c0 m p Z iv 0).1 (L0, 0, 0) = (L0, 0, 0) := by
        show emit K.md K.cw K.cl [] (L0, 0, 0) = _
        unfold emit
        split <;> rfl
      rw [e]
      unfold xBeg
      refine ⟨?_, ?_, ?_, (show 0 < 8 by decide), (show 0 < 2 ^ 0 by decide)⟩
      · unfold xO
        rw [wA_1, wI_n _ _ (by omega), wI_n _ _ (by omega), wI_n _ _ (by omega), wI_n _ _ (by omega), wI_n _ _ (by omega), wI_n _ _ (by omega), wA_n _ _ (by omega)]
        exact h0
      · rw [wA_1, wI_n _ _ (by omega), wI_s]; rfl
      · rw [wA_1, wI_s]; rfl
    · unfold xBeg
      rw [wA_n _ _ (by omega)]
      exact hz e t s hUt ht hs'
    · unfold xBeg
      rw [wA_1, wI_n _ _ (by omega), wI_n _ _ (by omega), wI_n _ _ (by omega)]
      exact h7
    · unfold xBeg
      rw [wA_1, wI_n _ _ (by omega), wI_n _ _ (by omega), wI_n _ _ (by omega)]
      exact h8
    · unfold xBeg
      rw [wA_1, wI_n _ _ (by omega), wI_n _ _ (by omega), wI_n _ _ (by omega)]
      exact h1
    · unfold xBeg
      rw [wA_s]
      show (if c < 4 then (0 : Int32) else _) = iI 0
      rw [if_pos hc]
      rfl
  have hE1 : inE K (aSend (4 + c0) (aUs g c0 m p Z iv (scU g c0 m))) := hE.g (gr_ap _ _)
  obtain ⟨x1, e1, k1⟩ := x_u25 (X := X) (B := B) (w0 := w0) (L0 := L0) S pp q hg hs h10 hff hU hZ hiv (hE1.g (gr_send _ _)) (scU g c0 m) FU 0 (xBeg x K.md) (by omega) (by unfold FU; omega) st
  have hI := aIv_us (iv := iv) hg hs hZ hff (scU g c0 m) (Nat.le_refl _)
  obtain ⟨x2, e2, k2⟩ := x_end (X := X) (B := B) (w0 := w0) (c0 := c0) S k1 hI.1 (q.2.2.2.2.2.1 0 (by omega)) hcm.1 (hU c0 (by omega) (by omega)).2 hE1
  refine ⟨x2, ?_, k2⟩
  unfold fX7_write
  refine ob_v (rg_pZ rfl rfl _ (S.1.imp (fun e => by rw [e]; rfl) (fun e => by rw [e]; rfl))) (ob_v (rg_pI rfl rfl _) (ob_v (rg_pI rfl rfl _) (ob_v (rg_C rfl rfl) (ob_v (rg_fill rfl (by decide) 0) ?_))))
  refine (show fX7_write_25 X FU (B + 195) (nI iv) (nI 0) _ = _ from e1).trans ?_
  unfold fX7_write_217
  exact ob_v (rg_O rfl) (ob_v e2 rfl)
end
