/-! a scan written by the class -/
def scO (g : gG) (c0 m : Nat) : Nat → Nat
  | 0 => 0
  | c + 1 => scO g c0 m c + scB g c0 m c
theorem scO_mono {g : gG} {c0 m c : Nat} : ∀ d, scO g c0 m c ≤ scO g c0 m (c + d)
  | 0 => Nat.le_refl _
  | d + 1 => Nat.le_trans (scO_mono d) (Nat.le_add_right _ _)
def uX (x0 : rg_S) (P : Nat) (g : gG) (c0 m : Nat) : Prop := xPic x0 P g ∧ x0.1 106 0 = nI m ∧ x0.1 106 11 = nI (scU g c0 m) ∧ x0.1 106 12 = nI (if m = 1 then gOA g c0 else gUA g) ∧ x0.1 106 13 = nI (scO g c0 m g.2.2.1) ∧ (∀ i, i < m → x0.2.2.1 107 i = nI (c0 + i)) ∧ ∀ c j, c < g.2.2.1 → j < scB g c0 m c → x0.2.2.1 111 (scO g c0 m c + j) = nI (c - c0) ∧ x0.2.2.1 112 (scO g c0 m c + j) = nI (j % g.2.2.2.1 c) ∧ x0.2.2.1 113 (scO g c0 m c + j) = nI (j / g.2.2.2.1 c)
section
variable {X : px_X} {b B : Nat} {w0 w1 : px_W} {x x' x0 y : rg_S} {o t s n c T P first last bf bits N c0 m u iv : Nat} {K : kS} {L0 : List Int32} {a a' : aS} {Z : Nat → Int} {g : gG}
theorem xW_1 (h : xW K o L0 x0 a x) (e : K.md = 1) (v : (Int32 × Nat) ⊕ (Option Nat)) : xW K o L0 x0 (ap [.inr v] a) x := by
  refine ⟨h.1, ?_, fun _ t s hU ht hs => ?_, h.2.2.2⟩
  · have := h.2.1
    rw [e, emit_1] at this ⊢
    exact this
  · show _ = nI (cnt (a.1 ++ [.inr v]) t s)
    rw [cnt_n]
    exact h.2.2.1 e t s hU ht hs
theorem x_end (S : sX K o x0) (h : xW K o L0 x0 a x) (hB : aB 32766 900 0 a) (e107 : x0.2.2.1 107 0 = nI c0) (hc : c0 < 4) (hU : K.U (4 + c0)) (hE : inE K (aSend (4 + c0) a)) : ∃ x', fX7_endBits X (rg_p lX B w0 x) (B + 195) = some (rg_p lX B w0 x') ∧ xW K o L0 x0 (ap [eA none] (aSend (4 + c0) a)) x' := by
  have So := S.2.1
  obtain ⟨x1, e1, h1⟩ := x_send (X := X) (B := B) (w0 := w0) (t := 4 + c0) S h (by decide) (by decide) hB (by omega) hU hE
  have e7 : x.2.2.1 107 0 = nI c0 := by
    rw [h.1.2.2.1 107 (by omega) (by omega) (by omega) (by omega) (fun t _ => by omega)]
    exact e107
  have start : ∀ r, (if x1.1 195 6 ≤ 0 then some (rg_p lX B w0 x1) else (gI (rg_p lX B w0 x1) (B + 195) 7 6).bind fun v22 => (gI (rg_p lX B w0 x1) (B + 195) 7 6).bind fun v23 => (gO (rg_p lX B w0 x1) (B + 195) 7).bind fun o24 => (fX7_putBits X (rg_p lX B w0 x1) (B + 195) (((1 : Int32) <<< ((8 - v22) &&& 31)) - 1) (8 - v23)).bind fun q25 => some q25) = r → fX7_endBits X (rg_p lX B w0 x) (B + 195) = r := by
    intro r hr
    unfold fX7_endBits
    refine ob_v (rg_C rfl rfl) (ob_v (rg_C rfl rfl) (ob_v (rg_C rfl rfl) (ob_v (rg_A rfl (by decide) 0 (by decide) (by decide)) ?_)))
    rw [e7, show (4 : Int32) + nI c0 = nI (4 + c0) from nI_add 4 c0]
    exact ob_v (rg_Q rfl (by decide) (4 + c0) (by omega) (by decide) (if_pos (by omega))) (ob_v (rg_O rfl) (ob_v e1 (ob_v (rg_I rfl rfl) hr)))
  have ct := S.c h1
  have R0 := S.r h1
  have hE1 := h1.2.1
  rcases S.1 with md | md
  · rw [md] at hE1
    have e6 := hE1.2.2.1
    have k8 := hE1.2.2.2.1
    have em : emit K.md K.cw K.cl (ap [eA none] (aSend (4 + c0) a)).1 (L0, 0, 0) = al (emit 0 K.cw K.cl (aSend (4 + c0) a).1 (L0, 0, 0)) := by
      rw [md]
      show emit 0 K.cw K.cl ((aSend (4 + c0) a).1 ++ [eA none]) (L0, 0, 0) = _
      rw [emit_0]
      rfl
    by_cases k0 : (emit 0 K.cw K.cl (aSend (4 + c0) a).1 (L0, 0, 0)).2.2 = 0
    · refine ⟨x1, start _ (ei_t (by rw [e6, k0]; decide) rfl), xW_b h1 So md FXb.rfl rfl ?_⟩
      rw [em]
      unfold al
      rw [if_pos k0]
      exact hE1
    · generalize hk : (emit 0 K.cw K.cl (aSend (4 + c0) a).1 (L0, 0, 0)).2.2 = k at *
      obtain ⟨x2, e2, hE2, F2⟩ := x_putBits (X := X) (B := B) (w0 := w0) (v := nI (2 ^ (8 - k) - 1)) (n := 8 - k) So R0 hE1 (by omega) (by rw [ct, md]; rfl)
      refine ⟨x2, start _ ?_, xW_b h1 So md F2 rfl ?_⟩
      · rw [e6]
        refine ei_n (nI_nle (by omega) (by omega)) (ob_v (rg_I rfl rfl) (ob_v (rg_I rfl rfl) (ob_v (rg_O rfl) ?_)))
        rw [e6, show (8 : Int32) = nI 8 from rfl, pk_sub (by omega), show ((1 : Int32) <<< (nI (8 - k) &&& 31)) - 1 = nI (2 ^ (8 - k) - 1) by
          rcases (show k = 1 ∨ k = 2 ∨ k = 3 ∨ k = 4 ∨ k = 5 ∨ k = 6 ∨ k = 7 by omega) with rfl | rfl | rfl | rfl | rfl | rfl | rfl <;> decide]
        exact ob_v e2 rfl
      · rw [em]
        unfold al
        rw [hk, if_neg k0]
        exact hE2
  · rw [md, emit_1] at hE1
    exact ⟨x1, start _ (ei_t (by rw [hE1.2.2.1]; show nI 0 ≤ 0; decide) rfl), xW_1 h1 md _⟩
theorem x_fill198 (S : sX K o x0) (h : xW K o L0 x0 a x) : xW K o L0 x0 (aZr a) (rg_wA x 198 fun i => if i < 4 then 0 else x.2.2.1 198 i) := by
  obtain ⟨v1, v2, v3, v4, v5, v6⟩ := h.2.2.2
  refine xW_f h S.2.1 (fun _ _ _ => rfl) rfl (fun p' _ _ p3' => by rw [wA_n _ _ p3']) rfl rfl ⟨v1, v2, v3, ?_, ?_, fun j hj => ?_⟩
  · rw [wA_n _ _ (by decide)]; exact v4
  · rw [wA_n _ _ (by decide)]; exact v5
  · rw [wA_s]
    show (if j < 4 then (0 : Int32) else _) = iI 0
    rw [if_pos hj]
    rfl
theorem x_rst (S : sX K o x0) (h : xW K o L0 x0 a x) {code : Nat} : ∃ x', fX7_writeRestart X (rg_p lX B w0 x) (B + 195) (nI code) = some (rg_p lX B w0 x') ∧ xW K o L0 x0 (aZr (ap [eA (some code)] a)) x' := by
  have So := S.2.1
  have ct := S.c h
  have R0 := S.r h
  have hby : isBy o := Or.inr So
  have gq : ∀ x2 : rg_S, x2.2.1 = x.2.1 → gR (rg_p lX B w0 x2) (B + 195) 7 0 = some (B + o) := fun x2 hh => by rw [← R0, ← hh]; exact rg_R rfl rfl
  rcases S.1 with md | md
  · have hE := h.2.1
    rw [md] at hE
    obtain ⟨x1, e1, z1, f1, f2, f3, f4⟩ := x_oadd (X := X) (B := B) (w0 := w0) hby hE.1 255
    obtain ⟨x2, e2, z2, g1, g2, g3, g4⟩ := x_oadd (X := X) (B := B) (w0 := w0) hby z1 (nI code)
    have F : FXb o x x2 := ⟨fun p k _ hk => (g1 p k (by omega)).trans (f1 p k (by omega)), g2.trans f2, fun p hp => (g3 p hp).trans (f3 p hp), g4.trans f4⟩
    have h2 : xW K o L0 x0 (ap [eA (some code)] a) x2 := by
      refine xW_b h So md F rfl ?_
      rw [md]
      show xE x2 o (emit 0 K.cw K.cl (a.1 ++ [eA (some code)]) (L0, 0, 0))
      rw [emit_0]
      refine ⟨z2, ?_, ?_, hE.2.2.2⟩
      · rw [g1 195 5 (by omega), f1 195 5 (by omega)]
        exact hE.2.1
      · rw [g1 195 6 (by omega), f1 195 6 (by omega)]
        exact hE.2.2.1
    refine ⟨_, ?_, x_fill198 S h2⟩
    unfold fX7_writeRestart fX7_writeRestart_25
    exact ob_v (rg_I rfl rfl) (ei_t (by rw [ct, md]; rfl) (ob_v (gq x rfl) (ob_v (rg_O hby.o) (ob_v e1 (ob_v (gq x1 f2) (ob_v (rg_O hby.o) (ob_v e2 (ob_v (rg_C rfl rfl) (ob_v (rg_fill rfl (by decide) 0) rfl)))))))))
  · refine ⟨_, ?_, x_fill198 S (xW_1 h md (.inr (some code)))⟩
    unfold fX7_writeRestart fX7_writeRestart_25
    refine ob_v (rg_I rfl rfl) ?_
    rw [ct, md]
    exact ei_n n10 (ob_v (rg_C rfl rfl) (ob_v (rg_fill rfl (by decide) 0) rfl))
end
