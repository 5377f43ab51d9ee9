/-! takeFrame, takeBlock, a new picture; cropTo -/
theorem xPic.wA {x : rg_S} {Q o : Nat} {g : gG} {f : Nat → Int32} (h : xPic x Q g) (ho : ∀ j, 1 ≤ j → j ≤ 5 → Q + j ≠ o) : xPic (rg_wA x o f) Q g := by
  obtain ⟨⟨q1, q2, q3, q4, q5⟩, q6, q7, q8, q9⟩ := h
  refine ⟨⟨q1, q2, q3, ?_, ?_⟩, q6, q7, q8, ?_⟩
  · rw [wA_n _ _ (ho 1 (by decide) (by decide))]; exact q4
  · rw [wA_n _ _ (ho 2 (by decide) (by decide))]; exact q5
  · rw [wA_n _ _ (ho 3 (by decide) (by decide)), wA_n _ _ (ho 4 (by decide) (by decide)), wA_n _ _ (ho 5 (by decide) (by decide))]; exact q9
theorem xPic.c {x x' : rg_S} {Q : Nat} {g : gG} (h : xPic x Q g) (e1 : ∀ k, k < 6 → x'.1 Q k = x.1 Q k) (e2 : ∀ j, 1 ≤ j → j ≤ 5 → x'.2.2.1 (Q + j) = x.2.2.1 (Q + j)) : xPic x' Q g := by
  unfold xPic xFr at *
  rw [e1 0 (by decide), e1 1 (by decide), e1 2 (by decide), e1 3 (by decide), e1 4 (by decide), e1 5 (by decide), e2 1 (by decide) (by decide), e2 2 (by decide) (by decide), e2 3 (by decide) (by decide), e2 4 (by decide) (by decide), e2 5 (by decide) (by decide)]
  exact h
theorem xSt_pic {x : rg_S} {P : Nat} {g : gG} (h : xFr x P g) : xPic (xSt x P g g.2.2.1) P g := by
  obtain ⟨h1, h2, h3, h4, h5⟩ := h
  refine ⟨⟨by rw [xS_e0]; exact h1, by rw [xS_e1]; exact h2, by rw [xS_e2]; exact h3, ?_, ?_⟩, xS_e3 _, xS_e4 _, xS_e5 _, ?_⟩
  · intro c hc
    rw [xS_A, if_neg (by omega), if_neg (by omega), if_neg (by omega)]
    exact h4 c hc
  · intro c hc
    rw [xS_A, if_neg (by omega), if_neg (by omega), if_neg (by omega)]
    exact h5 c hc
  · intro c hc
    rw [xS_A, xS_A, xS_A, if_neg (by omega), if_neg (by omega), if_pos rfl, if_neg (by omega), if_pos rfl, if_pos rfl]
    exact ⟨gF_at hc, gF_at hc, gF_at hc⟩
theorem ySt_pic {y : rg_S} {g : gG} (h : mFr y g) : mPic (ySt y g g.2.2.1) g := by
  obtain ⟨h1, h2, h3, h4, h5⟩ := h
  exact ⟨⟨h1, h2, h3, h4, h5⟩, rfl, rfl, rfl, rfl, fun c hc => ⟨gF_at hc, gF_at hc, gF_at hc⟩⟩
/-- the draft becomes the picture -/
def xTD (x : rg_S) (P Q : Nat) : rg_S := rg_wI (rg_wR (rg_wR x 0 4 P) 0 5 Q) 0 3 1
section
variable {X : px_X} {b B : Nat} {w0 w1 w : px_W} {x y : rg_S} {P Q : Nat} {g : gG}
theorem x_takeDraft (hR : x.2.1 0 4 = Q) (hR' : x.2.1 0 5 = P) : fX11_takeDraft X (rg_p lX B w0 x) (B + 0) = some (rg_p lX B w0 (xTD x P Q)) := by
  unfold fX11_takeDraft
  refine ob_v (rg_R rfl rfl) (ob_v (rg_R rfl rfl) (ob_v (rg_pR rfl rfl _) (ob_v (rg_pR rfl rfl _) (ob_v (rg_pZ rfl rfl _ (Or.inr rfl)) ?_))))
  rw [hR, hR']
  rfl
theorem Rel.newpic (h : Rel x y) (hP : isP P) (hQ : isP Q) (hPQ : P ≠ Q) {x2 y2 : rg_S} (f1 : ∀ o k, o < 7 ∨ 24 ≤ o ∧ o < 32 ∨ o = 195 → x2.1 o k = x.1 o k) (f2 : x2.2.1 = x.2.1) (f3 : ∀ o, o < 7 ∨ 24 ≤ o ∧ o < 32 ∨ o = 37 → x2.2.2.1 o = x.2.2.1 o) (e1' : ∀ o k, o = 0 ∧ k < 17 ∨ o = 24 → y2.1 o k = y.1 o k) (e2 : ∀ o, o < 3 ∨ 69 ≤ o ∧ o < 75 → y2.2.2.1 o = y.2.2.1 o) (ht : y2.1 0 17 = 1) (hp : pRel x2 y2 P g) : Rel (xTD x2 P Q) y2 := by
  obtain ⟨h1, h2, h3, h4, h4b, h5, h6⟩ := h
  have hP' : P = 7 ∨ P = 15 := hP
  have hQ' : Q = 7 ∨ Q = 15 := hQ
  have i1 : ∀ o k, o ≠ 0 → (xTD x2 P Q).1 o k = x2.1 o k := fun o k ho => wI_n _ _ (Or.inl ho)
  have e1 : ∀ k, k < 17 → y2.1 0 k = y.1 0 k := fun k hk => e1' 0 k (Or.inl ⟨rfl, hk⟩)
  have i0 : ∀ k, k ≠ 3 → (xTD x2 P Q).1 0 k = x2.1 0 k := fun k hk => wI_n _ _ (Or.inr hk)
  refine ⟨h1.c ((i1 1 1 (by decide)).trans (f1 1 1 (by omega))) (f3 2 (by omega)) (e1 1 (by decide)) (e2 1 (by omega)), h2.c ⟨?_, ?_⟩ (fun o ho => (i1 o 1 (by omega)).trans (f1 o 1 (by omega))) (fun o ho => f3 _ (by omega)) (e1 3 (by decide)) (e2 2 (by omega)), ?_, h4.c (fun p k hp hk => (i1 _ k (by omega)).trans (f1 _ k (by omega))) (fun p hp => f3 _ (by omega)) (fun o o1 o2 => e2 o (by omega)), h4b.c (e2 72 (by omega)), ?_, h6.c (f3 37 (by omega)) (fun o o1 o2 => e2 o (by omega)) (fun k => (i1 195 k (by decide)).trans (f1 195 k (by omega))) (e1' 24 42 (by omega))⟩
  · show x2.2.1 0 1 = x.2.1 0 1
    rw [f2]
  · show x2.2.1 0 2 = x.2.1 0 2
    rw [f2]
  · unfold r3
    rw [i0 13 (by decide), i0 14 (by decide), i0 15 (by decide), i0 16 (by decide), i0 17 (by decide), f1 0 13 (by omega), f1 0 14 (by omega), f1 0 15 (by omega), f1 0 16 (by omega), f1 0 17 (by omega), e1 7 (by decide), e1 8 (by decide), e1 9 (by decide), e1 10 (by decide), e1 11 (by decide)]
    exact h3
  · refine ⟨P, ?_, rfl, Or.inr ⟨rfl, ht, g, hp.c (fun k hk => i1 P k (by omega)) (fun j _ _ => rfl) (fun k _ _ => rfl) (fun o _ _ => rfl)⟩⟩
    show P = 7 ∧ Q = 15 ∨ P = 15 ∧ Q = 7
    omega
/-- what takeBlock makes of a coefficient -/
def tbv (m f k : Nat) (v : Int32) : Int32 := if ((m = 1 ∧ zg k % 2 = 1) ↔ (f = 1 ∧ zg k / 8 % 2 = 1)) then v else -v
theorem x_takeB (hs : px_st X) (hP : isP P) (hQ : isP Q) (hPQ : P ≠ Q) {F T m f : Nat} {V Z : Nat → Int32} (hF : F < 192) (hT : T < 192) (hm : m < 2) (hf : f < 2) (hV : ∀ k, k < 64 → V (64 * T + k) = tbv m f k (x.2.2.1 (Q + 6) (64 * F + k))) :
    fX2_takeBlock X (rg_p lX B w0 (rg_wA x (P + 6) (fU (64 * T) V Z))) (B + P) (B + Q) (nI F) (nI T) (nI m) (nI f) = some (rg_p lX B w0 (rg_wA x (P + 6) (fU (64 * (T + 1)) V Z))) := by
  have hP' : P = 7 ∨ P = 15 := hP
  have hQ' : Q = 7 ∨ Q = 15 := hQ
  have fm : ∀ n, n < 2 → (nI n = 0 ↔ n = 0) := fun n hn => nI_eq (b := 0) (by omega) (by omega)
  unfold fX2_takeBlock
  refine ei_n (m1_n (by omega)) (ei_n (m1_n (by omega)) ?_)
  rw [show 64 * (T + 1) = 64 * T + 64 by omega]
  refine rg_lpF (F := fun u (q : Int32 × px_W) => fX2_takeBlock_14 X u (B + P) (B + Q) (nI F) (nI T) (nI m) (nI f) q.1 q.2) 64 (fun k => (nI k, rg_p lX B w0 (rg_wA x (P + 6) (fU (64 * T + k) V Z)))) (by omega) ?_ ?_
  · intro u k hk
    dsimp only
    rw [fX2_takeBlock_14.eq_2]
    refine ei_n (nI_ge (b := 64) hk (by omega)) (ob_v (rg_C hQ.o rfl) ?_)
    rw [n64]
    refine ob_v (rg_A hQ.a6 (by decide) _ (by omega) (by decide)) ?_
    rw [wA_n _ _ (by omega)]
    have hz := zg_lt hk
    -- the last step: the value is written
    have fin : ∀ v, v = V (64 * T + k) → fX2_takeBlock_116 X (fX2_takeBlock_14 X u) (B + P) (B + Q) (nI F) (nI T) (nI m) (nI f) (nI k) v ((64 * nI T) + nI k) (B + (P + 6)) (rg_p lX B w0 (rg_wA x (P + 6) (fU (64 * T + k) V Z))) = fX2_takeBlock_14 X u (B + P) (B + Q) (nI F) (nI T) (nI m) (nI f) (nI (k + 1)) (rg_p lX B w0 (rg_wA x (P + 6) (fU (64 * T + (k + 1)) V Z))) := by
      rintro v rfl
      unfold fX2_takeBlock_116
      rw [n64]
      refine ob_v (rg_sA _ hP.a6 (by decide) _ _ (by omega) (by decide)) ?_
      rw [nI_1, wA_wA, wA_s, id, fU_s]
      rfl
    -- the sign
    have sg : ∀ e e' : Nat, e < 2 → e' < 2 → (e = 1 ↔ (m = 1 ∧ zg k % 2 = 1)) → (e' = 1 ↔ (f = 1 ∧ zg k / 8 % 2 = 1)) → fX2_takeBlock_82 X (fX2_takeBlock_14 X u) (B + P) (B + Q) (nI F) (nI T) (nI m) (nI f) (nI k) (x.2.2.1 (Q + 6) (64 * F + k)) (nI e') (nI e) (rg_p lX B w0 (rg_wA x (P + 6) (fU (64 * T + k) V Z))) = fX2_takeBlock_14 X u (B + P) (B + Q) (nI F) (nI T) (nI m) (nI f) (nI (k + 1)) (rg_p lX B w0 (rg_wA x (P + 6) (fU (64 * T + (k + 1)) V Z))) := by
      intro e e' he he' h1 h2
      unfold fX2_takeBlock_82 fX2_takeBlock_90
      have hv := hV k hk
      unfold tbv at hv
      by_cases ee : e = e'
      · subst ee
        refine ei_t rfl (ob_v (rg_C hP.o rfl) (ei_t rfl (fin _ ?_)))
        rw [if_pos (h1.symm.trans h2)] at hv
        exact hv.symm
      · refine ei_n (fun q => ee ((nI_eq (by omega) (by omega)).mp q)) (ob_v (rg_C hP.o rfl) (ei_n n10 (fin _ ?_)))
        rw [if_neg (fun q => ee (by have := h1.trans (q.trans h2.symm); omega))] at hv
        exact hv.symm
    -- flip
    have fl : ∀ e : Nat, e < 2 → (e = 1 ↔ (m = 1 ∧ zg k % 2 = 1)) → fX2_takeBlock_57 X (fX2_takeBlock_14 X u) (B + P) (B + Q) (nI F) (nI T) (nI m) (nI f) (nI k) (x.2.2.1 (Q + 6) (64 * F + k)) (nI e) (rg_p lX B w0 (rg_wA x (P + 6) (fU (64 * T + k) V Z))) = fX2_takeBlock_14 X u (B + P) (B + Q) (nI F) (nI T) (nI m) (nI f) (nI (k + 1)) (rg_p lX B w0 (rg_wA x (P + 6) (fU (64 * T + (k + 1)) V Z))) := by
      intro e he h1
      unfold fX2_takeBlock_57
      by_cases f0 : f = 0
      · refine ei_t ((fm f hf).mpr f0) ?_
        exact sg e 0 he (by decide) h1 (by omega)
      · refine ei_n (fun q => f0 ((fm f hf).mp q)) (ob_v (s_zig hs hk) (ob_v (dI_n (d := 8) (by omega) (by decide) (by decide)) (ob_v (rI_n (d := 2) (by omega) (by decide) (by decide)) ?_)))
        by_cases o : zg k / 8 % 2 = 1
        · rw [o]
          exact ei_t rfl (sg e 1 he (by decide) h1 (by omega))
        · rw [show zg k / 8 % 2 = 0 by omega]
          exact ei_n (by decide) (sg e 0 he (by decide) h1 (by omega))
    by_cases m0 : m = 0
    · refine ei_t ((fm m hm).mpr m0) ?_
      exact fl 0 (by decide) (by omega)
    · refine ei_n (fun q => m0 ((fm m hm).mp q)) (ob_v (s_zig hs hk) (ob_v (rI_n (d := 2) (by omega) (by decide) (by decide)) ?_))
      by_cases o : zg k % 2 = 1
      · rw [o]
        exact ei_t rfl (fl 1 (by decide) (by omega))
      · rw [show zg k % 2 = 0 by omega]
        exact ei_n (by decide) (fl 0 (by decide) (by omega))
  · intro u
    dsimp only
    rw [fX2_takeBlock_14.eq_2]
    exact ei_t (by decide) rfl
/-- takeFrame -/
def xTF (x : rg_S) (P Q : Nat) : rg_S := rg_wA (rg_wA (rg_wA (rg_wI x P 2 (x.1 Q 2)) (P + 1) (va_cpy (x.2.2.1 (Q + 1)) (x.2.2.1 (P + 1)) 0 0 4)) (P + 2) (va_cpy (x.2.2.1 (Q + 2)) (x.2.2.1 (P + 2)) 0 0 4)) (P + 7) (va_cpy (x.2.2.1 (Q + 7)) (x.2.2.1 (P + 7)) 0 0 256)
theorem x_takeFrame (hP : isP P) (hQ : isP Q) (hPQ : P ≠ Q) : fX2_takeFrame X (rg_p lX B w0 x) (B + P) (B + Q) = some (rg_p lX B w0 (xTF x P Q)) := by
  have hP' : P = 7 ∨ P = 15 := hP
  have hQ' : Q = 7 ∨ Q = 15 := hQ
  unfold fX2_takeFrame
  refine ob_v (rg_I hQ.o rfl) (ob_v (rg_pI hP.o rfl _) ?_)
  refine ob_v (rg_C hQ.o rfl) (ob_v (rg_C hP.o rfl) (ob_v (rg_cpy (sp := 0) (dp := 0) (m := 4) hQ.a1 hP.a1 (by decide) (by decide) (by decide) (by decide) (by decide) (fun _ _ => rfl)) ?_))
  refine ob_v (rg_C hQ.o rfl) (ob_v (rg_C hP.o rfl) (ob_v (rg_cpy (sp := 0) (dp := 0) (m := 4) hQ.a2 hP.a2 (by decide) (by decide) (by decide) (by decide) (by decide) (fun _ _ => rfl)) ?_))
  refine ob_v (rg_C hQ.o rfl) (ob_v (rg_C hP.o rfl) (ob_v (rg_cpy (sp := 0) (dp := 0) (m := 256) hQ.a7 hP.a7 (by decide) (by decide) (by decide) (by decide) (by decide) (fun _ _ => rfl)) ?_))
  unfold xTF
  rw [wI_2, wA_n _ _ (show Q + 2 ≠ P + 1 by omega), wA_n _ _ (show P + 2 ≠ P + 1 by omega), wA_n _ _ (show Q + 7 ≠ P + 2 by omega), wA_n _ _ (show Q + 7 ≠ P + 1 by omega), wA_n _ _ (show P + 7 ≠ P + 2 by omega), wA_n _ _ (show P + 7 ≠ P + 1 by omega), wI_2]
end
