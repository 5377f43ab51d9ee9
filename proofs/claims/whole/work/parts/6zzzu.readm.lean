/-! a whole scan read by the reference -/
def FYrd (y y' : rg_S) : Prop := (∀ p k, ¬ (p = 24 ∧ (k = 38 ∨ 43 ≤ k ∧ k ≤ 46)) → y'.1 p k = y.1 p k) ∧ y'.2.1 = y.2.1 ∧ (∀ o, o ≠ 32 → o ≠ 33 → o ≠ 44 → y'.2.2.1 o = y.2.2.1 o) ∧ y'.2.2.2 = y.2.2.2
theorem zFY.s {y y' : rg_S} (F : zFY y y') : FYrd y y' := ⟨F.1, F.2.1, fun o a _ c => F.2.2.1 o a c, F.2.2.2⟩
theorem FYrd.trans {y y1 y2 : rg_S} (h : FYrd y y1) (h2 : FYrd y1 y2) : FYrd y y2 := ⟨fun p k a => (h2.1 p k a).trans (h.1 p k a), h2.2.1.trans h.2.1, fun o a c d => (h2.2.2.1 o a c d).trans (h.2.2.1 o a c d), h2.2.2.2.trans h.2.2.2⟩
theorem FYrd.w33 {y : rg_S} (f : Nat → Int32) : FYrd y (rg_wA y 33 f) := ⟨fun _ _ _ => rfl, rfl, fun _ _ a _ => wA_n _ _ a, rfl⟩
theorem FYrd.w32 {y : rg_S} (f : Nat → Int32) : FYrd y (rg_wA y 32 f) := ⟨fun _ _ _ => rfl, rfl, fun _ a _ _ => wA_n _ _ a, rfl⟩
def rdY (y : rg_S) (first last bf bb : Nat) (bs : Nat → Nat) (g : gG) (cm : Nat → Nat) (mm iv : Nat) (td ta : Nat → Nat) (Wd Wa : Nat → zT) (D : Nat → Nat) (n : Nat) (Q : Nat → Int32) : Prop := zCy y first last bf bb bs g cm mm iv td ta Wd Wa ∧ y.1 24 29 = nI n ∧ (∀ i, i < n → y.2.2.1 41 i &&& 255 = nI (D i) ∧ (y.2.2.1 41 i = 0 ↔ D i = 0)) ∧ dOk D n ∧ (∀ i, i < 12288 → y.2.2.1 32 i = Q i) ∧ (∀ i, i < 12288 → cfOk (i % 64) (Q i)) ∧ zNl g cm mm first last bf 0 Q
section
variable {X : px_X} {b B : Nat} {w0 w1 : px_W} {y y' : rg_S} {D : Nat → Nat} {n mm i j u first last bf bb iv : Nat} {bs cm td ta : Nat → Nat} {Wd Wa : Nat → zT} {a : zS} {g : gG} {Q : Nat → Int32}
theorem m_rkeep : fX13_read X (rg_p lM b w0 y) (b + 24) = fX13_read_27 X (b + 24) (rg_p lM b w0 (rg_wA y 33 (fU 12288 (fun i => vp_nar .short (y.2.2.1 32 i)) (y.2.2.1 33)))) := by
  unfold fX13_read
  have e := rg_lpF (F := fun M (s : Int32 × rg_S) => fX13_read_2 X M (b + 24) s.1 (rg_p lM b w0 s.2)) 12288 (fun i => (nI i, rg_wA y 33 (fU i (fun i => vp_nar .short (y.2.2.1 32 i)) (y.2.2.1 33)))) (r := fX13_read_27 X (b + 24) (rg_p lM b w0 (rg_wA y 33 (fU 12288 (fun i => vp_nar .short (y.2.2.1 32 i)) (y.2.2.1 33))))) (by omega) ?_ ?_
  · dsimp only at e
    rw [fU_0, wA_id rfl] at e
    exact e
  · intro M i hi
    dsimp only
    rw [fX13_read_2.eq_2]
    refine ei_n (nI_ge (b := 12288) (by omega) (by omega)) (ob_v (rg_C rfl rfl) (ob_v (rg_C rfl rfl) (ob_v (rg_A rfl (by decide) _ hi (by decide)) (ob_v (rg_sA _ rfl (by decide) _ _ hi (by decide)) ?_))))
    rw [wA_s, wA_n _ _ (by decide), wA_wA, nI_1, ← fU_s i (fun i => vp_nar .short (y.2.2.1 32 i)) (y.2.2.1 33)]
  · intro M
    dsimp only
    rw [fX13_read_2.eq_2]
    exact ei_t (by decide) rfl
theorem m_rback {f : Nat} (hf : y.1 24 46 = nI f) (h0 : 0 < f) (h9 : f < 100) : ∃ y', fX13_read_53 X FU (b + 24) 0 (rg_p lM b w0 y) = some (nI f, rg_p lM b w0 y') ∧ FYrd y y' := by
  refine ⟨_, ?_, FYrd.w32 (fU 12288 (fun i => vp_nar .short (y.2.2.1 33 i)) (y.2.2.1 32))⟩
  have e := rg_lpF (F := fun M (s : Int32 × rg_S) => fX13_read_53 X M (b + 24) s.1 (rg_p lM b w0 s.2)) 12288 (fun i => (nI i, rg_wA y 32 (fU i (fun i => vp_nar .short (y.2.2.1 33 i)) (y.2.2.1 32)))) (r := some (nI f, rg_p lM b w0 (rg_wA y 32 (fU 12288 (fun i => vp_nar .short (y.2.2.1 33 i)) (y.2.2.1 32))))) (by omega) ?_ ?_
  · dsimp only at e
    rw [fU_0, wA_id rfl] at e
    exact e
  · intro M i hi
    dsimp only
    rw [fX13_read_53.eq_2]
    refine ei_n (nI_ge (b := 12288) (by omega) (by omega)) (ob_v (rg_I rfl rfl) ?_)
    rw [wA_1, hf]
    refine ei_n (nI_nle h0 (by omega)) (ob_v (rg_C rfl rfl) (ob_v (rg_C rfl rfl) (ob_v (rg_A rfl (by decide) _ hi (by decide)) (ob_v (rg_sA _ rfl (by decide) _ _ hi (by decide)) ?_))))
    rw [wA_s, wA_n _ _ (by decide), wA_wA, nI_1, ← fU_s i (fun i => vp_nar .short (y.2.2.1 33 i)) (y.2.2.1 32)]
  · intro M
    dsimp only
    rw [fX13_read_53.eq_2]
    refine ei_t (by decide) ?_
    unfold fX13_read_85
    refine ob_v (rg_I rfl rfl) ?_
    rw [wA_1, hf]
theorem m_read (hg : gOk g) (hm : mOk g cm mm) (hb : gBs g g.2.2.1 ≤ 192) (hff : first = 0 → 0 < last → bf = 0) (hiv : iv < 65536) (R : rdY y first last bf bb bs g cm mm iv td ta Wd Wa D n Q) : ∃ y', fX13_read X (rg_p lM b w0 y) (b + 24) = some (match zSc D n Wd Wa first last bf bb g cm mm iv Q 0 with | .inl f => nI f | .inr _ => 0, rg_p lM b w0 y') ∧ FYrd y y' ∧ ((∃ f, zSc D n Wd Wa first last bf bb g cm mm iv Q 0 = .inl f ∧ 0 < f ∧ f < 100) ∨ ∃ a, zSc D n Wd Wa first last bf bb g cm mm iv Q 0 = .inr a ∧ zOk a ∧ ∀ i, i < 12288 → y'.2.2.1 32 i = a.2.2.2 i) := by
  obtain ⟨C, h29, hby, hd, hQ, hQ2, hN⟩ := R
  generalize hy1 : rg_wA y 33 (fU 12288 (fun i => vp_nar .short (y.2.2.1 32 i)) (y.2.2.1 33)) = y1
  have F1 : FYrd y y1 := by
    rw [← hy1]
    exact FYrd.w33 _
  generalize hy2 : rg_wI (rg_wI (rg_wI (rg_wI y1 24 46 0) 24 43 0) 24 45 0) 24 38 0 = y2
  have F2 : zFY y1 y2 := by
    rw [← hy2]
    exact (zFY.wI (k := 46) (by omega)).trans ((zFY.wI (k := 43) (by omega)).trans ((zFY.wI (k := 45) (by omega)).trans (zFY.wI (k := 38) (by omega))))
  have C1 : zCy y1 first last bf bb bs g cm mm iv td ta Wd Wa := by
    rw [← hy1]
    exact C
  obtain ⟨hh, ehh⟩ := ex_nI (y.1 24 44)
  have h32 : ∀ i, i < 12288 → y2.2.2.1 32 i = Q i := by
    intro i hi
    rw [← hy2, wI_2, wI_2, wI_2, wI_2, ← hy1, wA_n _ _ (by decide)]
    exact hQ i hi
  have hp : ∃ p : Nat → Int, ∀ c, c < 4 → y2.2.2.1 44 c = iI (p c) := ⟨fun c => (y2.2.2.1 44 c).toInt, fun c _ => (Int32.ofInt_toInt _).symm⟩
  obtain ⟨p, hp⟩ := hp
  have y0 : yR y2 D n (0, 0, hh) := by
    refine ⟨?_, ?_, ?_, ?_, ?_, ?_, hd, bnd_0, Nat.zero_le _, Nat.zero_le _, fun e => absurd e (by show ¬ 1 ≤ 0; decide)⟩
    · rw [← hy2, wI_n _ _ (by omega), wI_n _ _ (by omega), wI_s]; rfl
    · rw [← hy2, wI_n _ _ (by omega), wI_n _ _ (by omega), wI_n _ _ (by omega), wI_n _ _ (by omega), ← hy1]; exact ehh
    · rw [← hy2, wI_n _ _ (by omega), wI_s]; rfl
    · rw [← hy2, wI_n _ _ (by omega), wI_n _ _ (by omega), wI_n _ _ (by omega), wI_s]
    · rw [F2.1 _ _ (by omega), ← hy1]; exact h29
    · intro i hi
      rw [F2.2.2.1 41 (by omega) (by omega), ← hy1, wA_n _ _ (by decide)]
      exact hby i hi
  have h38 : y2.1 24 38 = nI 0 := by rw [← hy2, wI_s]; rfl
  have ul := uU_lt hg hm
  have ok0 : zOk ((0, 0, hh), 0, (fun _ => 0), Q) := ⟨by show 0 < 65536; decide, fun _ => by show (0 : Int).natAbs ≤ 1024; decide, hQ2⟩
  have C2 := C1.f F2
  obtain ⟨y3, e3, F3, o3⟩ := m_us (X := X) (b := b) (w0 := w0) (D := D) (n := n) hg hm hb hff hiv (uU g cm mm) 0 FU y2 ((0, 0, hh), 0, (fun _ => 0), Q) (by omega) (by unfold FU; omega) C2 ⟨p, ⟨y0, h38, hp, h32⟩, fun e => absurd rfl e⟩ ok0 ⟨fun _ => rfl, hN⟩ (fun _ => rfl)
  have hz := zSc_h (D := D) (n := n) (Wd := Wd) (Wa := Wa) (bf := bf) (b := bb) (iv := iv) (Q := Q) (h := hh) hg hm C.1.2.2.2.2.1
  rw [← hz]
  have F := F1.trans ((F2.trans F3).s)
  have st : ∀ r, fX13_read_53 X FU (b + 24) 0 (rg_p lM b w0 y3) = r → fX13_read X (rg_p lM b w0 y) (b + 24) = r := by
    intro r hr
    rw [m_rkeep, hy1]
    unfold fX13_read_27
    refine ob_v (rg_pI rfl rfl _) (ob_v (rg_pI rfl rfl _) (ob_v (rg_pI rfl rfl _) (ob_v (rg_pI rfl rfl _) (ob_v (rg_O rfl) ?_))))
    rw [hy2]
    refine ob_v (v := rg_p lM b w0 y3) ?_ hr
    unfold fX13_readAll
    rw [Nat.zero_sub, Nat.zero_div] at e3
    exact e3
  rcases o3 with ⟨f, o1, o2, o4, o5⟩ | ⟨a, o1, o2, o4, o5⟩
  · have o1 : zSc D n Wd Wa first last bf bb g cm mm iv Q hh = .inl f := o1
    obtain ⟨y4, e4, F4⟩ := m_rback (X := X) (b := b) (w0 := w0) o5 o2 o4
    rw [o1]
    exact ⟨y4, st _ e4, F.trans F4, Or.inl ⟨f, rfl, o2, o4⟩⟩
  · have o1 : zSc D n Wd Wa first last bf bb g cm mm iv Q hh = .inr a := o1
    rw [o1]
    refine ⟨y3, st _ ?_, F, Or.inr ⟨a, rfl, o4, o5⟩⟩
    rw [show FU = 3999999 + 1 from rfl, fX13_read_53.eq_2]
    refine ei_n (by decide) (ob_v (rg_I rfl rfl) (ei_t (by rw [o2]; decide) ?_))
    unfold fX13_read_85
    refine ob_v (rg_I rfl rfl) ?_
    rw [o2]
end
