/-! one block read, by the class and by the reference -/
def zTx (x : rg_S) (m td ta first last bf : Nat) (Wd Wa : zT) : Prop := x.2.2.1 43 m = nI td ∧ x.2.2.1 44 m = nI ta ∧ td < 4 ∧ ta < 4 ∧ (first = 0 → bf = 0 → tbOk Wd.1 Wd.2.1 Wd.2.2 ∧ wX x td Wd.1 Wd.2.1 Wd.2.2) ∧ (0 < last → tbOk Wa.1 Wa.2.1 Wa.2.2 ∧ wX x (4 + ta) Wa.1 Wa.2.1 Wa.2.2)
def zTy (y : rg_S) (c td ta first last bf : Nat) (Wd Wa : zT) : Prop := y.2.2.1 39 c = nI td ∧ y.2.2.1 40 c = nI (4 + ta) ∧ td < 4 ∧ ta < 4 ∧ (first = 0 → bf = 0 → tbOk Wd.1 Wd.2.1 Wd.2.2 ∧ rT y td Wd.1 Wd.2.1 Wd.2.2) ∧ (0 < last → tbOk Wa.1 Wa.2.1 Wa.2.2 ∧ rT y (4 + ta) Wa.1 Wa.2.1 Wa.2.2)
section
variable {X : px_X} {b B : Nat} {w0 w1 : px_W} {x x' y y' : rg_S} {D : Nat → Nat} {n d0 P mm m c first last bf bb T q td ta : Nat} {cm bs : Nat → Nat} {Wd Wa : zT} {a : zS}
theorem zTx.f (hP : isP P) (h : zTx x m td ta first last bf Wd Wa) (F : zFX P x x') : zTx x' m td ta first last bf Wd Wa := by
  have hP' := hP
  unfold isP at hP'
  obtain ⟨h1, h2, h3, h4, h5, h6⟩ := h
  exact ⟨by rw [F.2.2.1 43 (by omega) (by omega)]; exact h1, by rw [F.2.2.1 44 (by omega) (by omega)]; exact h2, h3, h4, fun e e' => ⟨(h5 e e').1, (h5 e e').2.q hP F (by omega)⟩, fun e => ⟨(h6 e).1, (h6 e).2.q hP F (by omega)⟩⟩
theorem zTy.f (h : zTy y c td ta first last bf Wd Wa) (F : zFY y y') : zTy y' c td ta first last bf Wd Wa := by
  obtain ⟨h1, h2, h3, h4, h5, h6⟩ := h
  exact ⟨by rw [F.2.2.1 39 (by omega) (by omega)]; exact h1, by rw [F.2.2.1 40 (by omega) (by omega)]; exact h2, h3, h4, fun e e' => ⟨(h5 e e').1, (h5 e e').2.q F⟩, fun e => ⟨(h6 e).1, (h6 e).2.q F⟩⟩
theorem x_b188_0 {f : Nat} {A4 A5 A6 A7 A8 : Int32} {k49 : Nat → Nat → Int32 → Int32 → px_W → Option (Int32 × px_W)} {k107 : Nat → Nat → Int32 → Int32 → Int32 → px_W → Option (Int32 × px_W)} (k : zKx x P first last bf bb) (hl : last = 0 ∨ bf = 0) (hf : x.1 95 6 = nI f) (h0 : 0 < f) (h9 : f < 100) : fX6_read_188 X k49 k107 (B + 95) (B + 49) A4 A5 A6 A7 A8 (rg_p lX B w0 x) = fX6_read_268 X k49 k107 (B + 95) (B + 49) A4 A5 A6 (rg_p lX B w0 x) := by
  have e231 : fX6_read_231 X k49 k107 (B + 95) (B + 49) A4 A5 A6 A7 A8 (rg_p lX B w0 x) = fX6_read_268 X k49 k107 (B + 95) (B + 49) A4 A5 A6 (rg_p lX B w0 x) := by
    unfold fX6_read_231
    exact ob_v k.g2 (ob_v (rg_I rfl rfl) (ei_c (fun _ => rfl) (fun _ => ob_v (rg_I rfl rfl) (ei_n (by rw [hf]; exact nI_ne0 h0 (by omega)) rfl))))
  unfold fX6_read_188
  refine ob_v k.g2 (ob_v (rg_I rfl rfl) (ei_c (fun _ => e231) (fun e => ob_v k.g2 (ob_v (rg_O rfl) (ob_v (x_isRf k.2.2.2.2.2.1 k.2.2.2.2.2.2.2.2.2.1) ?_)))))
  refine ei_t ?_ e231
  rw [if_neg]
  rcases hl with l0 | b0
  · rw [k.2.2.2.2.1, l0] at e
    exact absurd (by decide) e
  · omega
theorem x_b188 {A4 A5 A6 : Int32} {k49 : Nat → Nat → Int32 → Int32 → px_W → Option (Int32 × px_W)} {k107 : Nat → Nat → Int32 → Int32 → Int32 → px_W → Option (Int32 × px_W)} (k : zKx x P first last bf bb) (hff : first = 0 → 0 < last → bf = 0) (h : zX P cm mm D n d0 x a) (ok : zOk a) (hm : m < 4) (hT : 64 * T + 64 ≤ 12288) (ht : zTx x m td ta first last bf Wd Wa) : ∃ x', fX6_read_188 X k49 k107 (B + 95) (B + 49) A4 A5 A6 (nI m) (nI (64 * T)) (rg_p lX B w0 x) = fX6_read_268 X k49 k107 (B + 95) (B + 49) A4 A5 A6 (rg_p lX B w0 x') ∧ zFX P x x' ∧ zXo P cm mm D n d0 (if last = 0 then .inr a else if bf = 0 then zOt D n Wa first last bb (64 * T) a else zMr D n Wa first last bb (64 * T) a) x' := by
  have l6 : last ≤ 63 := k.2.2.2.2.2.2.2.2.1
  have fl : first ≤ last := k.2.2.2.2.2.2.2.1
  have b10 : bf ≤ 10 := k.2.2.2.2.2.2.2.2.2.1
  obtain ⟨h1, h2, h3, h4, h5, h6⟩ := ht
  have e4 : (4 : Int32) + nI ta = nI (4 + ta) := nI_add 4 ta
  by_cases l0 : last = 0
  · rw [if_pos l0]
    refine ⟨x, ?_, zFX.rfl, Or.inr ⟨a, rfl, ok, h⟩⟩
    have el : x.1 41 2 ≤ 0 := by rw [k.2.2.2.2.1, l0]; decide
    unfold fX6_read_188 fX6_read_231
    exact ob_v k.g2 (ob_v (rg_I rfl rfl) (ei_t el (ob_v k.g2 (ob_v (rg_I rfl rfl) (ei_t el rfl)))))
  · rw [if_neg l0]
    obtain ⟨g1, g2⟩ := h6 (by omega)
    have el : ¬ x.1 41 2 ≤ 0 := by rw [k.2.2.2.2.1]; exact nI_nle (by omega) (by omega)
    by_cases b0 : bf = 0
    · rw [if_pos b0]
      obtain ⟨x1, e1, F1, o1⟩ := x_zOt (X := X) (B := B) (w0 := w0) k hT (t := 4 + ta) (by omega) g1 g2 (by omega) h ok
      refine ⟨x1, ?_, F1, o1⟩
      unfold fX6_read_188
      refine ob_v k.g2 (ob_v (rg_I rfl rfl) (ei_n el (ob_v k.g2 (ob_v (rg_O rfl) (ob_v (x_isRf k.2.2.2.2.2.1 b10) (ei_t (if_neg (by omega)) ?_))))))
      unfold fX6_read_231
      refine ob_v k.g2 (ob_v (rg_I rfl rfl) (ei_n el (ob_v (rg_I rfl rfl) (ei_t h.1.2.2.2.1 (ob_v k.g2 (ob_v (rg_C rfl rfl) (ob_v (rg_A rfl (by decide) _ hm (by decide)) ?_)))))))
      rw [h2, e4]
      exact ob_v (rg_Q rfl (by decide) (4 + ta) (by omega) (by decide) (if_pos (by omega))) (ob_v (rg_O rfl) (ob_v e1 rfl))
    · rw [if_neg b0]
      have f1 : 1 ≤ first := by
        rcases Nat.eq_zero_or_pos first with e | e
        · exact absurd (hff e (by omega)) b0
        · exact e
      obtain ⟨x1, e1, F1, o1⟩ := x_zMr (X := X) (B := B) (w0 := w0) k f1 hT (t := 4 + ta) (by omega) g1 g2 h ok
      refine ⟨x1, ?_, F1, o1⟩
      unfold fX6_read_188
      refine ob_v k.g2 (ob_v (rg_I rfl rfl) (ei_n el (ob_v k.g2 (ob_v (rg_O rfl) (ob_v (x_isRf k.2.2.2.2.2.1 b10) (ei_n (by rw [if_pos (by omega)]; exact n10) (ob_v k.g2 (ob_v (rg_C rfl rfl) (ob_v (rg_A rfl (by decide) _ hm (by decide)) ?_)))))))))
      rw [h2, e4]
      exact ob_v (rg_Q rfl (by decide) (4 + ta) (by omega) (by decide) (if_pos (by omega))) (ob_v (rg_O rfl) (ob_v e1 rfl))
theorem x_zBlk {A4 A5 A6 : Int32} {k49 : Nat → Nat → Int32 → Int32 → px_W → Option (Int32 × px_W)} {k107 : Nat → Nat → Int32 → Int32 → Int32 → px_W → Option (Int32 × px_W)} (k : zKx x P first last bf bb) (hff : first = 0 → 0 < last → bf = 0) (h : zX P cm mm D n d0 x a) (ok : zOk a) (hm : m < mm) (m4 : mm ≤ 4) (inj : ∀ i j, i < mm → j < mm → cm i = cm j → i = j) (hT : 64 * T + 64 ≤ 12288) (ht : zTx x m td ta first last bf Wd Wa) :
    ∃ x', ((gR (rg_p lX B w0 x) (B + 95) 6 2).bind fun v120 => (gI (rg_p lX B w0 x) v120 5 1).bind fun v121 => if v121 = 0 then (gR (rg_p lX B w0 x) (B + 95) 6 2).bind fun v123 => (gR (rg_p lX B w0 x) v123 5 6).bind fun v124 => (aN (rg_p lX B w0 x) 0 v124 (nI m)).bind fun v125 => (aQ (rg_p lX B w0 x) 7 (B + 49) v125).bind fun v126 => (gO (rg_p lX B w0 x) (B + 95) 6).bind fun o127 => (fX6_readDirect X (rg_p lX B w0 x) (B + 95) (nI (64 * T)) (nI m) v126).bind fun q128 => fX6_read_188 X k49 k107 (B + 95) (B + 49) A4 A5 A6 (nI m) (nI (64 * T)) q128 else fX6_read_188 X k49 k107 (B + 95) (B + 49) A4 A5 A6 (nI m) (nI (64 * T)) (rg_p lX B w0 x)) = fX6_read_268 X k49 k107 (B + 95) (B + 49) A4 A5 A6 (rg_p lX B w0 x') ∧ zFX P x x' ∧ zXo P cm mm D n d0 (zBlk D n Wd Wa first last bf bb (cm m) T a) x' := by
  have l6 : last ≤ 63 := k.2.2.2.2.2.2.2.2.1
  have fl : first ≤ last := k.2.2.2.2.2.2.2.1
  unfold zBlk
  by_cases f0 : first = 0
  · rw [if_pos f0]
    have ht' := ht
    obtain ⟨h1, h2, h3, h4, h5, h6⟩ := ht
    obtain ⟨x1, e1, F1, o1⟩ := x_zDir (X := X) (B := B) (w0 := w0) (W := Wd) k h ok (t := td) (by omega) hm m4 inj hT (h5 f0)
    have k1 := k.f F1
    have st : ∀ r, fX6_read_188 X k49 k107 (B + 95) (B + 49) A4 A5 A6 (nI m) (nI (64 * T)) (rg_p lX B w0 x1) = r → ((gR (rg_p lX B w0 x) (B + 95) 6 2).bind fun v120 => (gI (rg_p lX B w0 x) v120 5 1).bind fun v121 => if v121 = 0 then (gR (rg_p lX B w0 x) (B + 95) 6 2).bind fun v123 => (gR (rg_p lX B w0 x) v123 5 6).bind fun v124 => (aN (rg_p lX B w0 x) 0 v124 (nI m)).bind fun v125 => (aQ (rg_p lX B w0 x) 7 (B + 49) v125).bind fun v126 => (gO (rg_p lX B w0 x) (B + 95) 6).bind fun o127 => (fX6_readDirect X (rg_p lX B w0 x) (B + 95) (nI (64 * T)) (nI m) v126).bind fun q128 => fX6_read_188 X k49 k107 (B + 95) (B + 49) A4 A5 A6 (nI m) (nI (64 * T)) q128 else fX6_read_188 X k49 k107 (B + 95) (B + 49) A4 A5 A6 (nI m) (nI (64 * T)) (rg_p lX B w0 x)) = r := by
      intro r hr
      refine ob_v k.g2 (ob_v (rg_I rfl rfl) (ei_t (by rw [k.2.2.2.1, f0]; rfl) (ob_v k.g2 (ob_v (rg_C rfl rfl) (ob_v (rg_A rfl (by decide) _ (by omega) (by decide)) ?_)))))
      rw [h1]
      exact ob_v (rg_Q rfl (by decide) td (by omega) (by decide) (if_pos (by omega))) (ob_v (rg_O rfl) (ob_v e1 hr))
    rcases o1 with ⟨f, r1, r2, r3, r4⟩ | ⟨a1, r1, r2, r3⟩
    · refine ⟨x1, st _ (x_b188_0 k1 ?_ r4 r2 r3), F1, Or.inl ⟨f, by rw [r1]; rfl, r2, r3, r4⟩⟩
      rcases Nat.eq_zero_or_pos last with e | e
      · exact Or.inl e
      · exact Or.inr (hff f0 e)
    · obtain ⟨x2, e2, F2, o2⟩ := x_b188 (X := X) (B := B) (w0 := w0) (A4 := A4) (A5 := A5) (A6 := A6) (k49 := k49) (k107 := k107) k1 hff r3 r2 (by omega) hT (ht'.f k.1 F1)
      refine ⟨x2, st _ e2, F1.trans F2, ?_⟩
      rw [r1]
      exact o2
  · rw [if_neg f0]
    obtain ⟨x2, e2, F2, o2⟩ := x_b188 (X := X) (B := B) (w0 := w0) (A4 := A4) (A5 := A5) (A6 := A6) (k49 := k49) (k107 := k107) k hff h ok (by omega) hT ht
    refine ⟨x2, ob_v k.g2 (ob_v (rg_I rfl rfl) (ei_n ?_ e2)), F2, o2⟩
    rw [k.2.2.2.1]
    exact nI_ne0 (by omega) (by omega)
/-- the reference -/
theorem m_b13_0 {f : Nat} {A1 A2 : Int32} (hf : y.1 24 46 = nI f) (h0 : 0 < f) (h9 : f < 100) : fX13_readBlock_13 X (b + 24) A1 A2 (rg_p lM b w0 y) = some (rg_p lM b w0 y) := by
  have nf : ¬ y.1 24 46 = 0 := by rw [hf]; exact nI_ne0 h0 (by omega)
  have e58 : fX13_readBlock_58 X (b + 24) A1 A2 (rg_p lM b w0 y) = some (rg_p lM b w0 y) := by
    unfold fX13_readBlock_58
    exact ob_v (rg_I rfl rfl) (ei_c (fun _ => rfl) (fun _ => ob_v (rg_I rfl rfl) (ei_n nf rfl)))
  unfold fX13_readBlock_13
  exact ob_v (rg_I rfl rfl) (ei_c (fun _ => e58) (fun _ => ob_v (rg_I rfl rfl) (ei_c (fun _ => ob_v (rg_I rfl rfl) (ei_n nf e58)) (fun _ => e58))))
theorem m_b13 (k : zKy y first last bf bb bs) (hff : first = 0 → 0 < last → bf = 0) (h : zY D n y a) (ok : zOk a) (hc : c < 4) (hq : bs c + q = T) (hT : 64 * T + 64 ≤ 12288) (ht : zTy y c td ta first last bf Wd Wa) (hr : first = 0 → a.2.1 = 0) (hz : bf = 0 → 0 < last → ∀ i, max 1 first ≤ i → i ≤ last → a.2.2.2 (64 * T + i) = 0) : ∃ y', fX13_readBlock_13 X (b + 24) (nI c) (nI q) (rg_p lM b w0 y) = some (rg_p lM b w0 y') ∧ zFY y y' ∧ zYo D n (if last = 0 then .inr a else if bf = 0 then zOt D n Wa first last bb (64 * T) a else zMr D n Wa first last bb (64 * T) a) y' := by
  have l6 : last ≤ 63 := k.2.2.2.2.2.1
  have fl : first ≤ last := k.2.2.2.2.1
  have b10 : bf ≤ 10 := k.2.2.2.2.2.2.1
  obtain ⟨h1, h2, h3, h4, h5, h6⟩ := ht
  by_cases l0 : last = 0
  · rw [if_pos l0]
    refine ⟨y, ?_, zFY.rfl, Or.inr ⟨a, rfl, ok, h⟩⟩
    have el : y.1 24 24 ≤ 0 := by rw [k.2.1, l0]; decide
    unfold fX13_readBlock_13 fX13_readBlock_58
    exact ob_v (rg_I rfl rfl) (ei_t el (ob_v (rg_I rfl rfl) (ei_t el rfl)))
  · rw [if_neg l0]
    obtain ⟨g1, g2⟩ := h6 (by omega)
    have el : ¬ y.1 24 24 ≤ 0 := by rw [k.2.1]; exact nI_nle (by omega) (by omega)
    by_cases b0 : bf = 0
    · rw [if_pos b0]
      obtain ⟨y1, e1, F1, o1⟩ := m_zOt (X := X) (b := b) (w0 := w0) k hc hq hT (t := 4 + ta) (by omega) g1 h2 g2 (by omega) h ok hr (hz b0 (by omega))
      refine ⟨y1, ?_, F1, o1⟩
      unfold fX13_readBlock_13 fX13_readBlock_52
      refine ob_v (rg_I rfl rfl) (ei_n el (ob_v (rg_I rfl rfl) (ei_t (by rw [k.2.2.1, b0]; rfl) (ob_v (rg_I rfl rfl) (ei_t h.1.2.2.2.1 (ob_v (rg_I rfl rfl) ?_))))))
      by_cases f0 : first = 0
      · refine ei_t (by rw [k.1, f0]; rfl) (ob_v (rg_O rfl) (ob_v ?_ rfl))
        rw [f0] at e1
        exact e1
      · refine ei_n (by rw [k.1]; exact nI_ne0 (by omega) (by omega)) (ob_v (rg_I rfl rfl) (ob_v (rg_O rfl) (ob_v ?_ rfl)))
        rw [Nat.max_eq_right (by omega)] at e1
        rw [k.1]
        exact e1
    · rw [if_neg b0]
      have f1 : 1 ≤ first := by
        rcases Nat.eq_zero_or_pos first with e | e
        · exact absurd (hff e (by omega)) b0
        · exact e
      obtain ⟨y1, e1, F1, o1⟩ := m_zMr (X := X) (b := b) (w0 := w0) k f1 hc hq hT (t := 4 + ta) (by omega) g1 h2 g2 h ok
      refine ⟨y1, ?_, F1, o1⟩
      unfold fX13_readBlock_13 fX13_readBlock_58
      refine ob_v (rg_I rfl rfl) (ei_n el (ob_v (rg_I rfl rfl) (ei_n (by rw [k.2.2.1]; exact nI_ne0 (by omega) (by omega)) (ob_v (rg_I rfl rfl) (ei_n el (ob_v (rg_I rfl rfl) (ei_t h.1.2.2.2.1 (ob_v (rg_O rfl) (ob_v e1 rfl)))))))))
theorem m_zBlk (k : zKy y first last bf bb bs) (hff : first = 0 → 0 < last → bf = 0) (h : zY D n y a) (ok : zOk a) (hc : c < 4) (hq : bs c + q = T) (hT : 64 * T + 64 ≤ 12288) (ht : zTy y c td ta first last bf Wd Wa) (hr : first = 0 → a.2.1 = 0) (hz : bf = 0 → 0 < last → ∀ i, max 1 first ≤ i → i ≤ last → a.2.2.2 (64 * T + i) = 0) : ∃ y', fX13_readBlock X (rg_p lM b w0 y) (b + 24) (nI c) (nI q) = some (rg_p lM b w0 y') ∧ zFY y y' ∧ zYo D n (zBlk D n Wd Wa first last bf bb c T a) y' := by
  have l6 : last ≤ 63 := k.2.2.2.2.2.1
  have fl : first ≤ last := k.2.2.2.2.1
  unfold zBlk
  by_cases f0 : first = 0
  · rw [if_pos f0]
    have ht' := ht
    obtain ⟨h1, h2, h3, h4, h5, h6⟩ := ht
    obtain ⟨y1, e1, F1, o1⟩ := m_zDir (X := X) (b := b) (w0 := w0) (W := Wd) (t := td) k h ok hc hq hT (fun e => ⟨by omega, h1, h5 f0 e⟩)
    have st : ∀ r, fX13_readBlock_13 X (b + 24) (nI c) (nI q) (rg_p lM b w0 y1) = r → fX13_readBlock X (rg_p lM b w0 y) (b + 24) (nI c) (nI q) = r := by
      intro r hr
      unfold fX13_readBlock
      exact ob_v (rg_I rfl rfl) (ei_t (by rw [k.1, f0]; rfl) (ob_v (rg_O rfl) (ob_v e1 hr)))
    rcases o1 with ⟨f, r1, r2, r3, r4⟩ | ⟨a1, r1, r2, r3⟩
    · exact ⟨y1, st _ (m_b13_0 r4 r2 r3), F1, Or.inl ⟨f, by rw [r1]; rfl, r2, r3, r4⟩⟩
    · have sa := zDir_s r1
      obtain ⟨y2, e2, F2, o2⟩ := m_b13 (X := X) (b := b) (w0 := w0) (k.f F1) hff r3 r2 hc hq hT (ht'.f F1) (fun e => sa.2.trans (hr e)) (fun e1 e2 i i1 i2 => by
        have dz : a1.2.2.2 (64 * T + i) = a.2.2.2 (64 * T + i) := zDir_o r1 (by omega)
        rw [dz]
        exact hz e1 e2 i i1 i2)
      refine ⟨y2, st _ e2, F1.trans F2, ?_⟩
      rw [r1]
      exact o2
  · rw [if_neg f0]
    obtain ⟨y2, e2, F2, o2⟩ := m_b13 (X := X) (b := b) (w0 := w0) k hff h ok hc hq hT ht hr hz
    refine ⟨y2, ?_, F2, o2⟩
    unfold fX13_readBlock
    exact ob_v (rg_I rfl rfl) (ei_n (by rw [k.1]; exact nI_ne0 (by omega) (by omega)) e2)
end
