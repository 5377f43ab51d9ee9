/-! the rows of a script: the reference -/
section
variable {X : px_X} {b B : Nat} {w0 w1 : px_W} {y y' : rg_S} {iv : Nat} {p : scP} {L : List Int32} {g : gG} {Z : Nat → Int}
theorem mFr.z (h : mFr y g) (F : FYz y y') : mFr y' g := by
  unfold mFr at *
  rw [F.1 0 18 (by omega) (by omega) (by omega), F.1 0 19 (by omega) (by omega) (by omega), F.1 0 20 (by omega) (by omega) (by omega), F.2.2 58 (by omega) (by omega) (by omega), F.2.2 59 (by omega) (by omega) (by omega)]
  exact h
theorem m_each (hg : gOk g) (hb : gBs g g.2.2.1 ≤ 192) (hZ : ∀ i, i < 64 * gBs g g.2.2.1 → -1024 ≤ Z i ∧ Z i ≤ 1023) (hp : pOk p) (hm : pM p 1) (hiv : iv < 65536) (V : yZv y g Z iv) (h : yQ y L) : ∃ y', fX15_saveEach X (rg_p lM b w0 y) (b + 0) (nI p.1) (nI p.2.1) (nI p.2.2.1) (nI p.2.2.2) = some (rg_p lM b w0 y') ∧ yZv y' g Z iv ∧ yQ y' (L ++ eachL g Z iv p g.2.2.1) ∧ FYz y y' := by
  have h4 := hg.2.2.2.2.2.1
  have lp : ∀ (k M c : Nat) (y : rg_S), c + k = g.2.2.1 → k < M → yZv y g Z iv → yQ y (L ++ eachL g Z iv p c) → ∃ y', fX15_saveEach_3 X M (b + 0) (nI p.1) (nI p.2.1) (nI p.2.2.1) (nI p.2.2.2) (nI c) (rg_p lM b w0 y) = some (rg_p lM b w0 y') ∧ yZv y' g Z iv ∧ yQ y' (L ++ eachL g Z iv p g.2.2.1) ∧ FYz y y' := by
    intro k
    induction k with
    | zero =>
      intro M c y hc hM V h
      obtain rfl : c = g.2.2.1 := by omega
      obtain ⟨M, rfl⟩ : ∃ M', M = M' + 1 := ⟨M - 1, by omega⟩
      refine ⟨y, ?_, V, h, FYz.rfl⟩
      rw [fX15_saveEach_3.eq_2]
      refine ob_v (rg_I rfl rfl) ?_
      rw [V.1]
      exact ei_t (nI_le (Nat.le_refl _) (by omega)) rfl
    | succ k ih =>
      intro M c y hc hM V h
      obtain ⟨M, rfl⟩ : ∃ M', M = M' + 1 := ⟨M - 1, by omega⟩
      obtain ⟨s1, _⟩ := one_ok (g := g) (c := c) (by omega)
      obtain ⟨y1, e1, h1, F1⟩ := m_saveScan (X := X) (b := b) (w0 := w0) (c0 := c) (m := 1) hg hb s1 hZ hp hm hiv V h
      rw [List.append_assoc, ← eachL.eq_2] at h1
      obtain ⟨y2, e2, V2, h2, F2⟩ := ih M (c + 1) y1 (by omega) (by omega) (V.z F1) h1
      refine ⟨y2, ?_, V2, h2, F1.trans F2⟩
      rw [fX15_saveEach_3.eq_2]
      refine ob_v (rg_I rfl rfl) ?_
      rw [V.1, pw_n (by omega)]
      refine ei_n (nI_ge (by omega) (by omega)) (ob_v (rg_O rfl) ?_)
      rw [show mk c 1 = 2 ^ c by unfold mk; omega] at e1
      refine ob_v e1 ?_
      rw [nI_1]
      exact e2
  unfold fX15_saveEach
  exact lp g.2.2.1 FU 0 y (by omega) (by unfold FU; omega) V (by show yQ y (L ++ []); rw [List.append_nil]; exact h)
theorem m_all (hg : gOk g) (hb : gBs g g.2.2.1 ≤ 192) (hZ : ∀ i, i < 64 * gBs g g.2.2.1 → -1024 ≤ Z i ∧ Z i ≤ 1023) (hp : pOk p) (hm : ∀ m, pM p m) (p0 : p.1 = 0) (hiv : iv < 65536) (hf : mFr y g) (V : yZv y g Z iv) (h : yQ y L) : ∃ y', fX15_saveAll X (rg_p lM b w0 y) (b + 0) (nI p.2.1) (nI p.2.2.1) (nI p.2.2.2) = some (rg_p lM b w0 y') ∧ yZv y' g Z iv ∧ yQ y' (L ++ rowL g Z iv (0, p)) ∧ FYz y y' := by
  have h4 := hg.2.2.2.2.2.1
  have h1 := hg.2.2.2.2.1
  have tb' : ∀ c, c ≤ g.2.2.1 → tgS g c ≤ 4 * c := by
    intro c
    induction c with
    | zero => intro _; exact Nat.le_refl _
    | succ c ih =>
      intro hc
      have f := hg.2.2.2.2.2.2 c (by omega)
      have : g.2.2.2.1 c * g.2.2.2.2 c ≤ 2 * 2 := Nat.mul_le_mul f.1.2 f.2.2
      have := ih (by omega)
      rw [tgS.eq_2]
      omega
  have t4 := tb' g.2.2.1 (Nat.le_refl _)
  have lp : ∀ (k M c : Nat), c + k = g.2.2.1 → k < M → fX15_saveAll_6 X M (b + 0) (nI p.2.1) (nI p.2.2.1) (nI p.2.2.2) (nI (tgS g c)) (nI c) (rg_p lM b w0 y) = fX15_saveAll_41 X (b + 0) (nI p.2.1) (nI p.2.2.1) (nI p.2.2.2) (nI (tgS g g.2.2.1)) (rg_p lM b w0 y) := by
    intro k
    induction k with
    | zero =>
      intro M c hc hM
      obtain rfl : c = g.2.2.1 := by omega
      obtain ⟨M, rfl⟩ : ∃ M', M = M' + 1 := ⟨M - 1, by omega⟩
      rw [fX15_saveAll_6.eq_2]
      refine ob_v (rg_I rfl rfl) ?_
      rw [V.1]
      exact ei_t (nI_le (Nat.le_refl _) (by omega)) rfl
    | succ k ih =>
      intro M c hc hM
      obtain ⟨M, rfl⟩ : ∃ M', M = M' + 1 := ⟨M - 1, by omega⟩
      rw [fX15_saveAll_6.eq_2]
      refine ob_v (rg_I rfl rfl) ?_
      rw [V.1]
      refine ei_n (nI_ge (by omega) (by omega)) (ob_v (rg_C rfl rfl) (ob_v (rg_A rfl (by decide) _ (by omega) (by decide)) (ob_v (rg_C rfl rfl) (ob_v (rg_A rfl (by decide) _ (by omega) (by decide)) ?_))))
      rw [hf.2.2.2.1 c (by omega), hf.2.2.2.2 c (by omega), pk_mul, nI_add, nI_1]
      exact ih M (c + 1) (by omega) (by omega)
  have st : ∀ r, fX15_saveAll_41 X (b + 0) (nI p.2.1) (nI p.2.2.1) (nI p.2.2.2) (nI (tgS g g.2.2.1)) (rg_p lM b w0 y) = r → fX15_saveAll X (rg_p lM b w0 y) (b + 0) (nI p.2.1) (nI p.2.2.1) (nI p.2.2.2) = r := by
    intro r hr
    unfold fX15_saveAll
    exact (show fX15_saveAll_6 X FU (b + 0) (nI p.2.1) (nI p.2.2.1) (nI p.2.2.2) (nI (tgS g 0)) (nI 0) _ = _ from lp g.2.2.1 FU 0 (by omega) (by unfold FU; omega)).trans hr
  unfold rowL
  by_cases tg : tgS g g.2.2.1 ≤ 10
  · rw [if_pos ⟨rfl, tg⟩]
    obtain ⟨s1, _⟩ := tg_ok hg tg
    obtain ⟨y1, e1, h1, F1⟩ := m_saveScan (X := X) (b := b) (w0 := w0) (c0 := 0) (m := g.2.2.1) hg hb s1 hZ hp (hm _) hiv V h
    have e56 : fX15_saveAll_56 X (b + 0) (nI p.2.1) (nI p.2.2.1) (nI p.2.2.2) (rg_p lM b w0 y) = some (rg_p lM b w0 y1) := by
      unfold fX15_saveAll_56
      refine ob_v (rg_I rfl rfl) ?_
      rw [V.1, pw_n (by omega), show nI (2 ^ g.2.2.1) - 1 = nI (2 ^ g.2.2.1 - 1) from pk_sub (b := 1) (Nat.one_le_two_pow)]
      rw [show mk 0 g.2.2.1 = 2 ^ g.2.2.1 - 1 by unfold mk; omega, p0] at e1
      exact ob_v (rg_O rfl) (ob_v e1 rfl)
    refine ⟨y1, st _ ?_, V.z F1, h1, F1⟩
    unfold fX15_saveAll_41
    refine ob_v (rg_I rfl rfl) ?_
    rw [V.1]
    by_cases m1 : g.2.2.1 = 1
    · exact ei_t (by rw [m1]; rfl) e56
    · exact ei_n (fun e => m1 ((nI_eq (b := 1) (by omega) (by omega)).mp e)) (ei_n (nI_nlt (a := 10) tg (by omega)) e56)
  · rw [if_neg (fun e => tg e.2)]
    have m1 : g.2.2.1 ≠ 1 := by omega
    obtain ⟨y1, e1, V1, h1, F1⟩ := m_each (X := X) (b := b) (w0 := w0) hg hb hZ hp (hm 1) hiv V h
    refine ⟨y1, st _ ?_, V1, h1, F1⟩
    unfold fX15_saveAll_41
    refine ob_v (rg_I rfl rfl) ?_
    rw [V.1]
    rw [p0] at e1
    exact ei_n (fun e => m1 ((nI_eq (b := 1) (by omega) (by omega)).mp e)) (ei_t (nI_lt (a := 10) (by omega) (by omega)) (ob_v (rg_O rfl) (ob_v e1 rfl)))
end
/-- the three scripts -/
def scrR (s : Nat) : List (Nat × scP) := if s = 0 then [(0, 0, 63, 0, 0)] else if s = 1 then [(1, 0, 63, 0, 0)] else [(0, 0, 0, 0, 1), (1, 1, 5, 0, 2), (1, 6, 63, 0, 2), (1, 1, 63, 2, 1), (0, 0, 0, 1, 0), (1, 1, 63, 1, 0)]
theorem pw1 {m : Nat} : pM (0, 63, 0, 0) m := ⟨Or.inl rfl, Or.inl ⟨rfl, rfl, rfl, rfl⟩⟩
theorem pw2 {m : Nat} : pM (0, 0, 0, 1) m := ⟨Or.inl rfl, Or.inr (Or.inl ⟨rfl, rfl⟩)⟩
theorem pw3 {m : Nat} : pM (0, 0, 1, 0) m := ⟨Or.inr rfl, Or.inr (Or.inl ⟨rfl, rfl⟩)⟩
theorem pw4 : pM (1, 5, 0, 2) 1 := ⟨Or.inl rfl, Or.inr (Or.inr ⟨Nat.le_refl _, rfl⟩)⟩
theorem pw5 : pM (6, 63, 0, 2) 1 := ⟨Or.inl rfl, Or.inr (Or.inr ⟨(show 1 ≤ 6 by decide), rfl⟩)⟩
theorem pw6 : pM (1, 63, 2, 1) 1 := ⟨Or.inr rfl, Or.inr (Or.inr ⟨Nat.le_refl _, rfl⟩)⟩
theorem pw7 : pM (1, 63, 1, 0) 1 := ⟨Or.inr rfl, Or.inr (Or.inr ⟨Nat.le_refl _, rfl⟩)⟩
theorem po1 : pOk (0, 63, 0, 0) := ⟨(show 0 ≤ 63 by decide), (show 63 ≤ 63 by decide), (show 0 ≤ 2 by decide), (show 0 ≤ 2 by decide), fun _ _ => rfl⟩
theorem po2 : pOk (0, 0, 0, 1) := ⟨(show 0 ≤ 0 by decide), (show 0 ≤ 63 by decide), (show 0 ≤ 2 by decide), (show 1 ≤ 2 by decide), fun _ _ => rfl⟩
theorem po3 : pOk (0, 0, 1, 0) := ⟨(show 0 ≤ 0 by decide), (show 0 ≤ 63 by decide), (show 1 ≤ 2 by decide), (show 0 ≤ 2 by decide), fun _ h => absurd h (show ¬ 0 < 0 by decide)⟩
theorem po4 : pOk (1, 5, 0, 2) := ⟨(show 1 ≤ 5 by decide), (show 5 ≤ 63 by decide), (show 0 ≤ 2 by decide), (show 2 ≤ 2 by decide), fun _ _ => rfl⟩
theorem po5 : pOk (6, 63, 0, 2) := ⟨(show 6 ≤ 63 by decide), (show 63 ≤ 63 by decide), (show 0 ≤ 2 by decide), (show 2 ≤ 2 by decide), fun _ _ => rfl⟩
theorem po6 : pOk (1, 63, 2, 1) := ⟨(show 1 ≤ 63 by decide), (show 63 ≤ 63 by decide), (show 2 ≤ 2 by decide), (show 1 ≤ 2 by decide), fun h _ => absurd h (show ¬ (1 : Nat) = 0 by decide)⟩
theorem po7 : pOk (1, 63, 1, 0) := ⟨(show 1 ≤ 63 by decide), (show 63 ≤ 63 by decide), (show 1 ≤ 2 by decide), (show 0 ≤ 2 by decide), fun h _ => absurd h (show ¬ (1 : Nat) = 0 by decide)⟩
theorem scr_ok (s : Nat) : rOk (scrR s) := by
  unfold scrR
  split
  · refine ⟨(show 1 ≤ 6 by decide), fun i hi => ?_⟩
    obtain rfl : i = 0 := by have : i < 1 := hi; omega
    exact ⟨(show 0 ≤ 1 by decide), po1, fun m _ => pw1⟩
  · split
    · refine ⟨(show 1 ≤ 6 by decide), fun i hi => ?_⟩
      obtain rfl : i = 0 := by have : i < 1 := hi; omega
      exact ⟨(show 1 ≤ 1 by decide), po1, fun m _ => pw1⟩
    · refine ⟨(show 6 ≤ 6 by decide), fun i hi => ?_⟩
      have n1 : ∀ m, (1 : Nat) = 0 ∨ m = 1 → m = 1 := fun m h => h.resolve_left (by decide)
      rcases (show i = 0 ∨ i = 1 ∨ i = 2 ∨ i = 3 ∨ i = 4 ∨ i = 5 by have : i < 6 := hi; omega) with rfl | rfl | rfl | rfl | rfl | rfl
      · exact ⟨(show 0 ≤ 1 by decide), po2, fun m _ => pw2⟩
      · exact ⟨(show 1 ≤ 1 by decide), po4, fun m h => by rw [n1 m h]; exact pw4⟩
      · exact ⟨(show 1 ≤ 1 by decide), po5, fun m h => by rw [n1 m h]; exact pw5⟩
      · exact ⟨(show 1 ≤ 1 by decide), po6, fun m h => by rw [n1 m h]; exact pw6⟩
      · exact ⟨(show 0 ≤ 1 by decide), po3, fun m _ => pw3⟩
      · exact ⟨(show 1 ≤ 1 by decide), po7, fun m h => by rw [n1 m h]; exact pw7⟩
theorem scr_l {s : Nat} (h : s ≤ 2) : ∃ l, px_sc[s + 1]? = some l ∧ lOk l (scrR s) := by
  rcases (show s = 0 ∨ s = 1 ∨ s = 2 by omega) with rfl | rfl | rfl
  · refine ⟨sc_SCRIPT_TOGETHER, rfl, rfl, fun i hi => ?_⟩
    obtain rfl : i = 0 := by have : i < 1 := hi; omega
    exact ⟨rfl, rfl, rfl, rfl, rfl⟩
  · refine ⟨sc_SCRIPT_ONE_BY_ONE, rfl, rfl, fun i hi => ?_⟩
    obtain rfl : i = 0 := by have : i < 1 := hi; omega
    exact ⟨rfl, rfl, rfl, rfl, rfl⟩
  · refine ⟨sc_SCRIPT_PROGRESSIVE, rfl, rfl, fun i hi => ?_⟩
    rcases (show i = 0 ∨ i = 1 ∨ i = 2 ∨ i = 3 ∨ i = 4 ∨ i = 5 by have : i < 6 := hi; omega) with rfl | rfl | rfl | rfl | rfl | rfl <;> exact ⟨rfl, rfl, rfl, rfl, rfl⟩
section
variable {X : px_X} {b B : Nat} {w0 w1 : px_W} {y y' : rg_S} {iv : Nat} {L : List Int32} {g : gG} {Z : Nat → Int}
theorem m_rows {s : Nat} (hs : s ≤ 2) (hg : gOk g) (hb : gBs g g.2.2.1 ≤ 192) (hZ : ∀ i, i < 64 * gBs g g.2.2.1 → -1024 ≤ Z i ∧ Z i ≤ 1023) (hiv : iv < 65536) (hf : mFr y g) (V : yZv y g Z iv) (h : yQ y L) : ∃ y', fX15_saveAs_296 X (b + 0) (nI s) (rg_p lM b w0 y) = fX15_saveAs_378 X (b + 0) (rg_p lM b w0 y') ∧ yZv y' g Z iv ∧ yQ y' (L ++ rowsL g Z iv (scrR s) (scrR s).length) ∧ FYz y y' := by
  rcases (show s = 0 ∨ s = 1 ∨ s = 2 by omega) with rfl | rfl | rfl
  · obtain ⟨y1, e1, V1, h1, F1⟩ := m_all (X := X) (b := b) (w0 := w0) (p := (0, 63, 0, 0)) hg hb hZ po1 (fun _ => pw1) rfl hiv hf V h
    refine ⟨y1, ?_, V1, h1, F1⟩
    unfold fX15_saveAs_296
    exact ei_t rfl (ob_v (rg_O rfl) (ob_v e1 rfl))
  · obtain ⟨y1, e1, V1, h1, F1⟩ := m_each (X := X) (b := b) (w0 := w0) (p := (0, 63, 0, 0)) hg hb hZ po1 pw1 hiv V h
    refine ⟨y1, ?_, V1, ?_, F1⟩
    · unfold fX15_saveAs_296
      exact ei_n n10 (ei_t rfl (ob_v (rg_O rfl) (ob_v e1 rfl)))
    · have : rowsL g Z iv (scrR 1) (scrR 1).length = eachL g Z iv (0, 63, 0, 0) g.2.2.1 := by
        show [] ++ rowL g Z iv (1, 0, 63, 0, 0) = _
        unfold rowL
        rw [if_neg (fun e => absurd (show (1 : Nat) = 0 from e.1) (by decide))]
        rfl
      rw [this]
      exact h1
  · have rl1 : ∀ p : scP, rowL g Z iv (1, p) = eachL g Z iv p g.2.2.1 := fun p => by
      unfold rowL
      rw [if_neg (fun e => absurd (show (1 : Nat) = 0 from e.1) (by decide))]
    obtain ⟨y1, e1, V1, h1, F1⟩ := m_all (X := X) (b := b) (w0 := w0) (p := (0, 0, 0, 1)) hg hb hZ po2 (fun _ => pw2) rfl hiv hf V h
    obtain ⟨y2, e2, V2, h2, F2⟩ := m_each (X := X) (b := b) (w0 := w0) (p := (1, 5, 0, 2)) hg hb hZ po4 pw4 hiv V1 h1
    obtain ⟨y3, e3, V3, h3, F3⟩ := m_each (X := X) (b := b) (w0 := w0) (p := (6, 63, 0, 2)) hg hb hZ po5 pw5 hiv V2 h2
    obtain ⟨y4, e4, V4, h4, F4⟩ := m_each (X := X) (b := b) (w0 := w0) (p := (1, 63, 2, 1)) hg hb hZ po6 pw6 hiv V3 h3
    obtain ⟨y5, e5, V5, h5, F5⟩ := m_all (X := X) (b := b) (w0 := w0) (p := (0, 0, 1, 0)) hg hb hZ po3 (fun _ => pw3) rfl hiv (hf.z (F1.trans (F2.trans (F3.trans F4)))) V4 h4
    obtain ⟨y6, e6, V6, h6, F6⟩ := m_each (X := X) (b := b) (w0 := w0) (p := (1, 63, 1, 0)) hg hb hZ po7 pw7 hiv V5 h5
    refine ⟨y6, ?_, V6, ?_, F1.trans (F2.trans (F3.trans (F4.trans (F5.trans F6))))⟩
    · unfold fX15_saveAs_296
      exact ei_n (by decide) (ei_n (by decide) (ob_v (rg_O rfl) (ob_v e1 (ob_v (rg_O rfl) (ob_v e2 (ob_v (rg_O rfl) (ob_v e3 (ob_v (rg_O rfl) (ob_v e4 (ob_v (rg_O rfl) (ob_v e5 (ob_v (rg_O rfl) (ob_v e6 rfl)))))))))))))
    · have : rowsL g Z iv (scrR 2) (scrR 2).length = [] ++ rowL g Z iv (0, 0, 0, 0, 1) ++ rowL g Z iv (1, 1, 5, 0, 2) ++ rowL g Z iv (1, 6, 63, 0, 2) ++ rowL g Z iv (1, 1, 63, 2, 1) ++ rowL g Z iv (0, 0, 0, 1, 0) ++ rowL g Z iv (1, 1, 63, 1, 0) := rfl
      rw [this, rl1, rl1, rl1, rl1]
      simp only [List.append_assoc, List.nil_append] at h6 ⊢
      exact h6
end
