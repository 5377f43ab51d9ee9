/-! turnBy -/
section
variable {X : px_X} {b B : Nat} {w0 w1 w : px_W} {x y : rg_S} {P Q : Nat} {g g' : gG} {F S : Nat → Int32} {m f : Nat}
/-- the class' second step: reflect if it is wanted -/
theorem x_turn2 (hs : px_st X) (h : XP x Q P g F S) (hr : rfOk g m f) : ∃ x', (∀ w0, fX11_turnBy_179 X (B + 0) (nI m) (nI f) (rg_p lX B w0 x) = some (1, rg_p lX B w0 x')) ∧ FX x x' ∧ (m = 0 ∧ f = 0 ∧ x' = x ∨ ¬ (m = 0 ∧ f = 0) ∧ XP x' P Q (gRf g m f) (rfV g (gRf g m f) m f F) S) := by
  have fm : ∀ n, n < 2 → (nI n = 0 ↔ n = 0) := fun n hn => nI_eq (b := 0) (by omega) (by omega)
  by_cases h0 : m = 0 ∧ f = 0
  · obtain ⟨rfl, rfl⟩ := h0
    exact ⟨x, fun w0 => ei_t rfl (ei_t rfl rfl), FX.rfl, Or.inl ⟨rfl, rfl, rfl⟩⟩
  · obtain ⟨x1, x', h1, h2, h3, h4⟩ := x_reflect (X := X) (B := B) hs h hr
    refine ⟨x', fun w0 => ?_, h4, Or.inr ⟨h0, h3⟩⟩
    have fin : fX11_turnBy_188 X (B + 0) (nI m) (nI f) (rg_p lX B w0 x) = some (1, rg_p lX B w0 x') := by
      unfold fX11_turnBy_188
      obtain ⟨hQ, hP, hPQ, hR, hR', ht, _⟩ := h
      have gq : gR (rg_p lX B w0 x) (B + 0) 11 4 = some (B + Q) := by rw [← hR]; exact rg_R rfl rfl
      have gp : gR (rg_p lX B w0 x) (B + 0) 11 5 = some (B + P) := by rw [← hR']; exact rg_R rfl rfl
      exact ob_v gp (ob_v gq (ob_v (rg_O hP.o) (ob_v (h1 w0) (ob_v (rg_O rfl) (ob_v (h2 w0) rfl)))))
    unfold fX11_turnBy_179
    by_cases m0 : m = 0
    · exact ei_t ((fm m hr.1).mpr m0) (ei_n (fun e => h0 ⟨m0, (fm f hr.2.1).mp e⟩) fin)
    · exact ei_n (fun e => m0 ((fm m hr.1).mp e)) fin
/-- the reference's steps behind the transposition -/
theorem gRf_11 {g : gG} (hr : rfOk g 1 1) : gRf (gRf g 1 0) 0 1 = gRf g 1 1 ∧ rfOk (gRf g 1 0) 0 1 := ⟨rfl, by decide, by decide, fun e => by omega, hr.2.2.2⟩
theorem tbv_11 (k : Nat) (v : Int32) : tbv 0 1 k (tbv 1 0 k v) = tbv 1 1 k v := by
  unfold tbv
  by_cases h1 : zg k % 2 = 1 <;> by_cases h2 : zg k / 8 % 2 = 1 <;> simp [h1, h2]
theorem rfV_11 {g : gG} (hg : gOk g) (hr : rfOk g 1 1) : ∀ i, i < 64 * gBs (gRf g 1 1) g.2.2.1 → rfV (gRf g 1 0) (gRf g 1 1) 0 1 (rfV g (gRf g 1 0) 1 0 F) i = rfV g (gRf g 1 1) 1 1 F i := by
  intro i hi
  have hc4 := hg.2.2.2.2.2.1
  have r10 : rfOk g 1 0 := ⟨by decide, by decide, hr.2.2.1, fun e => by omega⟩
  obtain ⟨ok1, ha1, hd1⟩ := gRf_ok hg r10
  obtain ⟨ok2, ha2, hd2⟩ := gRf_ok ok1 (gRf_11 hr).2
  rw [(gRf_11 hr).1] at ok2 ha2 hd2
  obtain ⟨c, q, k, hc, hq, hk, rfl⟩ := fl_in hi
  have hci := rf_in (g := gRf g 1 0) (g' := gRf g 1 1) (m := 0) (f := 1) rfl ha2 hd2 hc hq
  unfold rfV
  rw [flV_at (by omega) hq hk, flV_at (by omega) hq hk]
  have eac : gAc (gRf g 1 1) c = gAc (gRf g 1 0) c := rfl
  have edn : gDn (gRf g 1 0) c = gDn g c := rfl
  have hac := ok2.ac (c := c) hc
  have m1 := Nat.mod_lt q (show 0 < gAc (gRf g 1 1) c by omega)
  have m2 : q / gAc (gRf g 1 1) c < gDn (gRf g 1 1) c := Nat.div_lt_of_lt_mul hq
  rw [if_neg (by decide), if_pos rfl] at hci
  -- the block in the half way picture
  have eB : rfB (gRf g 1 0) (gRf g 1 1) 0 1 c q = gBs (gRf g 1 0) c + ((gDn (gRf g 1 1) c - 1 - q / gAc (gRf g 1 1) c) * gAc (gRf g 1 0) c + q % gAc (gRf g 1 1) c) := by
    unfold rfB
    rw [if_pos rfl, if_neg (by decide), Nat.add_assoc]
  have hq' : (gDn (gRf g 1 1) c - 1 - q / gAc (gRf g 1 1) c) * gAc (gRf g 1 0) c + q % gAc (gRf g 1 1) c < gAc (gRf g 1 0) c * gDn (gRf g 1 0) c := by
    rw [Nat.mul_comm (gDn (gRf g 1 1) c - 1 - q / gAc (gRf g 1 1) c)]
    exact row_lt (by rw [← eac]; exact m1) hci.2.1
  rw [eB, flV_at (by omega) hq' hk, tbv_11]
  congr 3
  unfold rfB
  have ac0 : 0 < gAc (gRf g 1 0) c := by rw [← eac]; omega
  rw [← eac, if_neg (by decide), if_pos rfl, if_pos rfl, if_pos rfl]
  rw [Nat.mul_comm (gDn (gRf g 1 1) c - 1 - q / gAc (gRf g 1 1) c) (gAc (gRf g 1 1) c), Nat.mul_add_div (by omega), Nat.div_eq_of_lt m1, Nat.add_zero, Nat.mul_add_mod, Nat.mod_eq_of_lt m1]
theorem YP.cf {F' : Nat → Int32} (h : YP y g F S) (e : ∀ i, i < 64 * gBs g g.2.2.1 → F i = F' i) : YP y g F' S := by
  obtain ⟨h1, h2, h3, h4, h5, h6⟩ := h
  exact ⟨h1, h2, h3, h4, fun i hi => by rw [← e i hi]; exact h5 i hi, h6⟩
def r6y (y : rg_S) : Prop := (∀ k, k < 64 → y.2.2.1 69 k = nI (zg k / 8) ∧ y.2.2.1 70 k = nI (zg k % 8)) ∧ ∀ k, k < 64 → y.2.2.1 71 (zg k) = nI k
theorem r6y.c {y' : rg_S} (h : r6y y) (e : FY y y') : r6y y' := by
  unfold r6y
  rw [e.2 69 (by omega), e.2 70 (by omega), e.2 71 (by omega)]
  exact h
/-- mirror(true) and mirror(false) as the kind wants them -/
theorem m_turn2 (hz : r6y y) (h : YP y g F S) (hr : rfOk g m f) {a : Nat} (ha : a < 6) (hm : m = 1 ↔ (a = 1 ∨ a = 3 ∨ a = 4)) (hf : f = 1 ↔ (a = 2 ∨ a = 4 ∨ a = 5)) : ∃ y', (∀ w0, fX15_turnBy_135 X (b + 0) (nI a) (rg_p lM b w0 y) = some (1, rg_p lM b w0 y')) ∧ FY y y' ∧ (m = 0 ∧ f = 0 ∧ y' = y ∨ ¬ (m = 0 ∧ f = 0) ∧ YP y' (gRf g m f) (rfV g (gRf g m f) m f F) S) := by
  have ea : ∀ n, n < 6 → (nI a = nI n ↔ a = n) := fun n hn => nI_eq (by omega) (by omega)
  have e1 : nI a = 1 ↔ a = 1 := ea 1 (by decide)
  have e2 : nI a = 2 ↔ a = 2 := ea 2 (by decide)
  have e3 : nI a = 3 ↔ a = 3 := ea 3 (by decide)
  have e4 : nI a = 4 ↔ a = 4 := ea 4 (by decide)
  have e5 : nI a = 5 ↔ a = 5 := ea 5 (by decide)
  have m2 := hr.1
  have f2 := hr.2.1
  -- behind mirror(true)
  have s155 : ∀ {y1 : rg_S} {g1 : gG} {F1 : Nat → Int32}, r6y y1 → YP y1 g1 F1 S → rfOk g1 0 f → ∃ y', (∀ w0, fX15_turnBy_155 X (b + 0) (nI a) (rg_p lM b w0 y1) = some (1, rg_p lM b w0 y')) ∧ FY y1 y' ∧ (f = 0 ∧ y' = y1 ∨ f = 1 ∧ YP y' (gRf g1 0 1) (rfV g1 (gRf g1 0 1) 0 1 F1) S) := by
    intro y1 g1 F1 hz1 h1 hr1
    by_cases f0 : f = 0
    · refine ⟨y1, fun w0 => ?_, FY.rfl, Or.inl ⟨f0, rfl⟩⟩
      unfold fX15_turnBy_155
      exact ei_n (fun e => by have := e2.mp e; omega) (ei_n (fun e => by have := e4.mp e; omega) (ei_n (fun e => by have := e5.mp e; omega) rfl))
    · obtain rfl : f = 1 := by omega
      obtain ⟨y', hy, hY, hF⟩ := m_mirror (X := X) (b := b) (m := 0) hz1.1 h1 hr1
      refine ⟨y', fun w0 => ?_, hF, Or.inr ⟨rfl, hY⟩⟩
      have fin : fX15_turnBy_170 X (b + 0) (rg_p lM b w0 y1) = some (1, rg_p lM b w0 y') := by
        unfold fX15_turnBy_170
        exact ob_v (rg_O rfl) (ob_v (hy w0) rfl)
      unfold fX15_turnBy_155
      have hf' := hf.mp rfl
      by_cases a2 : a = 2
      · exact ei_t (e2.mpr a2) fin
      refine ei_n (fun e => a2 (e2.mp e)) ?_
      by_cases a4 : a = 4
      · exact ei_t (e4.mpr a4) fin
      refine ei_n (fun e => a4 (e4.mp e)) (ei_t (e5.mpr (by omega)) fin)
  by_cases m0 : m = 0
  · subst m0
    obtain ⟨y', h1, h2, h3⟩ := s155 hz h ⟨by decide, f2, fun e => by omega, hr.2.2.2⟩
    refine ⟨y', fun w0 => ?_, h2, ?_⟩
    · unfold fX15_turnBy_135
      exact ei_n (fun e => by have := e1.mp e; omega) (ei_n (fun e => by have := e3.mp e; omega) (ei_n (fun e => by have := e4.mp e; omega) (h1 w0)))
    · rcases h3 with ⟨f0, e⟩ | ⟨f1, e⟩
      · exact Or.inl ⟨rfl, f0, e⟩
      · subst f1
        exact Or.inr ⟨by omega, e⟩
  · obtain rfl : m = 1 := by omega
    have r10 : rfOk g 1 0 := ⟨by decide, by decide, hr.2.2.1, fun e => by omega⟩
    obtain ⟨y1, hy, hY, hF⟩ := m_mirror (X := X) (b := b) (m := 1) hz.1 h r10
    have r01 : rfOk (gRf g 1 0) 0 f := ⟨by decide, f2, fun e => by omega, hr.2.2.2⟩
    obtain ⟨y', h1, h2, h3⟩ := s155 (hz.c hF) hY r01
    refine ⟨y', fun w0 => ?_, hF.trans h2, Or.inr ⟨by omega, ?_⟩⟩
    · have fin : fX15_turnBy_150 X (b + 0) (nI a) (rg_p lM b w0 y) = some (1, rg_p lM b w0 y') := by
        unfold fX15_turnBy_150
        exact ob_v (rg_O rfl) (ob_v (hy w0) (h1 w0))
      have hm' := hm.mp rfl
      unfold fX15_turnBy_135
      by_cases a1 : a = 1
      · exact ei_t (e1.mpr a1) fin
      refine ei_n (fun e => a1 (e1.mp e)) ?_
      by_cases a3 : a = 3
      · exact ei_t (e3.mpr a3) fin
      refine ei_n (fun e => a3 (e3.mp e)) (ei_t (e4.mpr (by omega)) fin)
    · rcases h3 with ⟨f0, e⟩ | ⟨f1, e⟩
      · subst f0
        subst e
        exact hY
      · subst f1
        exact YP.cf e (fun i hi => rfV_11 h.2.1 hr i hi)
/-- what turnBy asks -/
def tnG (t : Nat) (g : gG) : gG := if t = 1 then gTr g else g
def tnF (t : Nat) (g : gG) (F : Nat → Int32) : Nat → Int32 := if t = 1 then trV g F else F
def tnS (t : Nat) (S : Nat → Int32) : Nat → Int32 := if t = 1 then trS S else S
def rnG (m f : Nat) (g : gG) : gG := if m = 0 ∧ f = 0 then g else gRf g m f
def rnF (m f : Nat) (g : gG) (F : Nat → Int32) : Nat → Int32 := if m = 0 ∧ f = 0 then F else rfV g (gRf g m f) m f F
theorem x_t160 (hs : px_st X) (h : XP x Q P g F S) {t : Nat} (ht : t < 2) (hr : rfOk (tnG t g) m f) : ∃ x' Q' P', (∀ w0, fX11_turnBy_160 X (B + 0) (nI t) (nI m) (nI f) (rg_p lX B w0 x) = some (1, rg_p lX B w0 x')) ∧ FX x x' ∧ XP x' Q' P' (rnG m f (tnG t g)) (rnF m f (tnG t g) (tnF t g F)) (tnS t S) := by
  have fm : ∀ n, n < 2 → (nI n = 0 ↔ n = 0) := fun n hn => nI_eq (b := 0) (by omega) (by omega)
  by_cases t0 : t = 0
  · subst t0
    obtain ⟨x', h1, h2, h3⟩ := x_turn2 (X := X) (B := B) hs h hr
    rcases h3 with ⟨rfl, rfl, rfl⟩ | ⟨e, h3⟩
    · exact ⟨_, Q, P, fun w0 => ei_t rfl (h1 w0), h2, h⟩
    · refine ⟨x', P, Q, fun w0 => ei_t rfl (h1 w0), h2, ?_⟩
      unfold rnG rnF
      rw [if_neg e, if_neg e]
      exact h3
  · obtain rfl : t = 1 := by omega
    obtain ⟨x1, x2, k1, k2, k3, k4⟩ := x_transp (X := X) (B := B) hs h
    obtain ⟨x', h1, h2, h3⟩ := x_turn2 (X := X) (B := B) hs k3 hr
    have go : ∀ w0, fX11_turnBy_160 X (B + 0) (nI 1) (nI m) (nI f) (rg_p lX B w0 x) = some (1, rg_p lX B w0 x') := fun w0 => by
      obtain ⟨hQ, hP, hPQ, hR, hR', ht, _⟩ := h
      have gq : gR (rg_p lX B w0 x) (B + 0) 11 4 = some (B + Q) := by rw [← hR]; exact rg_R rfl rfl
      have gp : gR (rg_p lX B w0 x) (B + 0) 11 5 = some (B + P) := by rw [← hR']; exact rg_R rfl rfl
      unfold fX11_turnBy_160
      exact ei_n n10 (ob_v gp (ob_v gq (ob_v (rg_O hP.o) (ob_v (k1 w0) (ob_v (rg_O rfl) (ob_v (k2 w0) (h1 w0)))))))
    rcases h3 with ⟨rfl, rfl, rfl⟩ | ⟨e, h3⟩
    · exact ⟨_, P, Q, go, k4.trans h2, k3⟩
    · refine ⟨x', Q, P, go, k4.trans h2, ?_⟩
      unfold rnG rnF
      rw [if_neg e, if_neg e]
      exact h3
/-- the class' checks -/
def tcOk (g : gG) (t m f : Nat) : Prop := (m = 1 → (if t = 1 then g.2.1 / (8 * gV_ g) else g.1 / (8 * gH g)) ≠ 0) ∧ (f = 1 → (if t = 1 then g.1 / (8 * gH g) else g.2.1 / (8 * gV_ g)) ≠ 0)
theorem x_t79 (hQ : isP Q) (hR : x.2.1 0 4 = Q) (hg : gOk g) (hx : xPic x Q g) {t : Nat} (ht : t < 2) (hm : m < 2) (hf : f < 2) (w0 : px_W) : fX11_turnBy_79 X (B + 0) (nI t) (nI m) (nI f) (rg_p lX B w0 x) = fX11_turnBy_160 X (B + 0) (nI t) (nI m) (nI f) (rg_p lX B w0 x) ∧ tcOk g t m f ∨ fX11_turnBy_79 X (B + 0) (nI t) (nI m) (nI f) (rg_p lX B w0 x) = some (0, rg_p lX B w0 x) ∧ ¬ tcOk g t m f := by
  have fm : ∀ n, n < 2 ^ 31 → (nI n = 0 ↔ n = 0) := fun n hn => nI_eq (b := 0) (by omega) (by omega)
  have hgh := hg.h
  have hgv := hg.v
  have g1 := hg.2.1
  have g3 := hg.2.2.2.1
  have n8 : ∀ u, (8 : Int32) * nI u = nI (8 * u) := fun u => pk_mul 8 u
  have gq : gR (rg_p lX B w0 x) (B + 0) 11 4 = some (B + Q) := by rw [← hR]; exact rg_R rfl rfl
  have l1 : g.1 / (8 * gH g) < 2 ^ 31 := Nat.lt_of_le_of_lt (Nat.div_le_self _ _) (by omega)
  have l2 : g.2.1 / (8 * gV_ g) < 2 ^ 31 := Nat.lt_of_le_of_lt (Nat.div_le_self _ _) (by omega)
  have st : fX11_turnBy_79 X (B + 0) (nI t) (nI m) (nI f) (rg_p lX B w0 x) = if nI m = 0 then fX11_turnBy_139 X (B + 0) (nI t) (nI m) (nI f) (nI (g.1 / (8 * gH g))) (nI (g.2.1 / (8 * gV_ g))) (rg_p lX B w0 x) else if nI t = 0 then fX11_turnBy_136 X (B + 0) (nI t) (nI m) (nI f) (nI (g.1 / (8 * gH g))) (nI (g.2.1 / (8 * gV_ g))) (nI (g.1 / (8 * gH g))) (rg_p lX B w0 x) else fX11_turnBy_136 X (B + 0) (nI t) (nI m) (nI f) (nI (g.1 / (8 * gH g))) (nI (g.2.1 / (8 * gV_ g))) (nI (g.2.1 / (8 * gV_ g))) (rg_p lX B w0 x) := by
    unfold fX11_turnBy_79
    refine ob_v gq (ob_v (rg_I hQ.o rfl) (ob_v gq (ob_v (rg_I hQ.o rfl) ?_)))
    rw [hx.1.1, hx.2.1, n8]
    refine ob_v (dI_n (by omega) (by omega) (by omega)) (ob_v gq (ob_v (rg_I hQ.o rfl) (ob_v gq (ob_v (rg_I hQ.o rfl) ?_))))
    rw [hx.1.2.1, hx.2.2.1, n8]
    exact ob_v (dI_n (by omega) (by omega) (by omega)) rfl
  have s155 : ∀ v, v < 2 ^ 31 → (v ≠ 0 → fX11_turnBy_155 X (B + 0) (nI t) (nI m) (nI f) (nI v) (rg_p lX B w0 x) = fX11_turnBy_160 X (B + 0) (nI t) (nI m) (nI f) (rg_p lX B w0 x)) ∧ (v = 0 → fX11_turnBy_155 X (B + 0) (nI t) (nI m) (nI f) (nI v) (rg_p lX B w0 x) = some (0, rg_p lX B w0 x)) := fun v hv => by
    unfold fX11_turnBy_155
    exact ⟨fun e => ei_n (fun q => e ((fm v hv).mp q)) rfl, fun e => ei_t ((fm v hv).mpr e) rfl⟩
  have s139 : ((f = 1 → (if t = 1 then g.1 / (8 * gH g) else g.2.1 / (8 * gV_ g)) ≠ 0) → fX11_turnBy_139 X (B + 0) (nI t) (nI m) (nI f) (nI (g.1 / (8 * gH g))) (nI (g.2.1 / (8 * gV_ g))) (rg_p lX B w0 x) = fX11_turnBy_160 X (B + 0) (nI t) (nI m) (nI f) (rg_p lX B w0 x)) ∧ (¬ (f = 1 → (if t = 1 then g.1 / (8 * gH g) else g.2.1 / (8 * gV_ g)) ≠ 0) → fX11_turnBy_139 X (B + 0) (nI t) (nI m) (nI f) (nI (g.1 / (8 * gH g))) (nI (g.2.1 / (8 * gV_ g))) (rg_p lX B w0 x) = some (0, rg_p lX B w0 x)) := by
    unfold fX11_turnBy_139
    by_cases f0 : f = 0
    · exact ⟨fun _ => ei_t ((fm f (by omega)).mpr f0) rfl, fun e => absurd (fun q => by omega) e⟩
    · have f1 : f = 1 := by omega
      by_cases t0 : t = 0
      · rw [if_neg (by omega)]
        refine ⟨fun e => ei_n (fun q => f0 ((fm f (by omega)).mp q)) (ei_t ((fm t (by omega)).mpr t0) ((s155 _ l2).1 (e f1))), fun e => ei_n (fun q => f0 ((fm f (by omega)).mp q)) (ei_t ((fm t (by omega)).mpr t0) ((s155 _ l2).2 ?_))⟩
        exact Classical.byContradiction (fun q => e (fun _ => q))
      · rw [if_pos (by omega)]
        refine ⟨fun e => ei_n (fun q => f0 ((fm f (by omega)).mp q)) (ei_n (fun q => t0 ((fm t (by omega)).mp q)) ((s155 _ l1).1 (e f1))), fun e => ei_n (fun q => f0 ((fm f (by omega)).mp q)) (ei_n (fun q => t0 ((fm t (by omega)).mp q)) ((s155 _ l1).2 ?_))⟩
        exact Classical.byContradiction (fun q => e (fun _ => q))
  have s136 : ∀ v, v < 2 ^ 31 → (v ≠ 0 → fX11_turnBy_136 X (B + 0) (nI t) (nI m) (nI f) (nI (g.1 / (8 * gH g))) (nI (g.2.1 / (8 * gV_ g))) (nI v) (rg_p lX B w0 x) = fX11_turnBy_139 X (B + 0) (nI t) (nI m) (nI f) (nI (g.1 / (8 * gH g))) (nI (g.2.1 / (8 * gV_ g))) (rg_p lX B w0 x)) ∧ (v = 0 → fX11_turnBy_136 X (B + 0) (nI t) (nI m) (nI f) (nI (g.1 / (8 * gH g))) (nI (g.2.1 / (8 * gV_ g))) (nI v) (rg_p lX B w0 x) = some (0, rg_p lX B w0 x)) := fun v hv => by
    unfold fX11_turnBy_136
    exact ⟨fun e => ei_n (fun q => e ((fm v hv).mp q)) rfl, fun e => ei_t ((fm v hv).mpr e) rfl⟩
  rw [st]
  by_cases c2 : f = 1 → (if t = 1 then g.1 / (8 * gH g) else g.2.1 / (8 * gV_ g)) ≠ 0
  · by_cases c1 : m = 1 → (if t = 1 then g.2.1 / (8 * gV_ g) else g.1 / (8 * gH g)) ≠ 0
    · refine Or.inl ⟨?_, c1, c2⟩
      by_cases m0 : m = 0
      · exact ei_t ((fm m (by omega)).mpr m0) (s139.1 c2)
      · refine ei_n (fun q => m0 ((fm m (by omega)).mp q)) ?_
        have c1' := c1 (by omega)
        by_cases t0 : t = 0
        · rw [if_neg (by omega)] at c1'
          exact ei_t ((fm t (by omega)).mpr t0) (((s136 _ l1).1 c1').trans (s139.1 c2))
        · rw [if_pos (by omega)] at c1'
          exact ei_n (fun q => t0 ((fm t (by omega)).mp q)) (((s136 _ l2).1 c1').trans (s139.1 c2))
    · refine Or.inr ⟨?_, fun e => c1 e.1⟩
      have m1 : m = 1 := Classical.byContradiction (fun q => c1 (fun e => absurd e q))
      have c1' : (if t = 1 then g.2.1 / (8 * gV_ g) else g.1 / (8 * gH g)) = 0 := Classical.byContradiction (fun q => c1 (fun _ => q))
      refine ei_n (fun q => by have := (fm m (by omega)).mp q; omega) ?_
      by_cases t0 : t = 0
      · rw [if_neg (by omega)] at c1'
        exact ei_t ((fm t (by omega)).mpr t0) ((s136 _ l1).2 c1')
      · rw [if_pos (by omega)] at c1'
        exact ei_n (fun q => t0 ((fm t (by omega)).mp q)) ((s136 _ l2).2 c1')
  · refine Or.inr ⟨?_, fun e => c2 e.2⟩
    by_cases m0 : m = 0
    · exact ei_t ((fm m (by omega)).mpr m0) (s139.2 c2)
    · refine ei_n (fun q => m0 ((fm m (by omega)).mp q)) ?_
      by_cases t0 : t = 0
      · refine ei_t ((fm t (by omega)).mpr t0) ?_
        by_cases z : g.1 / (8 * gH g) = 0
        · exact (s136 _ l1).2 z
        · exact ((s136 _ l1).1 z).trans (s139.2 c2)
      · refine ei_n (fun q => t0 ((fm t (by omega)).mp q)) ?_
        by_cases z : g.2.1 / (8 * gV_ g) = 0
        · exact (s136 _ l2).2 z
        · exact ((s136 _ l2).1 z).trans (s139.2 c2)
/-- the kinds -/
def tnT (a : Nat) : Nat := if a = 0 ∨ a = 3 ∨ a = 5 then 1 else 0
def tnM (a : Nat) : Nat := if a = 1 ∨ a = 3 ∨ a = 4 then 1 else 0
def tnL (a : Nat) : Nat := if a = 2 ∨ a = 4 ∨ a = 5 then 1 else 0
theorem x_tdisp (ht : x.1 0 3 = 1) {a : Nat} (ha : a < 6) : fX11_turnBy X (rg_p lX B w0 x) (B + 0) (nI a) = fX11_turnBy_79 X (B + 0) (nI (tnT a)) (nI (tnM a)) (nI (tnL a)) (rg_p lX B w0 x) := by
  unfold fX11_turnBy
  refine ob_v (rg_I rfl rfl) (ei_n (by rw [ht]; decide) (ei_n (nI_pos (by omega)) (ei_t (nI_le (b := 5) (by omega) (by omega)) ?_)))
  unfold fX11_turnBy_32 fX11_turnBy_37 fX11_turnBy_53 fX11_turnBy_58 fX11_turnBy_74
  rcases (show a = 0 ∨ a = 1 ∨ a = 2 ∨ a = 3 ∨ a = 4 ∨ a = 5 by omega) with rfl | rfl | rfl | rfl | rfl | rfl
  · exact ei_t (by decide) (ei_n (by decide) (ei_n (by decide) (ei_n (by decide) (ei_n (by decide) (ei_n (by decide) (ei_n (by decide) rfl))))))
  · exact ei_n (by decide) (ei_n (by decide) (ei_n (by decide) (ei_t (by decide) (ei_n (by decide) (ei_n (by decide) (ei_n (by decide) rfl))))))
  · exact ei_n (by decide) (ei_n (by decide) (ei_n (by decide) (ei_n (by decide) (ei_n (by decide) (ei_n (by decide) (ei_t (by decide) rfl))))))
  · exact ei_n (by decide) (ei_t (by decide) (ei_n (by decide) (ei_t (by decide) (ei_n (by decide) (ei_n (by decide) (ei_n (by decide) rfl))))))
  · exact ei_n (by decide) (ei_n (by decide) (ei_n (by decide) (ei_n (by decide) (ei_n (by decide) (ei_t (by decide) (ei_n (by decide) (ei_t (by decide) rfl)))))))
  · exact ei_n (by decide) (ei_n (by decide) (ei_t (by decide) (ei_n (by decide) (ei_n (by decide) (ei_n (by decide) (ei_n (by decide) (ei_n (by decide) (ei_t (by decide) rfl))))))))
def tnOk (g : gG) (a : Nat) : Prop := a < 6 ∧ ((a = 1 ∨ a = 4 ∨ a = 5) → 8 * gH g ≤ g.1) ∧ ((a = 2 ∨ a = 3 ∨ a = 4) → 8 * gV_ g ≤ g.2.1)
theorem tn_c {a : Nat} (hg : gOk g) (ha : a < 6) : tcOk g (tnT a) (tnM a) (tnL a) ↔ tnOk g a := by
  have hgh := hg.h
  have hgv := hg.v
  have q1 : g.1 / (8 * gH g) ≠ 0 ↔ 8 * gH g ≤ g.1 := by rw [Ne, Nat.div_eq_zero_iff]; omega
  have q2 : g.2.1 / (8 * gV_ g) ≠ 0 ↔ 8 * gV_ g ≤ g.2.1 := by rw [Ne, Nat.div_eq_zero_iff]; omega
  unfold tcOk tnOk tnT tnM tnL
  rcases (show a = 0 ∨ a = 1 ∨ a = 2 ∨ a = 3 ∨ a = 4 ∨ a = 5 by omega) with rfl | rfl | rfl | rfl | rfl | rfl <;> simp [q1, q2]
theorem tn_rf {a : Nat} (hg : gOk g) (h : tnOk g a) : rfOk (tnG (tnT a) g) (tnM a) (tnL a) := by
  have hgh := hg.h
  have hgv := hg.v
  have q1 : 1 ≤ g.1 / (8 * gH g) ↔ 8 * gH g ≤ g.1 := Nat.one_le_div_iff (by omega)
  have q2 : 1 ≤ g.2.1 / (8 * gV_ g) ↔ 8 * gV_ g ≤ g.2.1 := Nat.one_le_div_iff (by omega)
  obtain ⟨ha, h1, h2⟩ := h
  have r1 : 1 ≤ (gTr g).1 / (8 * gH (gTr g)) ↔ 8 * gV_ g ≤ g.2.1 := q2
  have r2 : 1 ≤ (gTr g).2.1 / (8 * gV_ (gTr g)) ↔ 8 * gH g ≤ g.1 := q1
  rcases (show a = 0 ∨ a = 1 ∨ a = 2 ∨ a = 3 ∨ a = 4 ∨ a = 5 by omega) with rfl | rfl | rfl | rfl | rfl | rfl
  · exact ⟨by decide, by decide, fun e => absurd e (by decide), fun e => absurd e (by decide)⟩
  · exact ⟨by decide, by decide, fun e => q1.mpr (h1 (by omega)), fun e => absurd e (by decide)⟩
  · exact ⟨by decide, by decide, fun e => absurd e (by decide), fun e => q2.mpr (h2 (by omega))⟩
  · exact ⟨by decide, by decide, fun e => r1.mpr (h2 (by omega)), fun e => absurd e (by decide)⟩
  · exact ⟨by decide, by decide, fun e => q1.mpr (h1 (by omega)), fun e => q2.mpr (h2 (by omega))⟩
  · exact ⟨by decide, by decide, fun e => absurd e (by decide), fun e => r2.mpr (h1 (by omega))⟩
/-- the reference's checks and steps -/
theorem m_t108 (hz : r6y y) (h : YP y g F S) {a : Nat} (ha : a < 6) (hr : rfOk (tnG (tnT a) g) (tnM a) (tnL a)) : ∃ y', (∀ w0, fX15_turnBy_108 X (b + 0) (nI a) 1 (rg_p lM b w0 y) = some (1, rg_p lM b w0 y')) ∧ FY y y' ∧ YP y' (rnG (tnM a) (tnL a) (tnG (tnT a) g)) (rnF (tnM a) (tnL a) (tnG (tnT a) g) (tnF (tnT a) g F)) (tnS (tnT a) S) := by
  have hm : tnM a = 1 ↔ (a = 1 ∨ a = 3 ∨ a = 4) := by unfold tnM; split <;> omega
  have hf : tnL a = 1 ↔ (a = 2 ∨ a = 4 ∨ a = 5) := by unfold tnL; split <;> omega
  have ea : ∀ n, n < 6 → (nI a = nI n ↔ a = n) := fun n hn => nI_eq (by omega) (by omega)
  have e0 : nI a = 0 ↔ a = 0 := ea 0 (by decide)
  have e3 : nI a = 3 ↔ a = 3 := ea 3 (by decide)
  have e5 : nI a = 5 ↔ a = 5 := ea 5 (by decide)
  by_cases t0 : a = 0 ∨ a = 3 ∨ a = 5
  · have tt : tnT a = 1 := if_pos t0
    rw [tt] at hr ⊢
    obtain ⟨y1, k1, k2, k3⟩ := m_transp (X := X) (b := b) hz.1 hz.2 h
    obtain ⟨y', h1, h2, h3⟩ := m_turn2 (X := X) (b := b) (hz.c k3) k2 hr ha hm hf
    refine ⟨y', fun w0 => ?_, k3.trans h2, ?_⟩
    · have fin : fX15_turnBy_131 X (b + 0) (nI a) (rg_p lM b w0 y) = some (1, rg_p lM b w0 y') := by
        unfold fX15_turnBy_131
        exact ob_v (rg_O rfl) (ob_v (k1 w0) (h1 w0))
      unfold fX15_turnBy_108
      refine ei_n n10 ?_
      by_cases a0 : a = 0
      · exact ei_t (e0.mpr a0) fin
      refine ei_n (fun e => a0 (e0.mp e)) ?_
      by_cases a3 : a = 3
      · exact ei_t (e3.mpr a3) fin
      exact ei_n (fun e => a3 (e3.mp e)) (ei_t (e5.mpr (by omega)) fin)
    · unfold rnG rnF
      rcases h3 with ⟨q1, q2, rfl⟩ | ⟨e, h3⟩
      · rw [if_pos ⟨q1, q2⟩, if_pos ⟨q1, q2⟩]
        exact k2
      · rw [if_neg e, if_neg e]
        exact h3
  · have tt : tnT a = 0 := if_neg t0
    rw [tt] at hr ⊢
    obtain ⟨y', h1, h2, h3⟩ := m_turn2 (X := X) (b := b) hz h hr ha hm hf
    refine ⟨y', fun w0 => ?_, h2, ?_⟩
    · unfold fX15_turnBy_108
      exact ei_n n10 (ei_n (fun e => t0 (Or.inl (e0.mp e))) (ei_n (fun e => t0 (Or.inr (Or.inl (e3.mp e)))) (ei_n (fun e => t0 (Or.inr (Or.inr (e5.mp e)))) (h1 w0))))
    · unfold rnG rnF
      rcases h3 with ⟨q1, q2, rfl⟩ | ⟨e, h3⟩
      · rw [if_pos ⟨q1, q2⟩, if_pos ⟨q1, q2⟩]
        exact h
      · rw [if_neg e, if_neg e]
        exact h3
theorem m_tdisp (ht : y.1 0 17 = 1) (hg : gOk g) (hy : mPic y g) {a : Nat} (ha : a < 6) : fX15_turnBy X (rg_p lM b w0 y) (b + 0) (nI a) = fX15_turnBy_108 X (b + 0) (nI a) 1 (rg_p lM b w0 y) ∧ tnOk g a ∨ fX15_turnBy X (rg_p lM b w0 y) (b + 0) (nI a) = some (0, rg_p lM b w0 y) ∧ ¬ tnOk g a := by
  have hgh := hg.h
  have hgv := hg.v
  have g1 := hg.2.1
  have g3 := hg.2.2.2.1
  have n8 : ∀ u, (8 : Int32) * nI u = nI (8 * u) := fun u => pk_mul 8 u
  have key : ∀ p q : Nat, p < 2 → q < 2 → (p = 1 ↔ 8 * gH g ≤ g.1) → (q = 1 ↔ 8 * gV_ g ≤ g.2.1) → (fX15_turnBy_57 X (b + 0) (nI a) (nI p) (nI q) (rg_p lM b w0 y) = fX15_turnBy_108 X (b + 0) (nI a) 1 (rg_p lM b w0 y) ∧ tnOk g a ∨ fX15_turnBy_57 X (b + 0) (nI a) (nI p) (nI q) (rg_p lM b w0 y) = some (0, rg_p lM b w0 y) ∧ ¬ tnOk g a) := by
    intro p q hp hq ep eq
    have z : fX15_turnBy_108 X (b + 0) (nI a) 0 (rg_p lM b w0 y) = some (0, rg_p lM b w0 y) := by
      unfold fX15_turnBy_108
      exact ei_t rfl rfl
    unfold fX15_turnBy_57 fX15_turnBy_72 fX15_turnBy_76 fX15_turnBy_86 fX15_turnBy_90 fX15_turnBy_103 fX15_turnBy_107
    unfold tnOk
    rcases (show p = 0 ∨ p = 1 by omega) with rfl | rfl <;> rcases (show q = 0 ∨ q = 1 by omega) with rfl | rfl <;> rcases (show a = 0 ∨ a = 1 ∨ a = 2 ∨ a = 3 ∨ a = 4 ∨ a = 5 by omega) with rfl | rfl | rfl | rfl | rfl | rfl
    all_goals first
      | (refine Or.inl ⟨?_, by decide, by omega, by omega⟩
         first
           | exact ei_t (by decide) rfl
           | exact ei_n (by decide) (ei_t (by decide) (ei_n (by decide) rfl))
           | exact ei_n (by decide) (ei_n (by decide) (ei_t (by decide) (ei_n (by decide) rfl)))
           | exact ei_n (by decide) (ei_n (by decide) (ei_n (by decide) (ei_t (by decide) (ei_n (by decide) rfl))))
           | exact ei_n (by decide) (ei_n (by decide) (ei_n (by decide) (ei_n (by decide) (ei_t (by decide) (ei_n (by decide) rfl)))))
           | exact ei_n (by decide) (ei_n (by decide) (ei_n (by decide) (ei_n (by decide) (ei_n (by decide) (ei_t (by decide) (ei_n (by decide) (ei_n (by decide) rfl))))))))
      | (refine Or.inr ⟨?_, fun e => by omega⟩
         rw [← z]
         first
           | exact ei_n (by decide) (ei_t (by decide) (ei_t (by decide) (ei_n (by decide) (ei_n (by decide) (ei_n (by decide) rfl)))))
           | exact ei_n (by decide) (ei_n (by decide) (ei_n (by decide) (ei_t (by decide) (ei_t (by decide) (ei_n (by decide) rfl)))))
           | exact ei_n (by decide) (ei_n (by decide) (ei_n (by decide) (ei_n (by decide) (ei_t (by decide) (ei_t (by decide) (ei_n (by decide) rfl))))))
           | exact ei_n (by decide) (ei_n (by decide) (ei_n (by decide) (ei_n (by decide) (ei_n (by decide) (ei_t (by decide) (ei_t (by decide) rfl))))))
           | exact ei_n (by decide) (ei_n (by decide) (ei_n (by decide) (ei_n (by decide) (ei_n (by decide) (ei_t (by decide) (ei_n (by decide) (ei_t (by decide) rfl)))))))
           | exact ei_n (by decide) (ei_n (by decide) (ei_t (by decide) (ei_t (by decide) (ei_n (by decide) (ei_n (by decide) (ei_n (by decide) rfl)))))))
  have st : ∃ p q : Nat, p < 2 ∧ q < 2 ∧ (p = 1 ↔ 8 * gH g ≤ g.1) ∧ (q = 1 ↔ 8 * gV_ g ≤ g.2.1) ∧ fX15_turnBy X (rg_p lM b w0 y) (b + 0) (nI a) = fX15_turnBy_57 X (b + 0) (nI a) (nI p) (nI q) (rg_p lM b w0 y) := by
    have s37 : ∀ p : Nat, ∃ q : Nat, q < 2 ∧ (q = 1 ↔ 8 * gV_ g ≤ g.2.1) ∧ fX15_turnBy_37 X (b + 0) (nI a) (nI p) (rg_p lM b w0 y) = fX15_turnBy_57 X (b + 0) (nI a) (nI p) (nI q) (rg_p lM b w0 y) := by
      intro p
      by_cases h : g.2.1 < 8 * gV_ g
      · refine ⟨0, by decide, by omega, ?_⟩
        unfold fX15_turnBy_37
        refine ob_v (rg_I rfl rfl) (ob_v (rg_I rfl rfl) ?_)
        rw [hy.1.2.1, hy.2.2.1, n8]
        exact ei_t (nI_lt h (by omega)) rfl
      · refine ⟨1, by decide, by omega, ?_⟩
        unfold fX15_turnBy_37
        refine ob_v (rg_I rfl rfl) (ob_v (rg_I rfl rfl) ?_)
        rw [hy.1.2.1, hy.2.2.1, n8]
        exact ei_n (nI_nlt (by omega) (by omega)) rfl
    by_cases h : g.1 < 8 * gH g
    · obtain ⟨q, h1, h2, h3⟩ := s37 0
      refine ⟨0, q, by decide, h1, by omega, h2, ?_⟩
      unfold fX15_turnBy
      refine ob_v (rg_I rfl rfl) (ei_n (by rw [ht]; decide) (ei_n (nI_pos (by omega)) (ei_t (nI_le (b := 5) (by omega) (by omega)) (ob_v (rg_I rfl rfl) (ob_v (rg_I rfl rfl) ?_)))))
      rw [hy.1.1, hy.2.1, n8]
      exact ei_t (nI_lt h (by omega)) h3
    · obtain ⟨q, h1, h2, h3⟩ := s37 1
      refine ⟨1, q, by decide, h1, by omega, h2, ?_⟩
      unfold fX15_turnBy
      refine ob_v (rg_I rfl rfl) (ei_n (by rw [ht]; decide) (ei_n (nI_pos (by omega)) (ei_t (nI_le (b := 5) (by omega) (by omega)) (ob_v (rg_I rfl rfl) (ob_v (rg_I rfl rfl) ?_)))))
      rw [hy.1.1, hy.2.1, n8]
      exact ei_n (nI_nlt (by omega) (by omega)) h3
  obtain ⟨p, q, hp, hq, ep, eq, e⟩ := st
  rw [e]
  exact key p q hp hq ep eq
theorem o_turn (hs : px_st X) (hr : Rel x y) (a : Int32) : op2 X B b (fun w => fX11_turnBy X w (B + 0) a) (fun w => fX15_turnBy X w (b + 0) a) x y := by
  have h5 := hr.2.2.2.2.2.1
  obtain ⟨Q0, hP1, hR, h5⟩ := h5
  rcases h5 with ⟨t1, t2⟩ | ⟨t1, t2, _⟩
  · refine ⟨0, x, y, fun w0 => ?_, fun w0 => ?_, hr⟩
    · dsimp only
      unfold fX11_turnBy
      exact ob_v (rg_I rfl rfl) (ei_t t1 rfl)
    · dsimp only
      unfold fX15_turnBy
      exact ob_v (rg_I rfl rfl) (ei_t t2 rfl)
  · rcases i_place a (n := 6) (by decide) with ⟨k, hk, rfl⟩ | ha
    · obtain ⟨P, Q, g, F, S, hx, hy⟩ := hr.XP t1
      have hx' := hx
      obtain ⟨hQ, hP, hPQ, hRq, hRp, _, hg, hb, px, pc, ps⟩ := hx'
      have py := hy.2.2.2.1
      have c2 : tnT k < 2 ∧ tnM k < 2 ∧ tnL k < 2 := by unfold tnT tnM tnL; refine ⟨?_, ?_, ?_⟩ <;> split <;> omega
      by_cases ok : tnOk g k
      · obtain ⟨x', Q', P', k1, k2, k3⟩ := x_t160 (X := X) (B := B) hs hx c2.1 (tn_rf hg ok)
        have hz : r6y y := ⟨hr.2.2.2.2.2.2.2.1, hr.2.2.2.2.2.2.2.2.1⟩
        obtain ⟨y', h1, h2, h3⟩ := m_t108 (X := X) (b := b) hz hy hk (tn_rf hg ok)
        refine ⟨1, x', y', fun w0 => ?_, fun w0 => ?_, hr.pic k2 h2 k3 h3⟩
        · dsimp only
          rw [x_tdisp t1 hk]
          rcases x_t79 (X := X) (B := B) hQ hRq hg px c2.1 c2.2.1 c2.2.2 w0 with e | e
          · rw [e.1]
            exact k1 w0
          · exact absurd ((tn_c hg hk).mpr ok) e.2
        · dsimp only
          rcases m_tdisp (X := X) (b := b) (w0 := w0) t2 hg py hk with e | e
          · rw [e.1]
            exact h1 w0
          · exact absurd ok e.2
      · refine ⟨0, x, y, fun w0 => ?_, fun w0 => ?_, hr⟩
        · dsimp only
          rw [x_tdisp t1 hk]
          rcases x_t79 (X := X) (B := B) hQ hRq hg px c2.1 c2.2.1 c2.2.2 w0 with e | e
          · exact absurd ((tn_c hg hk).mp e.2) ok
          · exact e.1
        · dsimp only
          rcases m_tdisp (X := X) (b := b) (w0 := w0) t2 hg py hk with e | e
          · exact absurd e.2 ok
          · exact e.1
    · refine ⟨0, x, y, fun w0 => ?_, fun w0 => ?_, hr⟩
      · dsimp only
        unfold fX11_turnBy
        refine ob_v (rg_I rfl rfl) (ei_n (by rw [t1]; decide) ?_)
        by_cases h1 : a < 0
        · exact ei_t h1 rfl
        · refine ei_n h1 (ei_n ?_ rfl)
          have h2 := ha.resolve_left h1
          rw [i_le] at h2 ⊢
          rw [n_t (by decide)] at h2
          rw [show (5 : Int32).toInt = 5 by decide]
          omega
      · dsimp only
        unfold fX15_turnBy
        refine ob_v (rg_I rfl rfl) (ei_n (by rw [t2]; decide) ?_)
        by_cases h1 : a < 0
        · exact ei_t h1 rfl
        · refine ei_n h1 (ei_n ?_ rfl)
          have h2 := ha.resolve_left h1
          rw [i_le] at h2 ⊢
          rw [n_t (by decide)] at h2
          rw [show (5 : Int32).toInt = 5 by decide]
          omega
end
