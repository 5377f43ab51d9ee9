/-! whether a scan fits and has its tables, by the reference -/
def laY (y : rg_S) (lt : Nat → Nat) : Prop := ∀ i, i < 256 → y.2.2.1 18 i = ltI (lt i) ∧ lt i ≤ 20
theorem ltI_neg {n : Nat} (h : n < 1000000) : ltI n < 0 ↔ n = 0 := by
  have := ltI_lt (a := n) (b := 1) h (by decide)
  rw [show ltI 1 = 0 from rfl] at this
  rw [this]
  omega
theorem ltI_nn {n : Nat} (h : n < 1000000) : 0 ≤ ltI n ↔ n ≠ 0 := by
  constructor
  · intro e z
    exact absurd ((ltI_neg h).mpr z) (Int32.not_lt.mpr e)
  · intro e
    exact Int32.not_lt.mp (fun z => e ((ltI_neg h).mp z))
section
variable {X : px_X} {b B : Nat} {w0 w1 : px_W} {y y' z z' : rg_S} {c : sgC} {p i n nn : Nat} {f : sgF} {cs mb : sg4} {A1 A2 A3 A4 s0 : Int32} {lt q : Nat → Nat} {T : sgW}
/-- with a fault already nothing more is told -/
theorem m_o62_0 {cc fi la bf bb : Nat} (hc : cc < 4) (l6 : la ≤ 63) (h38 : y.1 4 38 = nI la) (h39 : y.1 4 39 = nI bf) (h40 : y.1 4 40 = nI bb) (hf : ftY y f) : ∀ (r k M : Nat), k + r = la + 1 → r < M → fX14_order_62 X M (b + 4) A2 (nI (64 * cc)) (nI k) (rg_p lM b w0 y) = some (rg_p lM b w0 y) := by
  intro r
  induction r with
  | zero =>
    intro k M hk hM
    obtain ⟨M, rfl⟩ : ∃ M', M = M' + 1 := ⟨M - 1, by omega⟩
    rw [fX14_order_62.eq_2]
    refine ob_v (rg_I rfl rfl) ?_
    rw [h38]
    exact ei_t (nI_lt (by omega) (by omega)) rfl
  | succ r ih =>
    intro k M hk hM
    obtain ⟨M, rfl⟩ : ∃ M', M = M' + 1 := ⟨M - 1, by omega⟩
    have ih := ih (k + 1) M (by omega) (by omega)
    have e136 : ∀ s0 : Int32, fX14_order_136 X (fX14_order_62 X M) (b + 4) A2 (nI (64 * cc)) (nI k) s0 (rg_p lM b w0 y) = some (rg_p lM b w0 y) := by
      intro s0
      have e157 : fX14_order_157 X (fX14_order_62 X M) (b + 4) A2 (nI (64 * cc)) (nI k) (rg_p lM b w0 y) = some (rg_p lM b w0 y) := by
        unfold fX14_order_157
        rw [nI_1]
        exact ih
      unfold fX14_order_136
      exact ei_c (fun _ => ob_v (rg_I rfl rfl) (ob_v (rg_O rfl) (ob_v (m_wr0 hf) e157))) (fun _ => e157)
    have e135 : fX14_order_135 X (fX14_order_62 X M) (b + 4) A2 (nI (64 * cc)) (nI k) (rg_p lM b w0 y) = some (rg_p lM b w0 y) := by
      unfold fX14_order_135
      exact e136 0
    rw [fX14_order_62.eq_2]
    refine ob_v (rg_I rfl rfl) ?_
    rw [h38]
    refine ei_n (nI_nlt (by omega) (by omega)) (ei_c (fun _ => rfl) (fun _ => ob_v (rg_C rfl rfl) ?_))
    rw [nI_add]
    refine ob_v (rg_A rfl (by decide) _ (by omega) (by decide)) (ei_c (fun _ => ob_v (rg_I rfl rfl) (ob_v (rg_I rfl rfl) (ei_c (fun _ => ob_v (rg_C rfl rfl) (ob_v (rg_A rfl (by decide) _ (by omega) (by decide)) (ob_v (rg_I rfl rfl) (ei_c (fun _ => e136 1) (fun _ => e135))))) (fun _ => e135)))) (fun _ => ob_v (rg_I rfl rfl) (ei_c (fun _ => e136 1) (fun _ => e136 0))))
theorem m_o62 {cc la bf bb : Nat} (hc : cc < 4) (l6 : la ≤ 63) (hb : bf ≤ 16) (hbb : bb ≤ 16) (hbf : bf = 0 ∨ bf = bb + 1) (p1 : 1 ≤ p) (p2 : p ≤ 20000) (hn : A2 ≠ 0) (h4 : y.1 4 4 = 0) (h6 : y.1 4 6 = nI p) (h38 : y.1 4 38 = nI la) (h39 : y.1 4 39 = nI bf) (h40 : y.1 4 40 = nI bb) (hl : laY y lt) : ∀ (r k M : Nat), k + r = la + 1 → r < M → ((∀ j, j < 64 → k ≤ j → j ≤ la → lt (64 * cc + j) = (if bf = 0 then 0 else bf + 1)) ∧ fX14_order_62 X M (b + 4) A2 (nI (64 * cc)) (nI k) (rg_p lM b w0 y) = some (rg_p lM b w0 y)) ∨ (¬ (∀ j, j < 64 → k ≤ j → j ≤ la → lt (64 * cc + j) = (if bf = 0 then 0 else bf + 1)) ∧ ∃ y', FYq y y' ∧ ftY y' (6, p - 1) ∧ fX14_order_62 X M (b + 4) A2 (nI (64 * cc)) (nI k) (rg_p lM b w0 y) = some (rg_p lM b w0 y')) := by
  intro r
  induction r with
  | zero =>
    intro k M hk hM
    obtain ⟨M, rfl⟩ : ∃ M', M = M' + 1 := ⟨M - 1, by omega⟩
    refine Or.inl ⟨fun j _ a b => by omega, ?_⟩
    rw [fX14_order_62.eq_2]
    refine ob_v (rg_I rfl rfl) ?_
    rw [h38]
    exact ei_t (nI_lt (by omega) (by omega)) rfl
  | succ r ih =>
    intro k M hk hM
    obtain ⟨M, rfl⟩ : ∃ M', M = M' + 1 := ⟨M - 1, by omega⟩
    have ih := ih (k + 1) M (by omega) (by omega)
    have hk2 := hl (64 * cc + k) (by omega)
    have start : ∀ z, (if 0 ≤ ltI (lt (64 * cc + k)) then (if nI bf = nI (bb + 1) then (if ltI (lt (64 * cc + k)) = nI bf then fX14_order_136 X (fX14_order_62 X M) (b + 4) A2 (nI (64 * cc)) (nI k) 1 (rg_p lM b w0 y) else fX14_order_136 X (fX14_order_62 X M) (b + 4) A2 (nI (64 * cc)) (nI k) 0 (rg_p lM b w0 y)) else fX14_order_136 X (fX14_order_62 X M) (b + 4) A2 (nI (64 * cc)) (nI k) 0 (rg_p lM b w0 y)) else if nI bf = 0 then fX14_order_136 X (fX14_order_62 X M) (b + 4) A2 (nI (64 * cc)) (nI k) 1 (rg_p lM b w0 y) else fX14_order_136 X (fX14_order_62 X M) (b + 4) A2 (nI (64 * cc)) (nI k) 0 (rg_p lM b w0 y)) = z → fX14_order_62 X (M + 1) (b + 4) A2 (nI (64 * cc)) (nI k) (rg_p lM b w0 y) = z := by
      intro z hz
      rw [fX14_order_62.eq_2]
      refine ob_v (rg_I rfl rfl) ?_
      rw [h38]
      refine ei_n (nI_nlt (by omega) (by omega)) (ei_n hn (ob_v (rg_C rfl rfl) ?_))
      rw [nI_add]
      refine ob_v (rg_A rfl (by decide) _ (by omega) (by decide)) ?_
      rw [hk2.1]
      by_cases c1 : 0 ≤ ltI (lt (64 * cc + k))
      · rw [if_pos c1] at hz
        refine ei_t c1 (ob_v (rg_I rfl rfl) (ob_v (rg_I rfl rfl) ?_))
        rw [h39, h40, nI_1]
        by_cases c2 : nI bf = nI (bb + 1)
        · rw [if_pos c2] at hz
          refine ei_t c2 (ob_v (rg_C rfl rfl) (ob_v (rg_A rfl (by decide) _ (by omega) (by decide)) (ob_v (rg_I rfl rfl) ?_)))
          rw [hk2.1, h39]
          exact hz
        · rw [if_neg c2] at hz
          exact ei_n c2 hz
      · rw [if_neg c1] at hz
        refine ei_n c1 (ob_v (rg_I rfl rfl) ?_)
        rw [h39]
        exact hz
    have yes : fX14_order_136 X (fX14_order_62 X M) (b + 4) A2 (nI (64 * cc)) (nI k) 1 (rg_p lM b w0 y) = fX14_order_62 X M (b + 4) A2 (nI (64 * cc)) (nI (k + 1)) (rg_p lM b w0 y) := by
      unfold fX14_order_136 fX14_order_157
      rw [nI_1]
      exact ei_n (by decide) rfl
    obtain ⟨y2, e2, F2, f1, f2⟩ := m_sw (X := X) (b := b) (w0 := w0) (y := y) (f := 6) (q := p - 1) h4
    have ft : ftY y2 (6, p - 1) := ftY.i f1 f2 (by decide) (by decide) (by omega)
    have no : fX14_order_136 X (fX14_order_62 X M) (b + 4) A2 (nI (64 * cc)) (nI k) 0 (rg_p lM b w0 y) = some (rg_p lM b w0 y2) := by
      unfold fX14_order_136 fX14_order_157
      refine ei_t rfl (ob_v (rg_I rfl rfl) (ob_v (rg_O rfl) ?_))
      rw [h6, show nI p - 1 = nI (p - 1) from pk_sub (b := 1) p1]
      refine ob_v e2 ?_
      rw [nI_1]
      exact m_o62_0 (fi := 0) hc l6 (by rw [F2.1 _ _ (by omega)]; exact h38) (by rw [F2.1 _ _ (by omega)]; exact h39) (by rw [F2.1 _ _ (by omega)]; exact h40) ft r (k + 1) M (by omega) (by omega)
    by_cases d : lt (64 * cc + k) = (if bf = 0 then 0 else bf + 1)
    · have e : (∀ j, j < 64 → k ≤ j → j ≤ la → lt (64 * cc + j) = (if bf = 0 then 0 else bf + 1)) ↔ (∀ j, j < 64 → k + 1 ≤ j → j ≤ la → lt (64 * cc + j) = (if bf = 0 then 0 else bf + 1)) := by
        refine ⟨fun h j a b => h j a (by omega), fun h j a b => ?_⟩
        rcases Nat.eq_or_lt_of_le b with z | z
        · rw [← z]
          exact fun _ => d
        · exact h j a z
      have st : fX14_order_62 X (M + 1) (b + 4) A2 (nI (64 * cc)) (nI k) (rg_p lM b w0 y) = fX14_order_62 X M (b + 4) A2 (nI (64 * cc)) (nI (k + 1)) (rg_p lM b w0 y) := by
        by_cases b0 : bf = 0
        · rw [if_pos b0] at d
          exact start _ (ei_n (fun z => (ltI_nn (by omega)).mp z d) (ei_t (by rw [b0]; rfl) yes))
        · rw [if_neg b0] at d
          exact start _ (ei_t ((ltI_nn (by omega)).mpr (by omega)) (ei_t (by rw [hbf.resolve_left b0]) (ei_t (by rw [d]; rfl) yes)))
      rw [st, e]
      exact ih
    · refine Or.inr ⟨fun z => d (z k (by omega) (Nat.le_refl _) (by omega)), y2, F2, ft, start _ ?_⟩
      by_cases l0 : lt (64 * cc + k) = 0
      · have b0 : bf ≠ 0 := fun z => d (by rw [if_pos z]; exact l0)
        exact ei_n (fun z => (ltI_nn (by omega)).mp z l0) (ei_n (nI_ne0 (by omega) (by omega)) no)
      · refine ei_t ((ltI_nn (by omega)).mpr l0) ?_
        by_cases b0 : bf = 0
        · exact ei_n (fun z => by have := (nI_eq (by omega) (by omega)).mp z; omega) no
        · refine ei_t (by rw [hbf.resolve_left b0]) (ei_n (fun z => d ?_) no)
          rw [if_neg b0]
          exact (ltI_eq (b := bf + 1) (by omega) (by omega)).mp z
theorem m_ft {kd fi la bf bb : Nat} (hkd : kd = 192 ∨ kd = 194) (nn4 : nn ≤ 4) (p1 : 1 ≤ p) (h : kY y c p) (h30 : y.1 4 30 = nI nn) (h37 : y.1 4 37 = nI fi) (h38 : y.1 4 38 = nI la) (h39 : y.1 4 39 = nI bf) (h40 : y.1 4 40 = nI bb) (fl : fi ≤ la) (l6 : la ≤ 63) (hb : bf ≤ 16) (hbb : bb ≤ 13) (hbf : bf = 0 ∨ bf = bb + 1) (hs0 : kd = 192 → bf = 0) (hsq : kd ≠ 194 → ∀ cc j, j < 64 → lt (64 * cc) = 0 → lt (64 * cc + j) = 0) (hm : mmY y nn mb) (hm4 : ∀ i, i < nn → (mb i).1 < 4 ∧ (mb i).2.2.2 ≤ 16384) (hl : laY y lt) : ∀ (r i M : Nat), i + r = nn → r + 1 < M → (∃ f y', sgFt kd fi la bf lt mb (p - 1) r i = .inl f ∧ FYq y y' ∧ ftY y' f ∧ fX14_readScan_475 X M (b + 4) (if kd = 194 then 1 else 0) (nI i) (rg_p lM b w0 y) = some (rg_p lM b w0 y')) ∨ (sgFt kd fi la bf lt mb (p - 1) r i = .inr () ∧ fX14_readScan_475 X M (b + 4) (if kd = 194 then 1 else 0) (nI i) (rg_p lM b w0 y) = fX14_readScan_504 X (b + 4) (rg_p lM b w0 y)) := by
  have hL := h.2.2.2.2.2.1
  intro r
  induction r with
  | zero =>
    intro i M hi hM
    obtain ⟨M, rfl⟩ : ∃ M', M = M' + 1 := ⟨M - 1, by omega⟩
    refine Or.inr ⟨rfl, ?_⟩
    rw [fX14_readScan_475.eq_2]
    refine ob_v (rg_I rfl rfl) ?_
    rw [h30]
    exact ei_t (nI_le (by omega) (by omega)) rfl
  | succ r ih =>
    intro i M hi hM
    obtain ⟨M, rfl⟩ : ∃ M', M = M' + 1 := ⟨M - 1, by omega⟩
    obtain ⟨M0, hM0⟩ : ∃ M', M = M' + 1 := ⟨M - 1, by omega⟩
    have ih := ih (i + 1) M (by omega) (by omega)
    have mi := hm i (by omega)
    have m4 := hm4 i (by omega)
    have l0 := hl (64 * (mb i).1) (by omega)
    generalize hpr : (if kd = 194 then (1 : Int32) else 0) = pr at *
    have start : ∀ (y1 : rg_S), fX14_order X (rg_p lM b w0 y) (b + 4) (nI i) pr = some (rg_p lM b w0 y1) → fX14_readScan_475 X (M + 1) (b + 4) pr (nI i) (rg_p lM b w0 y) = fX14_readScan_475 X M (b + 4) pr (nI (i + 1)) (rg_p lM b w0 y1) := by
      intro y1 ho
      rw [fX14_readScan_475.eq_2]
      refine ob_v (rg_I rfl rfl) ?_
      rw [h30]
      refine ei_n (nI_ge (by omega) (by omega)) (ob_v (rg_I rfl rfl) (ei_t h.2.2.2.1 (ob_v (rg_O rfl) (ob_v ho ?_))))
      rw [nI_1]
    have fault : ∀ (y1 : rg_S) (f : sgF), fX14_order X (rg_p lM b w0 y) (b + 4) (nI i) pr = some (rg_p lM b w0 y1) → ftY y1 f → fX14_readScan_475 X (M + 1) (b + 4) pr (nI i) (rg_p lM b w0 y) = some (rg_p lM b w0 y1) := by
      intro y1 f ho hf
      rw [start y1 ho, hM0]
      exact m_s475_0 hf
    obtain ⟨y2, e2, F2, f1, f2⟩ := m_sw (X := X) (b := b) (w0 := w0) (y := y) (f := 7) (q := (mb i).2.2.2) h.2.2.2.1
    have ft2 : ftY y2 (7, (mb i).2.2.2) := ftY.i f1 f2 (by decide) (by decide) (by omega)
    have e42 : fX14_order_42 X (b + 4) (nI i) pr (nI (64 * (mb i).1)) (rg_p lM b w0 y) = some (rg_p lM b w0 y2) := by
      unfold fX14_order_42 fX14_order_56
      refine ob_v (rg_C rfl rfl) (ob_v (rg_A rfl (by decide) _ (by omega) (by decide)) (ob_v (rg_O rfl) ?_))
      rw [mi.2.2.2]
      refine ob_v e2 (ob_v (rg_I rfl rfl) ?_)
      rw [show y2.1 4 37 = nI fi by rw [F2.1 _ _ (by omega)]; exact h37]
      exact m_o62_0 (fi := fi) (bf := bf) (bb := bb) m4.1 l6 (by rw [F2.1 _ _ (by omega)]; exact h38) (by rw [F2.1 _ _ (by omega)]; exact h39) (by rw [F2.1 _ _ (by omega)]; exact h40) ft2 (la + 1 - fi) fi FU (by omega) (by unfold FU; omega)
    have e56 : ∀ z, fX14_order_62 X FU (b + 4) pr (nI (64 * (mb i).1)) (nI fi) (rg_p lM b w0 y) = z → fX14_order_56 X (b + 4) pr (nI (64 * (mb i).1)) (rg_p lM b w0 y) = z := by
      intro z hz
      unfold fX14_order_56
      refine ob_v (rg_I rfl rfl) ?_
      rw [h37]
      exact hz
    have row : ∀ z, (if pr = 0 then (if ltI (lt (64 * (mb i).1)) < 0 then fX14_order_56 X (b + 4) pr (nI (64 * (mb i).1)) (rg_p lM b w0 y) else fX14_order_42 X (b + 4) (nI i) pr (nI (64 * (mb i).1)) (rg_p lM b w0 y)) else if nI fi ≤ 0 then fX14_order_56 X (b + 4) pr (nI (64 * (mb i).1)) (rg_p lM b w0 y) else if 0 ≤ ltI (lt (64 * (mb i).1)) then fX14_order_56 X (b + 4) pr (nI (64 * (mb i).1)) (rg_p lM b w0 y) else fX14_order_42 X (b + 4) (nI i) pr (nI (64 * (mb i).1)) (rg_p lM b w0 y)) = z → fX14_order X (rg_p lM b w0 y) (b + 4) (nI i) pr = z := by
      intro z hz
      unfold fX14_order
      refine ob_v (rg_C rfl rfl) (ob_v (rg_A rfl (by decide) _ (by omega) (by decide)) ?_)
      rw [mi.1, show (64 : Int32) * nI (mb i).1 = nI (64 * (mb i).1) from by rw [show (64 : Int32) = nI 64 from rfl, pk_mul]]
      by_cases c1 : pr = 0
      · rw [if_pos c1] at hz
        refine ei_t c1 (ob_v (rg_C rfl rfl) (ob_v (rg_A rfl (by decide) _ (by omega) (by decide)) ?_))
        rw [l0.1]
        exact hz
      · rw [if_neg c1] at hz
        refine ei_n c1 (ob_v (rg_I rfl rfl) ?_)
        rw [h37]
        by_cases c2 : nI fi ≤ 0
        · rw [if_pos c2] at hz
          exact ei_t c2 hz
        · rw [if_neg c2] at hz
          refine ei_n c2 (ob_v (rg_C rfl rfl) (ob_v (rg_A rfl (by decide) _ (by omega) (by decide)) ?_))
          rw [l0.1]
          exact hz
    unfold sgFt
    by_cases k4 : kd = 194
    · rw [if_pos k4] at hpr
      have np : ¬ pr = 0 := by rw [← hpr]; decide
      have k2 : ¬ kd = 192 := by omega
      by_cases d1 : 0 < fi ∧ lt (64 * (mb i).1) = 0
      · rw [if_pos (fc3 k2 d1.1 d1.2)]
        exact Or.inl ⟨_, y2, rfl, F2, ft2, fault y2 _ (row _ (ei_n np (ei_n (nI_nle d1.1 (by omega)) (ei_n (fun z => (ltI_nn (by omega)).mp z d1.2) e42)))) ft2⟩
      rw [if_neg (fc4 k2 d1 : ¬ (if kd = 192 then lt (64 * (mb i).1) ≠ 0 else 0 < fi ∧ lt (64 * (mb i).1) = 0))]
      have go : ∀ z, fX14_order_62 X FU (b + 4) pr (nI (64 * (mb i).1)) (nI fi) (rg_p lM b w0 y) = z → fX14_order X (rg_p lM b w0 y) (b + 4) (nI i) pr = z := by
        intro z hz
        refine row _ (ei_n np ?_)
        by_cases f0 : 0 < fi
        · exact ei_n (nI_nle f0 (by omega)) (ei_t ((ltI_nn (by omega)).mpr (fun z => d1 ⟨f0, z⟩)) (e56 _ hz))
        · exact ei_t (by rw [show fi = 0 by omega]; decide) (e56 _ hz)
      rcases m_o62 (X := X) (b := b) (w0 := w0) (y := y) (p := p) (A2 := pr) (cc := (mb i).1) (la := la) (bf := bf) (bb := bb) (lt := lt) m4.1 l6 hb (by omega) hbf p1 (by omega) np h.2.2.2.1 h.1 h38 h39 h40 hl (la + 1 - fi) fi FU (by omega) (by unfold FU; omega) with ⟨d2, e⟩ | ⟨d2, y3, F3, f3, e⟩
      · rw [if_pos d2, start y (go _ e)]
        exact ih
      · rw [if_neg d2]
        exact Or.inl ⟨_, y3, rfl, F3, f3, fault y3 _ (go _ e) f3⟩
    · rw [if_neg k4] at hpr
      have zp : pr = 0 := hpr.symm
      have k2 : kd = 192 := by omega
      by_cases d1 : lt (64 * (mb i).1) = 0
      · rw [if_neg (fc1 (fi := fi) k2 d1)]
        have d2 : ∀ k, k < 64 → fi ≤ k → k ≤ la → lt (64 * (mb i).1 + k) = (if bf = 0 then 0 else bf + 1) := by
          intro k hk _ _
          rw [if_pos (hs0 k2)]
          exact hsq k4 _ k hk d1
        rw [if_pos d2, start y (row _ (ei_t zp (ei_t ((ltI_neg (by omega)).mpr d1) (e56 _ ?_))))]
        · exact ih
        · rw [show FU = 3999999 + 1 from rfl, fX14_order_62.eq_2]
          refine ob_v (rg_I rfl rfl) ?_
          rw [h38]
          exact ei_n (nI_nlt (by omega) (by omega)) (ei_t zp rfl)
      · rw [if_pos (fc2 (fi := fi) k2 d1)]
        exact Or.inl ⟨_, y2, rfl, F2, ft2, fault y2 _ (row _ (ei_t zp (ei_n (fun z => d1 ((ltI_neg (by omega)).mp z)) e42))) ft2⟩
/-- whether each member has its tables -/
theorem m_tb {fi la bf : Nat} (nn4 : nn ≤ 4) (n4 : n ≤ 4) (fl : fi ≤ 63) (l6 : la ≤ 63) (hb : bf ≤ 16) (h : kY y c p) (h30 : y.1 4 30 = nI nn) (h37 : y.1 4 37 = nI fi) (h38 : y.1 4 38 = nI la) (h39 : y.1 4 39 = nI bf) (hm : mmY y nn mb) (hmo : mmOk n cs mb nn) (hc : csY y n cs) (ok : csOk n cs) (hq : qY y q) (hT : wsY y T) : ∀ (r i M : Nat), i + r = nn → r + 1 < M → (∃ f y', sgTb fi la bf q T cs mb r i = .inl f ∧ FYq y y' ∧ ftY y' f ∧ fX14_readScan_507 X M (b + 4) (nI i) (rg_p lM b w0 y) = some (rg_p lM b w0 y')) ∨ (sgTb fi la bf q T cs mb r i = .inr () ∧ fX14_readScan_507 X M (b + 4) (nI i) (rg_p lM b w0 y) = some (rg_p lM b w0 y)) := by
  intro r
  induction r with
  | zero =>
    intro i M hi hM
    obtain ⟨M, rfl⟩ : ∃ M', M = M' + 1 := ⟨M - 1, by omega⟩
    refine Or.inr ⟨rfl, ?_⟩
    rw [fX14_readScan_507.eq_2]
    refine ob_v (rg_I rfl rfl) ?_
    rw [h30]
    exact ei_t (nI_le (by omega) (by omega)) rfl
  | succ r ih =>
    intro i M hi hM
    obtain ⟨M, rfl⟩ : ∃ M', M = M' + 1 := ⟨M - 1, by omega⟩
    obtain ⟨M0, hM0⟩ : ∃ M', M = M' + 1 := ⟨M - 1, by omega⟩
    have ih := ih (i + 1) M (by omega) (by omega)
    have mi := hm i (by omega)
    have mo := hmo.1 i (by omega)
    have okc := ok _ mo.1
    have cc := hc _ mo.1
    have start : ∀ (y1 : rg_S), fX14_needs X (rg_p lM b w0 y) (b + 4) (nI i) = some (rg_p lM b w0 y1) → fX14_readScan_507 X (M + 1) (b + 4) (nI i) (rg_p lM b w0 y) = fX14_readScan_507 X M (b + 4) (nI (i + 1)) (rg_p lM b w0 y1) := by
      intro y1 ho
      rw [fX14_readScan_507.eq_2]
      refine ob_v (rg_I rfl rfl) ?_
      rw [h30]
      refine ei_n (nI_ge (by omega) (by omega)) (ob_v (rg_I rfl rfl) (ei_t h.2.2.2.1 (ob_v (rg_O rfl) (ob_v ho ?_))))
      rw [nI_1]
    have fault : ∀ (y1 : rg_S) (f : sgF), fX14_needs X (rg_p lM b w0 y) (b + 4) (nI i) = some (rg_p lM b w0 y1) → ftY y1 f → fX14_readScan_507 X (M + 1) (b + 4) (nI i) (rg_p lM b w0 y) = some (rg_p lM b w0 y1) := by
      intro y1 f ho hf
      rw [start y1 ho, hM0, fX14_readScan_507.eq_2]
      exact ob_v (rg_I rfl rfl) (ei_c (fun _ => rfl) (fun _ => ob_v (rg_I rfl rfl) (ei_n hf.n rfl)))
    -- what is asked of the words, in a state with or without a fault
    have words : ∀ (z : rg_S), FYq y z → ∀ (z' : rg_S), fX14_wrong X (rg_p lM b w0 z) (b + 4) 8 (nI ((mb i).2.2.2 + 1)) = some (0, rg_p lM b w0 z') → fX14_needs_32 X (b + 4) (nI i) (rg_p lM b w0 z) = if ((fi = 0 ∧ bf = 0) ∧ (T (mb i).2.1).isNone = true) ∨ (0 < la ∧ (T (4 + (mb i).2.2.1)).isNone = true) then some (rg_p lM b w0 z') else some (rg_p lM b w0 z) := by
      intro z Fz z' hw
      have i37 : z.1 4 37 = nI fi := by rw [Fz.1 _ _ (by omega)]; exact h37
      have i38 : z.1 4 38 = nI la := by rw [Fz.1 _ _ (by omega)]; exact h38
      have i39 : z.1 4 39 = nI bf := by rw [Fz.1 _ _ (by omega)]; exact h39
      have tn : ∀ t, t < 8 → (z.2.2.1 13 t = 0 ↔ (T t).isNone = true) := by
        intro t ht
        rw [Fz.2]
        rcases hT t ht with ⟨g1, g2⟩ | ⟨W, g1, g2, _⟩
        · rw [g1]
          exact ⟨fun _ => rfl, fun _ => g2⟩
        · rw [g1, g2]
          exact ⟨fun e => absurd e (by decide), fun e => absurd e (by show ¬ false = true; decide)⟩
      have dc := tn (mb i).2.1 (by omega)
      have ac := tn (4 + (mb i).2.2.1) (by omega)
      have e93 : fX14_needs_93 X (b + 4) (nI i) (rg_p lM b w0 z) = some (rg_p lM b w0 z') := by
        unfold fX14_needs_93
        refine ob_v (rg_C rfl rfl) (ob_v (rg_A rfl (by decide) _ (by omega) (by decide)) (ob_v (rg_O rfl) ?_))
        rw [Fz.2, mi.2.2.2, nI_1]
        exact ob_v hw rfl
      have e70 : fX14_needs_70 X (b + 4) (nI i) (rg_p lM b w0 z) = if 0 < la ∧ (T (4 + (mb i).2.2.1)).isNone = true then some (rg_p lM b w0 z') else some (rg_p lM b w0 z) := by
        unfold fX14_needs_70
        refine ob_v (rg_I rfl rfl) ?_
        rw [i38]
        by_cases l0 : la = 0
        · rw [if_neg (show ¬ (0 < la ∧ (T (4 + (mb i).2.2.1)).isNone = true) from fun e => by have := e.1; omega)]
          exact ei_t (by rw [l0]; decide) rfl
        · refine ei_n (nI_nle (by omega) (by omega)) (ob_v (rg_C rfl rfl) (ob_v (rg_C rfl rfl) (ob_v (rg_A rfl (by decide) _ (by omega) (by decide)) ?_)))
          rw [Fz.2, mi.2.2.1, show (4 : Int32) + nI (mb i).2.2.1 = nI (4 + (mb i).2.2.1) from nI_add 4 _]
          refine ob_v (rg_A rfl (by decide) _ (by omega) (by decide)) ?_
          by_cases w : (T (4 + (mb i).2.2.1)).isNone = true
          · rw [if_pos (show 0 < la ∧ (T (4 + (mb i).2.2.1)).isNone = true from ⟨by omega, w⟩)]
            exact ei_t (ac.mpr w) e93
          · rw [if_neg (show ¬ (0 < la ∧ (T (4 + (mb i).2.2.1)).isNone = true) from fun e => w e.2)]
            exact ei_n (fun e => w (ac.mp e)) rfl
      have tail : (¬ ((fi = 0 ∧ bf = 0) ∧ (T (mb i).2.1).isNone = true)) → fX14_needs_70 X (b + 4) (nI i) (rg_p lM b w0 z) = if ((fi = 0 ∧ bf = 0) ∧ (T (mb i).2.1).isNone = true) ∨ (0 < la ∧ (T (4 + (mb i).2.2.1)).isNone = true) then some (rg_p lM b w0 z') else some (rg_p lM b w0 z) := by
        intro nd
        rw [e70]
        by_cases w : 0 < la ∧ (T (4 + (mb i).2.2.1)).isNone = true
        · rw [if_pos w, if_pos (Or.inr w)]
        · rw [if_neg w, if_neg (fun e => e.elim nd w)]
      have e50 : (¬ (fi = 0 ∧ bf = 0)) → fX14_needs_50 X (b + 4) (nI i) (rg_p lM b w0 z) = if ((fi = 0 ∧ bf = 0) ∧ (T (mb i).2.1).isNone = true) ∨ (0 < la ∧ (T (4 + (mb i).2.2.1)).isNone = true) then some (rg_p lM b w0 z') else some (rg_p lM b w0 z) := by
        intro nd
        unfold fX14_needs_50 fX14_needs_51
        exact ei_t rfl (tail (fun e => nd e.1))
      unfold fX14_needs_32
      refine ob_v (rg_I rfl rfl) ?_
      rw [i37]
      by_cases f0 : fi = 0
      · refine ei_t (by rw [f0]; rfl) (ob_v (rg_I rfl rfl) ?_)
        rw [i39]
        by_cases b0 : bf = 0
        · refine ei_t (by rw [b0]; rfl) ?_
          unfold fX14_needs_51
          refine ei_n (by decide) (ob_v (rg_C rfl rfl) (ob_v (rg_C rfl rfl) (ob_v (rg_A rfl (by decide) _ (by omega) (by decide)) ?_)))
          rw [Fz.2, mi.2.1]
          refine ob_v (rg_A rfl (by decide) _ (by omega) (by decide)) ?_
          by_cases w : (T (mb i).2.1).isNone = true
          · rw [if_pos (show ((fi = 0 ∧ bf = 0) ∧ (T (mb i).2.1).isNone = true) ∨ (0 < la ∧ (T (4 + (mb i).2.2.1)).isNone = true) from Or.inl ⟨⟨f0, b0⟩, w⟩)]
            exact ei_t (dc.mpr w) e93
          · exact ei_n (fun e => w (dc.mp e)) (tail (fun e => w e.2))
        · exact ei_n (nI_ne0 (by omega) (by omega)) (e50 (fun e => b0 e.2))
      · exact ei_n (nI_ne0 (by omega) (by omega)) (e50 (fun e => f0 e.1))
    have qz : y.2.2.1 11 (cs (mb i).1).2.2.2 = 0 ↔ q (64 * (cs (mb i).1).2.2.2) = 0 := by
      rcases hq _ okc.2.2.2.1 with ⟨g1, g2⟩ | ⟨g1, g2, _⟩
      · exact ⟨fun _ => g1, fun _ => g2⟩
      · rw [g2]
        exact ⟨fun e => absurd e (by decide), fun e => absurd e g1⟩
    have start2 : ∀ z, (if y.2.2.1 11 (cs (mb i).1).2.2.2 = 0 then (fX14_wrong X (rg_p lM b w0 y) (b + 4) 8 (nI (mb i).2.2.2)).bind (fun q57 => fX14_needs_32 X (b + 4) (nI i) q57.2) else fX14_needs_32 X (b + 4) (nI i) (rg_p lM b w0 y)) = z → fX14_needs X (rg_p lM b w0 y) (b + 4) (nI i) = z := by
      intro z hz
      unfold fX14_needs
      refine ob_v (rg_C rfl rfl) (ob_v (rg_C rfl rfl) (ob_v (rg_C rfl rfl) (ob_v (rg_A rfl (by decide) _ (by omega) (by decide)) ?_)))
      rw [mi.1]
      refine ob_v (rg_A rfl (by decide) _ (by omega) (by decide)) ?_
      rw [cc.2.2.2]
      refine ob_v (rg_A rfl (by decide) _ okc.2.2.2.1 (by decide)) ?_
      by_cases c1 : y.2.2.1 11 (cs (mb i).1).2.2.2 = 0
      · rw [if_pos c1] at hz
        refine ei_t c1 (ob_v (rg_C rfl rfl) (ob_v (rg_A rfl (by decide) _ (by omega) (by decide)) (ob_v (rg_O rfl) ?_)))
        rw [mi.2.2.2]
        exact hz
      · rw [if_neg c1] at hz
        exact ei_n c1 hz
    unfold sgTb
    by_cases d1 : q (64 * (cs (mb i).1).2.2.2) = 0
    · rw [if_pos d1]
      obtain ⟨y2, e2, F2, f1, f2⟩ := m_sw (X := X) (b := b) (w0 := w0) (y := y) (f := 8) (q := (mb i).2.2.2) h.2.2.2.1
      have ft2 : ftY y2 (8, (mb i).2.2.2) := ftY.i f1 f2 (by decide) (by decide) (by omega)
      refine Or.inl ⟨_, y2, rfl, F2, ft2, fault y2 _ (start2 _ (ei_t (qz.mpr d1) (ob_v e2 ?_))) ft2⟩
      have := words y2 F2 y2 (m_wr0 ft2)
      rw [this]
      split <;> rfl
    · rw [if_neg d1]
      obtain ⟨y2, e2, F2, f1, f2⟩ := m_sw (X := X) (b := b) (w0 := w0) (y := y) (f := 8) (q := (mb i).2.2.2 + 1) h.2.2.2.1
      have ft2 : ftY y2 (8, (mb i).2.2.2 + 1) := ftY.i f1 f2 (by decide) (by decide) (by omega)
      have w := words y FYq.rfl y2 e2
      by_cases d2 : ((fi = 0 ∧ bf = 0) ∧ (T (mb i).2.1).isNone = true) ∨ (0 < la ∧ (T (4 + (mb i).2.2.1)).isNone = true)
      · rw [if_pos d2] at w ⊢
        exact Or.inl ⟨_, y2, rfl, F2, ft2, fault y2 _ (start2 _ (ei_n (fun e => d1 (qz.mp e)) w)) ft2⟩
      · rw [if_neg d2] at w ⊢
        rw [start y (start2 _ (ei_n (fun e => d1 (qz.mp e)) w))]
        exact ih
end
