/-! blocks of the reference -/
def pY (y0 : rg_S) (first last bf bits N many : Nat) (bs : Nat → Nat) (Z : Nat → Int) : Prop := y0.1 24 23 = nI first ∧ y0.1 24 24 = nI last ∧ y0.1 24 25 = nI bf ∧ y0.1 24 26 = nI bits ∧ first ≤ last ∧ last ≤ 63 ∧ bf ≤ 2 ∧ bits ≤ 2 ∧ N ≤ 12288 ∧ (∀ i, i < N → y0.2.2.1 32 i = iI (Z i) ∧ -1024 ≤ Z i ∧ Z i ≤ 1023) ∧ many ≤ 4 ∧ ∀ c, c < many → y0.2.2.1 31 c = nI (bs c) ∧ y0.2.2.1 39 c = nI c ∧ y0.2.2.1 40 c = nI (4 + c)
section
variable {X : px_X} {b B : Nat} {w0 w1 : px_W} {y y' y0 : rg_S} {t n c T q first last bf bits N many : Nat} {K : kS} {a a' : aS} {Z : Nat → Int} {bs : Nat → Nat}
theorem pY.st (p : pY y0 first last bf bits N many bs Z) (h : yW K y0 a y) : y.1 24 23 = nI first ∧ y.1 24 24 = nI last ∧ y.1 24 25 = nI bf ∧ y.1 24 26 = nI bits ∧ (∀ i, i < N → y.2.2.1 32 i = iI (Z i)) ∧ ∀ c, c < many → y.2.2.1 31 c = nI (bs c) ∧ y.2.2.1 39 c = nI c ∧ y.2.2.1 40 c = nI (4 + c) := by
  obtain ⟨p1, p2, p3, p4, _, _, _, _, _, p5, _, p6⟩ := p
  obtain ⟨⟨f1, f2, f3, f4⟩, _⟩ := h
  rw [f1 24 23 (by omega), f1 24 24 (by omega), f1 24 25 (by omega), f1 24 26 (by omega), f3 32 (by omega), f3 31 (by omega), f3 39 (by omega), f3 40 (by omega)]
  exact ⟨p1, p2, p3, p4, fun i hi => (p5 i hi).1, p6⟩
theorem n64' {u v T : Nat} (h : u + v = T) : (64 : Int32) * (nI u + nI v) = nI (64 * T) := by
  rw [nI_add, h, show (64 : Int32) = nI 64 from rfl, pk_mul]
theorem m_dir (S : sY K y0) (p : pY y0 first last bf bits N many bs Z) (h : yW K y0 a y) {R M m : Nat} (hB : aB R M m a) (hc : c < many) (hq : bs c + q = T) (hT : 64 * T + 64 ≤ N) (hE : inE K (aDir bf bits c (Z (64 * T)) a)) : ∃ y', fX13_writeDirect X (rg_p lM b w0 y) (b + 24) (nI c) (nI q) = some (rg_p lM b w0 y') ∧ yW K y0 (aDir bf bits c (Z (64 * T)) a) y' := by
  obtain ⟨g1, g2, g3, g4, g5, g6⟩ := p.st h
  obtain ⟨p1, p2, p3, p4, _, _, pb, pbt, pN, p7, pm, p8⟩ := p
  have hc4 : c < 4 := by omega
  have hz := p7 (64 * T) (by omega)
  have hd := div_b bits hz.2.1 hz.2.2
  have ez := iI_shr (n := bits) hz.2.1 hz.2.2 pbt
  unfold aDir at hE ⊢
  by_cases q0 : 0 < bf
  · rw [if_pos q0] at hE ⊢
    obtain ⟨y', e', h'⟩ := m_b (X := X) (b := b) (w0 := w0) S h (iI (Z (64 * T) / 2 ^ bits))
    refine ⟨y', ?_, h'⟩
    unfold fX13_writeDirect
    refine ob_v (rg_C rfl rfl) (ob_v (rg_A rfl (by decide) _ hc4 (by decide)) (ob_v (rg_I rfl rfl) ?_))
    rw [g3, (g6 c hc).1, n64' hq]
    refine ei_n (nI_nle q0 (by omega)) (ob_v (rg_C rfl rfl) (ob_v (rg_A rfl (by decide) _ (by omega) (by decide)) (ob_v (rg_I rfl rfl) (ob_v (rg_O rfl) ?_))))
    rw [g5 _ (by omega), g4, ez]
    have ev := vb_e (iI (Z (64 * T) / 2 ^ bits)) 0
    rw [show iI (Z (64 * T) / 2 ^ bits) >>> (nI 0 &&& 31) = iI (Z (64 * T) / 2 ^ bits) by
      apply Int32.toInt_inj.mp
      rw [pk_shr _ _ 0 (by decide)]
      exact Int.shiftRight_zero _] at ev
    rw [ev]
    exact ob_v e' rfl
  · rw [if_neg q0] at hE ⊢
    obtain ⟨v1, v2, v3, v4, v5, v6⟩ := h.2.2.2
    have bp := hB.2.2.2.2.2 c
    generalize hD : Z (64 * T) / 2 ^ bits - a.2.2.2.2 c = d at hE ⊢
    have dd : d.natAbs ≤ 2048 := by omega
    have h1 : yW K y0 (aPr c (Z (64 * T) / 2 ^ bits) a) (rg_wA y 44 (upd (y.2.2.1 44) c (iI (Z (64 * T) / 2 ^ bits)))) := by
      refine yW_f h (fun _ _ _ => rfl) rfl (fun p' p3' _ _ => by rw [wA_n _ _ p3']) rfl rfl ⟨v1, v2, v3, ?_, ?_, fun j hj => ?_⟩
      · rw [wA_n _ _ (by decide)]; exact v4
      · rw [wA_n _ _ (by decide)]; exact v5
      · rw [wA_s]
        show _ = iI (if j = c then _ else _)
        by_cases e : j = c
        · rw [e, pk_us, if_pos rfl]
        · rw [pk_un e, if_neg e]
          exact v6 j hj
    obtain ⟨x2, e2, h2⟩ := m_w (X := X) (b := b) (w0 := w0) S h1 (t := c) (by omega) (s := sz d.natAbs) (by have := sz_11 (n := d.natAbs) (by omega); omega) (hE.g (gr_ap _ _))
    obtain ⟨x3, e3, h3⟩ := m_num (X := X) (b := b) (w0 := w0) S h2 (z := d) (by omega)
    refine ⟨x3, ?_, h3⟩
    unfold fX13_writeDirect
    refine ob_v (rg_C rfl rfl) (ob_v (rg_A rfl (by decide) _ hc4 (by decide)) (ob_v (rg_I rfl rfl) ?_))
    rw [g3, (g6 c hc).1, n64' hq]
    refine ei_t (by rw [show bf = 0 by omega]; decide) (ob_v (rg_C rfl rfl) (ob_v (rg_A rfl (by decide) _ (by omega) (by decide)) (ob_v (rg_I rfl rfl) ?_)))
    rw [g5 _ (by omega), g4, ez]
    refine ob_v (rg_C rfl rfl) (ob_v (rg_A rfl (by decide) _ hc4 (by decide)) (ob_v (rg_C rfl rfl) (ob_v (rg_sA _ rfl (by decide) _ _ hc4 (by decide)) (ob_v (rg_C rfl rfl) (ob_v (rg_A rfl (by decide) _ hc4 (by decide)) ?_)))))
    rw [v6 c hc4, iI_sub, hD, wA_n _ _ (by decide), (g6 c hc).2.1]
    exact ob_v (m_sizeOf (by omega)) (ob_v (rg_O rfl) (ob_v e2 (ob_v (rg_O rfl) (ob_v e3 rfl))))
theorem m_o87 (S : sY K y0) (ht : t < 8) {k28 : Nat → Int32 → Int32 → Int32 → Int32 → Int32 → Int32 → px_W → Option (px_W)} {a1 a2 a5 a7 a8 : Int32} : ∀ (n M r : Nat) (a : aS) (y : rg_S), yW K y0 a y → r < 16 → n < M → n < 1000 → inE K (a16 t n a) → ∃ y', fX13_writeOthers_87 X k28 M (b + 24) a1 a2 (nI t) a5 (nI (16 * n + r)) a7 a8 (rg_p lM b w0 y) = fX13_writeOthers_109 X k28 (b + 24) a1 a2 (nI t) a5 (nI r) a7 a8 (rg_p lM b w0 y') ∧ yW K y0 (a16 t n a) y' := by
  intro n
  induction n with
  | zero =>
    intro M r a y h hr hM _ _
    obtain ⟨M, rfl⟩ : ∃ M', M = M' + 1 := ⟨M - 1, by omega⟩
    refine ⟨y, ?_, h⟩
    rw [fX13_writeOthers_87.eq_2, Nat.mul_zero, Nat.zero_add]
    exact ei_t (nI_le (b := 15) (by omega) (by omega)) rfl
  | succ n ih =>
    intro M r a y h hr hM hn hE
    obtain ⟨M, rfl⟩ : ∃ M', M = M' + 1 := ⟨M - 1, by omega⟩
    obtain ⟨x1, e1, h1⟩ := m_w (X := X) (b := b) (w0 := w0) S h ht (s := 240) (by decide) (hE.g (gr_16 t n _))
    obtain ⟨x2, e2, h2⟩ := ih M r _ x1 h1 hr (by omega) (by omega) hE
    refine ⟨x2, ?_, h2⟩
    rw [fX13_writeOthers_87.eq_2]
    refine ei_n (nI_ge (a := 15) (by omega) (by omega)) (ob_v (rg_O rfl) (ob_v e1 ?_))
    rw [show 16 * (n + 1) + r = 16 * n + r + 16 by omega, nI_m16]
    exact e2
theorem m_cut {z : Int} (h1 : -1024 ≤ z) (h2 : z ≤ 1023) (hb : bits ≤ 2) {w : px_W} : fX13_cutOff X w (iI z) (nI bits) = some (iI (zc bits z), w) := by
  have hle : (0 : Int32) ≤ iI z ↔ 0 ≤ z := iI_le (a := 0) (by omega) (by omega) (by omega) (by omega)
  unfold fX13_cutOff
  by_cases s : 0 ≤ z
  · refine ei_t (hle.mpr s) ?_
    rw [iI_nat s, pk_shrN (by omega) _ bits (sm_k hb)]
    unfold zc am
    by_cases z0 : z ≤ 0
    · obtain rfl : z = 0 := by omega
      rw [if_pos (by decide)]
      show some (nI (0 / 2 ^ bits), w) = some (iI (-(0 / 2 ^ bits : Nat)), w)
      rw [Nat.zero_div]
      rfl
    · rw [if_neg z0, show z.toNat = z.natAbs by omega, iI_n]
  · refine ei_n (fun e => s (hle.mp e)) ?_
    rw [iI_neg, iI_nat (by omega), pk_shrN (by omega) _ bits (sm_k hb), show (-z).toNat = z.natAbs by omega, iI_n, iI_neg]
    unfold zc am
    rw [if_pos (by omega)]
/-- one turn -/
theorem m_oSt (S : sY K y0) (p : pY y0 first last bf bits N many bs Z) {r : Nat × aS} {k M : Nat} {bd : Int32} (h : yW K y0 r.2 y) (hB : aB 32766 900 0 r.2) (hr : r.1 ≤ 64) (hbd : bd = 0 ∧ r.2.2.1 = 0 ∨ bd = 1) (hc : c < many) (hq : bs c + q = T) (hT : 64 * T + 64 ≤ N) (hk : k ≤ last) (ht : t < 8) (hE : inE K (oSt t bits (Z (64 * T + k)) r).2) : ∃ y', fX13_writeOthers_28 X (M + 1) (b + 24) (nI c) (nI q) (nI t) bd (nI r.1) (nI k) (rg_p lM b w0 y) = fX13_writeOthers_28 X M (b + 24) (nI c) (nI q) (nI t) bd (nI (oSt t bits (Z (64 * T + k)) r).1) (nI (k + 1)) (rg_p lM b w0 y') ∧ yW K y0 (oSt t bits (Z (64 * T + k)) r).2 y' := by
  obtain ⟨g1, g2, g3, g4, g5, g6⟩ := p.st h
  obtain ⟨p1, p2, p3, p4, _, pl, pb, pbt, pN, p7, pm, p8⟩ := p
  have hz := p7 (64 * T + k) (by omega)
  have ha := am_le bits (Z (64 * T + k))
  have ec := fun w => m_cut (X := X) (bits := bits) (w := w) hz.2.1 hz.2.2 pbt
  have hza := zc_abs bits (Z (64 * T + k))
  have start : ∀ s, (if iI (zc bits (Z (64 * T + k))) = 0 then fX13_writeOthers_135 X (fX13_writeOthers_28 X M) (b + 24) (nI c) (nI q) (nI t) bd (nI r.1 + 1) (nI k) (rg_p lM b w0 y) else if bd = 0 then fX13_writeOthers_87 X (fX13_writeOthers_28 X M) FU (b + 24) (nI c) (nI q) (nI t) bd (nI r.1) (nI k) (iI (zc bits (Z (64 * T + k)))) (rg_p lM b w0 y) else (gO (rg_p lM b w0 y) (b + 24) 13).bind fun o57 => (fX13_sendRun X (rg_p lM b w0 y) (b + 24) (nI t)).bind fun q58 => fX13_writeOthers_87 X (fX13_writeOthers_28 X M) FU (b + 24) (nI c) (nI q) (nI t) bd (nI r.1) (nI k) (iI (zc bits (Z (64 * T + k)))) q58) = s → fX13_writeOthers_28 X (M + 1) (b + 24) (nI c) (nI q) (nI t) bd (nI r.1) (nI k) (rg_p lM b w0 y) = s := by
    intro s hs
    rw [fX13_writeOthers_28.eq_2]
    refine ob_v (rg_I rfl rfl) ?_
    rw [g2]
    refine ei_n (nI_nlt hk (by omega)) (ob_v (rg_C rfl rfl) (ob_v (rg_C rfl rfl) (ob_v (rg_A rfl (by decide) _ (by omega) (by decide)) ?_)))
    rw [(g6 c hc).1, n64' hq, nI_add]
    refine ob_v (rg_A rfl (by decide) _ (by omega) (by decide)) (ob_v (rg_I rfl rfl) ?_)
    rw [g5 _ (by omega), g4]
    exact ob_v (ec _) hs
  unfold oSt at hE ⊢
  generalize Z (64 * T + k) = z at *
  by_cases e0 : am bits z = 0
  · rw [if_pos e0] at hE ⊢
    refine ⟨y, start _ (ei_t (by rw [show zc bits z = 0 by omega]; rfl) ?_), h⟩
    unfold fX13_writeOthers_135
    rw [nI_1, nI_1]
  · rw [if_neg e0] at hE ⊢
    have hs := sz_1 (n := am bits z) (by omega)
    have z0 : ¬ iI (zc bits z) = 0 := fun e => by
      have := (iI_eq (a := zc bits z) (b := 0) (by omega) (by omega) (by omega) (by omega)).mp e
      omega
    obtain ⟨x1, e1, h1⟩ := m_send (X := X) (b := b) (w0 := w0) S h (by decide) (by decide) hB ht (hE.g ((gr_16 t _ _).trans ((gr_ap _ _).trans (gr_ap _ _))))
    obtain ⟨x1', e1', h1'⟩ : ∃ x1', (if bd = 0 then fX13_writeOthers_87 X (fX13_writeOthers_28 X M) FU (b + 24) (nI c) (nI q) (nI t) bd (nI r.1) (nI k) (iI (zc bits z)) (rg_p lM b w0 y) else (gO (rg_p lM b w0 y) (b + 24) 13).bind fun o57 => (fX13_sendRun X (rg_p lM b w0 y) (b + 24) (nI t)).bind fun q58 => fX13_writeOthers_87 X (fX13_writeOthers_28 X M) FU (b + 24) (nI c) (nI q) (nI t) bd (nI r.1) (nI k) (iI (zc bits z)) q58) = fX13_writeOthers_87 X (fX13_writeOthers_28 X M) FU (b + 24) (nI c) (nI q) (nI t) bd (nI r.1) (nI k) (iI (zc bits z)) (rg_p lM b w0 x1') ∧ yW K y0 (aSend t r.2) x1' := by
      rcases hbd with ⟨hb, hr0⟩ | hb
      · exact ⟨y, ei_t hb rfl, by rw [sd_0 hr0]; exact h⟩
      · exact ⟨x1, ei_n (by rw [hb]; exact n10) (ob_v (rg_O rfl) (ob_v e1 rfl)), h1⟩
    obtain ⟨x2, e2, h2⟩ := m_o87 (X := X) (b := b) (w0 := w0) S ht (k28 := fX13_writeOthers_28 X M) (a1 := nI c) (a2 := nI q) (a5 := bd) (a7 := nI k) (a8 := iI (zc bits z)) (r.1 / 16) FU (r.1 % 16) _ x1' h1' (by omega) (by unfold FU; omega) (by omega) (hE.g ((gr_ap _ _).trans (gr_ap _ _)))
    rw [show 16 * (r.1 / 16) + r.1 % 16 = r.1 by omega] at e2
    obtain ⟨x3, e3, h3⟩ := m_w (X := X) (b := b) (w0 := w0) S h2 ht (s := 16 * (r.1 % 16) + sz (am bits z)) (by omega) (hE.g (gr_ap _ _))
    obtain ⟨x4, e4, h4⟩ := m_num (X := X) (b := b) (w0 := w0) S h3 (z := zc bits z) (by omega)
    rw [hza] at h4
    have sza := fun w => m_sizeOf (X := X) (w := w) (z := zc bits z) (by omega)
    rw [hza] at sza
    refine ⟨x4, start _ (ei_n z0 (e1'.trans (e2.trans ?_))), h4⟩
    unfold fX13_writeOthers_109
    refine ob_v (sza _) (ob_v (rg_O rfl) ?_)
    rw [show (16 : Int32) = nI 16 from rfl, pk_mul, nI_add]
    refine ob_v e3 (ob_v (rg_O rfl) (ob_v e4 ?_))
    unfold fX13_writeOthers_135
    rw [nI_1]
    rfl
theorem m_o28 (S : sY K y0) (p : pY y0 first last bf bits N many bs Z) {fr n : Nat} {bd : Int32} (hB : aB 32766 900 0 a) (hb : a.2.2.1 = []) (hbd : bd = 0 ∧ a.2.1 = 0 ∨ bd = 1) (hc : c < many) (hq : bs c + q = T) (hT : 64 * T + 64 ≤ N) (hn : fr + n = last + 1) (ht : t < 8) (hE : inE K (oLp t bits (fun k => Z (64 * T + k)) fr a n).2) : ∀ (j M i : Nat) (y : rg_S), i + j = n → j < M → yW K y0 (oLp t bits (fun k => Z (64 * T + k)) fr a i).2 y → ∃ y', fX13_writeOthers_28 X M (b + 24) (nI c) (nI q) (nI t) bd (nI (oLp t bits (fun k => Z (64 * T + k)) fr a i).1) (nI (fr + i)) (rg_p lM b w0 y) = fX13_writeOthers_141 X (b + 24) (nI t) bd (nI (oLp t bits (fun k => Z (64 * T + k)) fr a n).1) (rg_p lM b w0 y') ∧ yW K y0 (oLp t bits (fun k => Z (64 * T + k)) fr a n).2 y' := by
  have pl := p.2.2.2.2.2.1
  intro j
  induction j with
  | zero =>
    intro M i y hi hM h
    obtain rfl : i = n := by omega
    obtain ⟨M, rfl⟩ : ∃ M', M = M' + 1 := ⟨M - 1, by omega⟩
    refine ⟨y, ?_, h⟩
    rw [fX13_writeOthers_28.eq_2]
    refine ob_v (rg_I rfl rfl) ?_
    rw [(p.st h).2.1]
    exact ei_t (nI_lt (by omega) (by omega)) rfl
  | succ j ih =>
    intro M i y hi hM h
    obtain ⟨M, rfl⟩ : ∃ M', M = M' + 1 := ⟨M - 1, by omega⟩
    obtain ⟨b1, b2, b3, b4⟩ := oLp_b (t := t) (bits := bits) (fr := fr) (Z := fun k => Z (64 * T + k)) hB hb i
    have g := gr_oLp t bits (fun k => Z (64 * T + k)) fr a (i + 1) j
    rw [show i + 1 + j = n by omega] at g
    obtain ⟨x1, e1, h1⟩ := m_oSt (X := X) (b := b) (w0 := w0) (M := M) (bd := bd) S p h b2 (by omega) (hbd.imp (fun e => ⟨e.1, b4 e.2⟩) id) hc hq hT (k := fr + i) (by omega) ht (hE.g g)
    obtain ⟨x2, e2, h2⟩ := ih M (i + 1) x1 (by omega) (by omega) h1
    exact ⟨x2, e1.trans e2, h2⟩
theorem m_oth (S : sY K y0) (p : pY y0 first last bf bits N many bs Z) (h : yW K y0 a y) (hB : aB 32766 900 0 a) (hb : a.2.2.1 = []) (hf0 : first = 0 → a.2.1 = 0) (hc : c < many) (hq : bs c + q = T) (hT : 64 * T + 64 ≤ N) (hl : 0 < last) (hE : inE K (aOth first last bits (4 + c) (fun k => Z (64 * T + k)) a)) : ∃ y', fX13_writeOthers X (rg_p lM b w0 y) (b + 24) (nI c) (nI q) (nI (max 1 first)) = some (rg_p lM b w0 y') ∧ yW K y0 (aOth first last bits (4 + c) (fun k => Z (64 * T + k)) a) y' := by
  have pl := p.2.2.2.2.2.1
  have pf := p.2.2.2.2.1
  have pm := p.2.2.2.2.2.2.2.2.2.2.1
  have ht : 4 + c < 8 := by omega
  obtain ⟨g1, g2, g3, g4, g5, g6⟩ := p.st h
  have hbd : (if first = 0 then (0 : Int32) else 1) = 0 ∧ a.2.1 = 0 ∨ (if first = 0 then (0 : Int32) else 1) = 1 := by
    by_cases f0 : first = 0
    · rw [if_pos f0]
      exact Or.inl ⟨rfl, hf0 f0⟩
    · rw [if_neg f0]
      exact Or.inr rfl
  obtain ⟨x1, e1, h1⟩ := m_o28 (X := X) (b := b) (w0 := w0) S p (fr := max 1 first) (n := last + 1 - max 1 first) hB hb hbd hc hq hT (by omega) ht (hE.g (gr_oEnd _ _ _)) _ FU 0 y (Nat.zero_add _) (by unfold FU; omega) h
  obtain ⟨b1, b2, b3, b4⟩ := oLp_b (t := 4 + c) (bits := bits) (fr := max 1 first) (Z := fun k => Z (64 * T + k)) hB hb (last + 1 - max 1 first)
  have st : ∀ r, fX13_writeOthers_141 X (b + 24) (nI (4 + c)) (if first = 0 then (0 : Int32) else 1) (nI (oLp (4 + c) bits (fun k => Z (64 * T + k)) (max 1 first) a (last + 1 - max 1 first)).1) (rg_p lM b w0 x1) = r → fX13_writeOthers X (rg_p lM b w0 y) (b + 24) (nI c) (nI q) (nI (max 1 first)) = r := by
    intro r hr
    unfold fX13_writeOthers
    refine ob_v (rg_C rfl rfl) (ob_v (rg_A rfl (by decide) _ (by omega) (by decide)) (ob_v (rg_I rfl rfl) ?_))
    rw [g1, (g6 c hc).2.2]
    unfold fX13_writeOthers_20
    by_cases f0 : first = 0
    · rw [if_pos f0] at e1 hr
      exact ei_t (by rw [f0]; decide) (e1.trans hr)
    · rw [if_neg f0] at e1 hr
      exact ei_n (nI_nle (by omega) (by omega)) (e1.trans hr)
  unfold aOth at hE ⊢
  generalize oLp (4 + c) bits (fun k => Z (64 * T + k)) (max 1 first) a (last + 1 - max 1 first) = r at *
  unfold oEnd at hE ⊢
  by_cases q0 : r.1 = 0
  · rw [if_pos q0] at hE ⊢
    refine ⟨x1, st _ ?_, h1⟩
    rw [q0]
    unfold fX13_writeOthers_141 fX13_writeOthers_158
    exact ei_t (by decide) (ei_t (by decide) rfl)
  · rw [if_neg q0] at hE ⊢
    by_cases f0 : first = 0
    · rw [if_pos f0] at hE st ⊢
      obtain ⟨x2, e2, h2⟩ := m_w (X := X) (b := b) (w0 := w0) S h1 ht (s := 0) (by decide) hE
      refine ⟨x2, st _ ?_, h2⟩
      unfold fX13_writeOthers_141 fX13_writeOthers_158
      exact ei_n (nI_nle (by omega) (by omega)) (ei_t rfl (ob_v (rg_O rfl) (ob_v e2 (ei_n (nI_nle (by omega) (by omega)) (ei_t rfl rfl)))))
    · rw [if_neg f0] at hE st ⊢
      obtain ⟨v1, v2, v3, v4, v5, v6⟩ := h1.2.2.2
      have tc0 : r.2.2.2.2.1 = [] := List.eq_nil_of_length_eq_zero (Nat.le_zero.mp b2.2.2.1)
      have r1 := b2.1
      have h2 : yW K y0 (aLong r.2) (rg_wI x1 24 38 (nI (r.2.2.1 + 1))) := by
        refine yW_f h1 (fun p k hp => by rw [wI_n _ _ (by omega)]) rfl (fun _ _ _ _ => rfl) rfl rfl ⟨by rw [wI_s]; rfl, ?_, ?_, ?_, lst_nil, v6⟩
        · rw [wI_n _ _ (by omega)]
          show _ = nI (r.2.2.2.1 ++ r.2.2.2.2.1).length
          rw [tc0, List.append_nil]
          exact v2
        · rw [wI_n _ _ (by omega), v3, tc0]
          rfl
        · show lst (x1.2.2.1 45) (r.2.2.2.1 ++ r.2.2.2.2.1)
          rw [tc0, List.append_nil]
          exact v4
      have rb0 : (aLong r.2).2.2.1 = [] := by
        show r.2.2.2.1 ++ r.2.2.2.2.1 = []
        rw [b3, tc0]
        rfl
      have st2 : ∀ s, (if nI (r.2.2.1 + 1) = 32767 then (gO (rg_p lM b w0 (rg_wI x1 24 38 (nI (r.2.2.1 + 1)))) (b + 24) 13).bind fun o33 => (fX13_sendRun X (rg_p lM b w0 (rg_wI x1 24 38 (nI (r.2.2.1 + 1)))) (b + 24) (nI (4 + c))).bind fun q34 => some q34 else some (rg_p lM b w0 (rg_wI x1 24 38 (nI (r.2.2.1 + 1))))) = s → fX13_writeOthers_141 X (b + 24) (nI (4 + c)) 1 (nI r.1) (rg_p lM b w0 x1) = s := by
        intro s hs
        unfold fX13_writeOthers_141 fX13_writeOthers_158
        refine ei_n (nI_nle (by omega) (by omega)) (ei_n n10 (ei_n (nI_nle (by omega) (by omega)) (ei_n n10 (ob_v (rg_I rfl rfl) ?_))))
        rw [v1, nI_1]
        refine ob_v (rg_pI rfl rfl _) (ob_v (rg_I rfl rfl) ?_)
        rw [wI_s]
        exact hs
      unfold aFull at hE ⊢
      by_cases full : (aLong r.2).2.1 = 32767 ∨ 900 < (aLong r.2).2.2.1.length
      · rw [if_pos full] at hE ⊢
        obtain ⟨x3, e3, h3⟩ := m_send (X := X) (b := b) (w0 := w0) S h2 (R := 32767) (N := 900) (by decide) (by decide) (aB_long b2) ht hE
        have : r.2.2.1 + 1 = 32767 := by
          rcases full with f | f
          · exact f
          · rw [rb0] at f
            exact absurd f (by decide)
        refine ⟨x3, st _ (st2 _ (ei_t (by rw [this]; rfl) (ob_v (rg_O rfl) (ob_v e3 rfl)))), h3⟩
      · rw [if_neg full] at hE ⊢
        refine ⟨_, st _ (st2 _ (ei_n (fun e => full (Or.inl ((nI_eq (a := r.2.2.1 + 1) (b := 32767) (by omega) (by omega)).mp e))) rfl)), h2⟩
end
