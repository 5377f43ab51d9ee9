/-! blocks of the class: the direct one and the others, sent for the first time -/
theorem sm_k {n : Nat} (h : n ≤ 2) : ((nI n &&& 31).toBitVec.smod 32).toNat = n := by
  rcases (show n = 0 ∨ n = 1 ∨ n = 2 by omega) with rfl | rfl | rfl <;> decide
theorem iI_shr {z : Int} {n : Nat} (h1 : -1024 ≤ z) (h2 : z ≤ 1023) (hn : n ≤ 2) : iI z >>> (nI n &&& 31) = iI (z / 2 ^ n) := by
  have := div_b n h1 h2
  apply Int32.toInt_inj.mp
  rw [pk_shr _ _ n (sm_k hn), iI_t (by omega) (by omega), iI_t (by omega) (by omega), Int.shiftRight_eq_div_pow]
  rfl
theorem mabs_i {z : Int} (h : z.natAbs < 65536) : mabs (iI z) = nI z.natAbs := by
  have e0 : (0 : Int32) = iI 0 := rfl
  have hle : (0 : Int32) ≤ iI z ↔ 0 ≤ z := by rw [e0]; exact iI_le (by omega) (by omega) (by omega) (by omega)
  unfold mabs
  by_cases s : 0 ≤ z
  · rw [if_pos (hle.mpr s), iI_nat s]
    congr 1
    omega
  · rw [if_neg (fun e => s (hle.mp e)), e0, iI_sub, iI_nat (by omega)]
    congr 1
    omega
theorem am_x {z : Int} {n : Nat} (h : z.natAbs < 65536) (hn : n ≤ 2) : mabs (iI z) >>> (nI n &&& 31) = nI (am n z) := by
  rw [mabs_i h, pk_shrN (by omega) _ n (sm_k hn)]
  rfl
theorem nI_m16 (n : Nat) : nI (n + 16) + (-16) = nI n := by
  rw [iI_n, iI_n, show (-16 : Int32) = iI (-16) from rfl, iI_add]
  congr 1
  omega
theorem full_id {n t : Nat} {a : aS} (h : aB 32766 900 n a) : aFull t a = a := by
  unfold aFull
  have h1 := h.1
  have h2 := h.2.1
  rw [if_neg (by omega)]
theorem sz_11 {n : Nat} (h : n < 2049) : sz n ≤ 12 := by
  by_cases z : n = 0
  · rw [z]; decide
  · unfold sz
    rw [if_neg z]
    have := (Nat.log2_lt z (k := 12)).mpr (by omega)
    omega
theorem sz_1 {n : Nat} (h : n ≤ 1024) : sz n ≤ 11 := by
  by_cases z : n = 0
  · rw [z]; decide
  · unfold sz
    rw [if_neg z]
    have := (Nat.log2_lt z (k := 11)).mpr (by omega)
    omega
def pX (x0 : rg_S) (P first last bf bits N : Nat) (Z : Nat → Int) : Prop := isP P ∧ x0.2.1 195 1 = P ∧ x0.1 106 1 = nI first ∧ x0.1 106 2 = nI last ∧ x0.1 106 3 = nI bf ∧ x0.1 106 4 = nI bits ∧ first ≤ last ∧ last ≤ 63 ∧ bf ≤ 2 ∧ bits ≤ 2 ∧ N ≤ 12288 ∧ ∀ i, i < N → x0.2.2.1 (P + 6) i = iI (Z i) ∧ -1024 ≤ Z i ∧ Z i ≤ 1023
section
variable {X : px_X} {b B : Nat} {w0 w1 : px_W} {x x' x0 y : rg_S} {o t s n c T P first last bf bits N : Nat} {K : kS} {L0 : List Int32} {a a' : aS} {Z : Nat → Int}
theorem pX.st (p : pX x0 P first last bf bits N Z) (S : sX K o x0) (h : xW K o L0 x0 a x) : x.2.1 195 1 = P ∧ x.1 106 1 = nI first ∧ x.1 106 2 = nI last ∧ x.1 106 3 = nI bf ∧ x.1 106 4 = nI bits ∧ ∀ i, i < N → x.2.2.1 (P + 6) i = iI (Z i) := by
  have So := S.2.1
  obtain ⟨p1, p2, p3, p4, p5, p6, _, _, _, _, _, p7⟩ := p
  unfold isP at p1
  obtain ⟨⟨f1, f2, f3, f4⟩, _⟩ := h
  rw [f2, f1 106 1 (by omega) (by omega), f1 106 2 (by omega) (by omega), f1 106 3 (by omega) (by omega), f1 106 4 (by omega) (by omega), f3 (P + 6) (by omega) (by omega) (by omega) (by omega) (fun t _ => by omega)]
  exact ⟨p2, p3, p4, p5, p6, fun i hi => (p7 i hi).1⟩
theorem x_isRef (hx : x.1 106 3 = nI bf) (hb : bf ≤ 2) : fX5_isRefinement X (rg_p lX B w0 x) (B + 106) = some (if 0 < bf then 1 else 0, rg_p lX B w0 x) := by
  unfold fX5_isRefinement
  refine ob_v (rg_I rfl rfl) ?_
  rw [hx]
  by_cases q : 0 < bf
  · rw [if_pos q]
    exact ei_n (nI_nle q (by omega)) rfl
  · rw [if_neg q]
    exact ei_t (by rw [show bf = 0 by omega]; decide) rfl
theorem gPic (hP : isP P) (e : x.2.1 195 1 = P) : gR (rg_p lX B w0 x) (B + 195) 7 1 = some (B + P) := by
  rw [← e]
  exact rg_R rfl rfl
theorem x_dir (S : sX K o x0) (p : pX x0 P first last bf bits N Z) (h : xW K o L0 x0 a x) {R M m : Nat} (hB : aB R M m a) (hc : c < 4) (hT : 64 * T + 64 ≤ N) (hU : bf = 0 → K.U c) (hE : inE K (aDir bf bits c (Z (64 * T)) a)) : ∃ x', fX7_writeDirect X (rg_p lX B w0 x) (B + 195) (nI (64 * T)) (nI c) = some (rg_p lX B w0 x') ∧ xW K o L0 x0 (aDir bf bits c (Z (64 * T)) a) x' := by
  obtain ⟨g1, g2, g3, g4, g5, g6⟩ := p.st S h
  obtain ⟨p1, p2, p3, p4, p5, p6, _, _, pb, pbt, pN, p7⟩ := p
  have hz := p7 (64 * T) (by omega)
  have hd := div_b bits hz.2.1 hz.2.2
  have ez := iI_shr (n := bits) hz.2.1 hz.2.2 pbt
  have start : ∀ r, (if (if 0 < bf then (1 : Int32) else 0) = 0 then
    (gR (rg_p lX B w0 x) (B + 195) 7 12).bind fun v32 =>
    (aN (rg_p lX B w0 x) 0 v32 (nI c)).bind fun v33 =>
    (gR (rg_p lX B w0 x) (B + 195) 7 12).bind fun v34 =>
    (sN id (rg_p lX B w0 x) 0 v34 (nI c) (iI (Z (64 * T) / 2 ^ bits))).bind fun w35 =>
    (gR w35 (B + 195) 7 3).bind fun v36 =>
    (aQ w35 5 v36 (nI c)).bind fun v37 =>
    (fX11_sizeOf X w35 (iI (Z (64 * T) / 2 ^ bits) - v33)).bind fun q38 =>
    (gO q38.2 (B + 195) 7).bind fun o39 =>
    (fX7_putWord X q38.2 (B + 195) v37 q38.1).bind fun q40 =>
    (fX11_sizeOf X q40 (iI (Z (64 * T) / 2 ^ bits) - v33)).bind fun q41 =>
    (gO q41.2 (B + 195) 7).bind fun o42 =>
    (fX7_putNumber X q41.2 (B + 195) (iI (Z (64 * T) / 2 ^ bits) - v33) q41.1).bind fun q43 =>
    some q43
    else (gO (rg_p lX B w0 x) (B + 195) 7).bind fun o44 => (fX7_putBits X (rg_p lX B w0 x) (B + 195) (iI (Z (64 * T) / 2 ^ bits)) 1).bind fun q45 => some q45) = r → fX7_writeDirect X (rg_p lX B w0 x) (B + 195) (nI (64 * T)) (nI c) = r := by
    intro r hr
    unfold fX7_writeDirect
    refine ob_v (gPic p1 g1) (ob_v (rg_C p1.o rfl) (ob_v (rg_A p1.a6 (by decide) _ (by omega) (by decide)) (ob_v (rg_C rfl rfl) (ob_v (rg_I rfl rfl) (ob_v (rg_C rfl rfl) (ob_v (rg_O rfl) (ob_v (x_isRef g4 pb) ?_)))))))
    rw [g6 _ (by omega), g5, ez]
    exact hr
  unfold aDir at hE ⊢
  by_cases q : 0 < bf
  · rw [if_pos q] at hE ⊢
    obtain ⟨x', e', h'⟩ := x_v (X := X) (B := B) (w0 := w0) S h (iI (Z (64 * T) / 2 ^ bits)) (n := 1) (by decide)
    refine ⟨x', start _ ?_, h'⟩
    rw [if_pos q]
    exact ei_n n10 (ob_v (rg_O rfl) (ob_v e' rfl))
  · rw [if_neg q] at hE ⊢
    obtain ⟨v1, v2, v3, v4, v5, v6⟩ := h.2.2.2
    have bp := hB.2.2.2.2.2 c
    generalize hD : Z (64 * T) / 2 ^ bits - a.2.2.2.2 c = d at hE ⊢
    have dd : d.natAbs ≤ 2048 := by omega
    have h1 : xW K o L0 x0 (aPr c (Z (64 * T) / 2 ^ bits) a) (rg_wA x 198 (upd (x.2.2.1 198) c (iI (Z (64 * T) / 2 ^ bits)))) := by
      refine xW_f h S.2.1 (fun _ _ _ => rfl) rfl (fun p' _ _ p3' => by rw [wA_n _ _ p3']) rfl rfl ⟨v1, v2, v3, ?_, ?_, fun j hj => ?_⟩
      · rw [wA_n _ _ (by decide)]; exact v4
      · rw [wA_n _ _ (by decide)]; exact v5
      · rw [wA_s]
        show _ = iI (if j = c then _ else _)
        by_cases e : j = c
        · rw [e, pk_us, if_pos rfl]
        · rw [pk_un e, if_neg e]
          exact v6 j hj
    obtain ⟨x2, e2, h2⟩ := x_w (X := X) (B := B) (w0 := w0) S h1 (t := c) (by omega) (s := sz d.natAbs) (by have := sz_11 (n := d.natAbs) (by omega); omega) (hU (by omega)) (hE.g (gr_ap _ _))
    obtain ⟨x3, e3, h3⟩ := x_num (X := X) (B := B) (w0 := w0) S h2 (z := d) (by omega)
    refine ⟨x3, start _ ?_, h3⟩
    rw [if_neg q]
    refine ei_t rfl (ob_v (rg_C rfl rfl) (ob_v (rg_A rfl (by decide) _ hc (by decide)) (ob_v (rg_C rfl rfl) (ob_v (rg_sA _ rfl (by decide) _ _ hc (by decide)) (ob_v (rg_C rfl rfl) (ob_v (rg_Q rfl (by decide) c (by omega) (by decide) (if_pos (by omega))) ?_))))))
    rw [v6 c hc, iI_sub, hD]
    refine ob_v (x_sizeOf (by omega)) (ob_v (rg_O rfl) (ob_v e2 (ob_v (x_sizeOf (by omega)) (ob_v (rg_O rfl) (ob_v e3 rfl)))))
theorem x_o72 (S : sX K o x0) (ht : t < 8) (hU : K.U t) {k15 : Nat → Int32 → Nat → Int32 → Int32 → px_W → Option (px_W)} {a1 a4 a5 a6 : Int32} : ∀ (n M r : Nat) (a : aS) (x : rg_S), xW K o L0 x0 a x → r < 16 → n < M → n < 1000 → inE K (a16 t n a) → ∃ x', fX7_writeOthers_72 X k15 M (B + 195) a1 (B + (115 + 10 * t)) (nI (16 * n + r)) a4 a5 a6 (rg_p lX B w0 x) = fX7_writeOthers_92 X k15 (B + 195) a1 (B + (115 + 10 * t)) (nI r) a4 a5 a6 (rg_p lX B w0 x') ∧ xW K o L0 x0 (a16 t n a) x' := by
  intro n
  induction n with
  | zero =>
    intro M r a x h hr hM _ _
    obtain ⟨M, rfl⟩ : ∃ M', M = M' + 1 := ⟨M - 1, by omega⟩
    refine ⟨x, ?_, h⟩
    rw [fX7_writeOthers_72.eq_2, Nat.mul_zero, Nat.zero_add]
    exact ei_t (nI_le (b := 15) (by omega) (by omega)) rfl
  | succ n ih =>
    intro M r a x h hr hM hn hE
    obtain ⟨M, rfl⟩ : ∃ M', M = M' + 1 := ⟨M - 1, by omega⟩
    obtain ⟨x1, e1, h1⟩ := x_w (X := X) (B := B) (w0 := w0) S h ht (s := 240) (by decide) hU (hE.g (gr_16 t n _))
    obtain ⟨x2, e2, h2⟩ := ih M r _ x1 h1 hr (by omega) (by omega) hE
    refine ⟨x2, ?_, h2⟩
    rw [fX7_writeOthers_72.eq_2]
    refine ei_n (nI_ge (a := 15) (by omega) (by omega)) (ob_v (rg_O rfl) (ob_v e1 ?_))
    rw [show 16 * (n + 1) + r = 16 * n + r + 16 by omega, nI_m16]
    exact e2
/-- one turn -/
theorem x_oSt (S : sX K o x0) (p : pX x0 P first last bf bits N Z) {q : Nat × aS} {k M : Nat} (h : xW K o L0 x0 q.2 x) (hB : aB 32766 900 0 q.2) (hq : q.1 ≤ 64) (hT : 64 * T + 64 ≤ N) (hk : k ≤ last) (ht : t < 8) (hU : K.U t) (hE : inE K (oSt t bits (Z (64 * T + k)) q).2) : ∃ x', fX7_writeOthers_15 X (M + 1) (B + 195) (nI (64 * T)) (B + (115 + 10 * t)) (nI q.1) (nI k) (rg_p lX B w0 x) = fX7_writeOthers_15 X M (B + 195) (nI (64 * T)) (B + (115 + 10 * t)) (nI (oSt t bits (Z (64 * T + k)) q).1) (nI (k + 1)) (rg_p lX B w0 x') ∧ xW K o L0 x0 (oSt t bits (Z (64 * T + k)) q).2 x' := by
  obtain ⟨g1, g2, g3, g4, g5, g6⟩ := p.st S h
  obtain ⟨p1, p2, p3, p4, p5, p6, _, pl, pb, pbt, pN, p7⟩ := p
  have hz := p7 (64 * T + k) (by omega)
  have ha := am_le bits (Z (64 * T + k))
  have eam := am_x (n := bits) (z := Z (64 * T + k)) (by omega) pbt
  have start : ∀ r, (if nI (am bits (Z (64 * T + k))) = 0 then fX7_writeOthers_131 X (fX7_writeOthers_15 X M) (B + 195) (nI (64 * T)) (B + (115 + 10 * t)) (nI q.1 + 1) (nI k) (rg_p lX B w0 x) else (gO (rg_p lX B w0 x) (B + 195) 7).bind fun o65 => (fX7_sendRun X (rg_p lX B w0 x) (B + 195) (B + (115 + 10 * t))).bind fun q66 => fX7_writeOthers_72 X (fX7_writeOthers_15 X M) FU (B + 195) (nI (64 * T)) (B + (115 + 10 * t)) (nI q.1) (nI k) (iI (Z (64 * T + k))) (nI (am bits (Z (64 * T + k)))) q66) = r → fX7_writeOthers_15 X (M + 1) (B + 195) (nI (64 * T)) (B + (115 + 10 * t)) (nI q.1) (nI k) (rg_p lX B w0 x) = r := by
    intro r hr
    rw [fX7_writeOthers_15.eq_2]
    refine ob_v (rg_C rfl rfl) (ob_v (rg_I rfl rfl) ?_)
    rw [g3, nI_add]
    refine ei_n (nI_nlt hk (by omega)) (ob_v (gPic p1 g1) (ob_v (rg_C p1.o rfl) (ob_v (rg_A p1.a6 (by decide) _ (by omega) (by decide)) (ob_v (rg_C rfl rfl) (ob_v (rg_I rfl rfl) ?_)))))
    rw [g6 _ (by omega), g5, eam]
    exact hr
  unfold oSt at hE ⊢
  generalize Z (64 * T + k) = z at *
  by_cases e0 : am bits z = 0
  · rw [if_pos e0] at hE ⊢
    refine ⟨x, start _ (ei_t (by rw [e0]; rfl) ?_), h⟩
    unfold fX7_writeOthers_131
    rw [nI_1, nI_1]
  · rw [if_neg e0] at hE ⊢
    have hs := sz_1 (n := am bits z) (by omega)
    have hzc : iI (zc bits z) = if iI z ≤ 0 then -nI (am bits z) else nI (am bits z) := by
      have hle : iI z ≤ 0 ↔ z ≤ 0 := iI_le (b := 0) (by omega) (by omega) (by omega) (by omega)
      unfold zc
      by_cases s : z ≤ 0
      · rw [if_pos s, if_pos (hle.mpr s), iI_n, iI_neg]
      · rw [if_neg s, if_neg (fun e => s (hle.mp e)), iI_n]
    obtain ⟨x1, e1, h1⟩ := x_send (X := X) (B := B) (w0 := w0) S h (by decide) (by decide) hB ht hU (hE.g ((gr_16 t _ _).trans ((gr_ap _ _).trans (gr_ap _ _))))
    obtain ⟨x2, e2, h2⟩ := x_o72 (X := X) (B := B) (w0 := w0) S ht hU (k15 := fX7_writeOthers_15 X M) (a1 := nI (64 * T)) (a4 := nI k) (a5 := iI z) (a6 := nI (am bits z)) (q.1 / 16) FU (q.1 % 16) _ x1 h1 (by omega) (by unfold FU; omega) (by omega) (hE.g ((gr_ap _ _).trans (gr_ap _ _)))
    rw [show 16 * (q.1 / 16) + q.1 % 16 = q.1 by omega] at e2
    obtain ⟨x3, e3, h3⟩ := x_w (X := X) (B := B) (w0 := w0) S h2 ht (s := 16 * (q.1 % 16) + sz (am bits z)) (by omega) hU (hE.g (gr_ap _ _))
    obtain ⟨x4, e4, h4⟩ := x_num (X := X) (B := B) (w0 := w0) S h3 (z := zc bits z) (by rw [zc_abs]; omega)
    rw [zc_abs] at e4 h4
    have sza : ∀ w, fX11_sizeOf X w (nI (am bits z)) = some (nI (sz (am bits z)), w) := by
      intro w
      rw [iI_n]
      exact x_sizeOf (z := (am bits z : Int)) (by omega)
    refine ⟨x4, start _ (ei_n (nI_ne0 (by omega) (by omega)) (ob_v (rg_O rfl) (ob_v e1 (e2.trans ?_)))), h4⟩
    unfold fX7_writeOthers_92
    refine ob_v (sza _) (ob_v (rg_O rfl) ?_)
    rw [show (16 : Int32) = nI 16 from rfl, pk_mul, nI_add]
    refine ob_v e3 ?_
    have fin : ∀ v, v = iI (zc bits z) → fX7_writeOthers_121 X (fX7_writeOthers_15 X M) (B + 195) (nI (64 * T)) (B + (115 + 10 * t)) (nI k) (nI (am bits z)) v (B + 195) (rg_p lX B w0 x3) = fX7_writeOthers_15 X M (B + 195) (nI (64 * T)) (B + (115 + 10 * t)) (nI 0) (nI (k + 1)) (rg_p lX B w0 x4) := by
      intro v hv
      unfold fX7_writeOthers_121
      refine ob_v (sza _) (ob_v (rg_O rfl) ?_)
      rw [hv]
      refine ob_v e4 ?_
      unfold fX7_writeOthers_131
      rw [nI_1]
      rfl
    by_cases s : iI z ≤ 0
    · rw [if_pos s] at hzc
      exact ei_t s (fin _ hzc.symm)
    · rw [if_neg s] at hzc
      exact ei_n s (fin _ hzc.symm)
theorem x_o15 (S : sX K o x0) (p : pX x0 P first last bf bits N Z) {fr n : Nat} (hB : aB 32766 900 0 a) (hb : a.2.2.1 = []) (hT : 64 * T + 64 ≤ N) (hn : fr + n = last + 1) (ht : t < 8) (hU : K.U t) (hE : inE K (oLp t bits (fun k => Z (64 * T + k)) fr a n).2) : ∀ (j M i : Nat) (x : rg_S), i + j = n → j < M → xW K o L0 x0 (oLp t bits (fun k => Z (64 * T + k)) fr a i).2 x → ∃ x', fX7_writeOthers_15 X M (B + 195) (nI (64 * T)) (B + (115 + 10 * t)) (nI (oLp t bits (fun k => Z (64 * T + k)) fr a i).1) (nI (fr + i)) (rg_p lX B w0 x) = fX7_writeOthers_137 X (B + 195) (B + (115 + 10 * t)) (nI (oLp t bits (fun k => Z (64 * T + k)) fr a n).1) (rg_p lX B w0 x') ∧ xW K o L0 x0 (oLp t bits (fun k => Z (64 * T + k)) fr a n).2 x' := by
  have pl := p.2.2.2.2.2.2.2.1
  intro j
  induction j with
  | zero =>
    intro M i x hi hM h
    obtain rfl : i = n := by omega
    obtain ⟨M, rfl⟩ : ∃ M', M = M' + 1 := ⟨M - 1, by omega⟩
    refine ⟨x, ?_, h⟩
    rw [fX7_writeOthers_15.eq_2]
    refine ob_v (rg_C rfl rfl) (ob_v (rg_I rfl rfl) ?_)
    rw [(p.st S h).2.2.1]
    exact ei_t (nI_lt (by omega) (by omega)) rfl
  | succ j ih =>
    intro M i x hi hM h
    obtain ⟨M, rfl⟩ : ∃ M', M = M' + 1 := ⟨M - 1, by omega⟩
    obtain ⟨b1, b2, _⟩ := oLp_b (t := t) (bits := bits) (fr := fr) (Z := fun k => Z (64 * T + k)) hB hb i
    have g := gr_oLp t bits (fun k => Z (64 * T + k)) fr a (i + 1) j
    rw [show i + 1 + j = n by omega] at g
    obtain ⟨x1, e1, h1⟩ := x_oSt (X := X) (B := B) (w0 := w0) (M := M) S p h b2 (by omega) hT (k := fr + i) (by omega) ht hU (hE.g g)
    obtain ⟨x2, e2, h2⟩ := ih M (i + 1) x1 (by omega) (by omega) h1
    exact ⟨x2, e1.trans e2, h2⟩
theorem x_oth (S : sX K o x0) (p : pX x0 P first last bf bits N Z) (h : xW K o L0 x0 a x) (hB : aB 32766 900 0 a) (hb : a.2.2.1 = []) (hT : 64 * T + 64 ≤ N) (hl : 0 < last) (ht : t < 8) (hU : K.U t) (hE : inE K (aOth first last bits t (fun k => Z (64 * T + k)) a)) : ∃ x', fX7_writeOthers X (rg_p lX B w0 x) (B + 195) (nI (64 * T)) (B + (115 + 10 * t)) = some (rg_p lX B w0 x') ∧ xW K o L0 x0 (aOth first last bits t (fun k => Z (64 * T + k)) a) x' := by
  have pl := p.2.2.2.2.2.2.2.1
  have pf := p.2.2.2.2.2.2.1
  obtain ⟨g1, g2, g3, g4, g5, g6⟩ := p.st S h
  obtain ⟨x1, e1, h1⟩ := x_o15 (X := X) (B := B) (w0 := w0) S p (fr := max 1 first) (n := last + 1 - max 1 first) hB hb hT (by omega) ht hU (hE.g (gr_oEnd _ _ _)) _ FU 0 x (Nat.zero_add _) (by unfold FU; omega) h
  obtain ⟨b1, b2, b3, b4⟩ := oLp_b (t := t) (bits := bits) (fr := max 1 first) (Z := fun k => Z (64 * T + k)) hB hb (last + 1 - max 1 first)
  have st : ∀ r, fX7_writeOthers_137 X (B + 195) (B + (115 + 10 * t)) (nI (oLp t bits (fun k => Z (64 * T + k)) (max 1 first) a (last + 1 - max 1 first)).1) (rg_p lX B w0 x1) = r → fX7_writeOthers X (rg_p lX B w0 x) (B + 195) (nI (64 * T)) (B + (115 + 10 * t)) = r := by
    intro r hr
    unfold fX7_writeOthers
    refine ob_v (rg_C rfl rfl) (ob_v (rg_I rfl rfl) ?_)
    rw [g2, show mmax 1 (nI first) = nI (max 1 first) by
      show (if nI 1 < nI first then nI first else nI 1) = nI (max 1 first)
      by_cases q : 1 < first
      · rw [if_pos (nI_lt (a := 1) q (by omega)), Nat.max_eq_right (by omega)]
      · rw [if_neg (nI_nlt (b := first) (a := 1) (by omega) (by omega)), Nat.max_eq_left (by omega)]]
    exact e1.trans hr
  unfold aOth at hE ⊢
  generalize oLp t bits (fun k => Z (64 * T + k)) (max 1 first) a (last + 1 - max 1 first) = q at *
  obtain ⟨g1, g2, g3, g4, g5, g6⟩ := p.st S h1
  unfold oEnd at hE ⊢
  by_cases q0 : q.1 = 0
  · rw [if_pos q0] at hE ⊢
    obtain ⟨x2, e2, h2⟩ := x_f168 (X := X) (B := B) (w0 := w0) S h1 (b2.m (by decide) (by decide) (Nat.le_refl _)) ht hU (by rw [full_id b2]; exact hE)
    rw [full_id b2] at h2
    refine ⟨x2, st _ ?_, h2⟩
    rw [q0]
    unfold fX7_writeOthers_137 fX7_writeOthers_160
    exact ei_t (by decide) (ei_t (by decide) e2)
  · rw [if_neg q0] at hE ⊢
    by_cases f0 : first = 0
    · rw [if_pos f0] at hE ⊢
      obtain ⟨x2, e2, h2⟩ := x_w (X := X) (B := B) (w0 := w0) S h1 ht (s := 0) (by decide) hU hE
      have b2' : aB 32766 900 0 (ap [eW t 0] q.2) := b2
      obtain ⟨x3, e3, h3⟩ := x_f168 (X := X) (B := B) (w0 := w0) S h2 (b2'.m (by decide) (by decide) (Nat.le_refl _)) ht hU (by rw [full_id b2']; exact hE)
      rw [full_id b2'] at h3
      refine ⟨x3, st _ ?_, h3⟩
      unfold fX7_writeOthers_137
      refine ei_n (nI_nle (by omega) (by omega)) (ob_v (rg_C rfl rfl) (ob_v (rg_O rfl) (ob_v (v := (1, rg_p lX B w0 x1)) ?_ (ei_n n10 (ob_v (rg_O rfl) (ob_v e2 e3))))))
      unfold fX5_isWhole
      refine ob_v (rg_I rfl rfl) (ei_t (by rw [g2, f0]; rfl) (ob_v (rg_I rfl rfl) ?_))
      rw [g3]
      exact ei_n (nI_nle hl (by omega)) rfl
    · rw [if_neg f0] at hE ⊢
      obtain ⟨x2, e2, h2⟩ := x_long (X := X) (B := B) (w0 := w0) S h1 (N := 900) (by decide) (b2.m (Nat.le_refl _) (Nat.le_refl _) (by decide))
      obtain ⟨x3, e3, h3⟩ := x_f168 (X := X) (B := B) (w0 := w0) S h2 ((aB_long b2).m (by decide) (by decide) (Nat.le_refl _)) ht hU hE
      refine ⟨x3, st _ ?_, h3⟩
      unfold fX7_writeOthers_137
      refine ei_n (nI_nle (by omega) (by omega)) (ob_v (rg_C rfl rfl) (ob_v (rg_O rfl) (ob_v (v := (0, rg_p lX B w0 x1)) ?_ (ei_t rfl ?_))))
      · unfold fX5_isWhole
        refine ob_v (rg_I rfl rfl) ?_
        rw [g2]
        exact ei_n (nI_ne0 (by omega) (by omega)) rfl
      · unfold fX7_writeOthers_160
        exact ei_n (nI_nle (by omega) (by omega)) (ob_v (rg_O rfl) (ob_v e2 e3))
end
