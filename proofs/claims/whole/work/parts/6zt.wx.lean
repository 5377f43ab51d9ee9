/-! the class' side of the walk: words, bits, runs -/
def kS : Type := Nat × (Nat → Nat → Nat) × (Nat → Nat → Nat) × List ev × (Nat → Prop)
def kS.md (K : kS) : Nat := K.1
def kS.cw (K : kS) : Nat → Nat → Nat := K.2.1
def kS.cl (K : kS) : Nat → Nat → Nat := K.2.2.1
def kS.Ef (K : kS) : List ev := K.2.2.2.1
def kS.U (K : kS) : Nat → Prop := K.2.2.2.2
/-- when words are written, each is one that was counted -/
def inE (K : kS) (a : aS) : Prop := K.md = 0 → ∀ v, v ∈ a.1 → v ∈ K.Ef
theorem inE.g {K : kS} {a a' : aS} (h : inE K a') (g : gr a a') : inE K a := fun m v hv => h m v (g.m hv)
def lst (f : Nat → Int32) (l : List Nat) : Prop := ∀ i, i < l.length → f i = nI (l.getD i 0)
def FXw (o : Nat) (x0 x : rg_S) : Prop := (∀ p k, ¬ (p = 195 ∧ (k = 5 ∨ k = 6 ∨ k = 7 ∨ k = 8 ∨ k = 10)) → ¬ (p = o ∧ (k = 1 ∨ k = 2)) → x.1 p k = x0.1 p k) ∧ x.2.1 = x0.2.1 ∧ (∀ p, p ≠ o + 1 → p ≠ 196 → p ≠ 197 → p ≠ 198 → (∀ t, t < 8 → p ≠ 115 + 10 * t + 1) → x.2.2.1 p = x0.2.2.1 p) ∧ x.2.2.2 = x0.2.2.2
def sX (K : kS) (o : Nat) (x0 : rg_S) : Prop := (K.md = 0 ∨ K.md = 1) ∧ (o = 3 ∨ o = 5) ∧ x0.1 195 4 = nI K.md ∧ x0.2.1 195 0 = o ∧ (K.md = 0 → ∀ t s, eW t s ∈ K.Ef → x0.2.2.1 (115 + 10 * t + 2) s = nI (K.cw t s) ∧ x0.2.2.1 (115 + 10 * t + 3) s = nI (K.cl t s) ∧ K.cl t s ≤ 16)
def xV (a : aS) (x : rg_S) : Prop := x.1 195 7 = nI a.2.1 ∧ x.1 195 8 = nI a.2.2.1.length ∧ x.1 195 10 = nI a.2.2.2.1.length ∧ lst (x.2.2.1 196) a.2.2.1 ∧ lst (x.2.2.1 197) a.2.2.2.1 ∧ ∀ c, c < 4 → x.2.2.1 198 c = iI (a.2.2.2.2 c)
def xW (K : kS) (o : Nat) (L0 : List Int32) (x0 : rg_S) (a : aS) (x : rg_S) : Prop := FXw o x0 x ∧ xE x o (emit K.md K.cw K.cl a.1 (L0, 0, 0)) ∧ (K.md = 1 → ∀ t s, K.U t → t < 8 → s < 256 → x.2.2.1 (115 + 10 * t + 1) s = nI (cnt a.1 t s)) ∧ xV a x
theorem lst_nil {f : Nat → Int32} : lst f [] := fun i hi => absurd hi (Nat.not_lt_zero _)
theorem drop_c {l : List Nat} {j : Nat} (h : j < l.length) : l.drop j = l.getD j 0 :: l.drop (j + 1) := by
  rw [List.drop_eq_getElem_cons h, List.getD_eq_getElem?_getD, List.getElem?_eq_getElem h]
  rfl
theorem lst_snoc {f : Nat → Int32} {l : List Nat} {c : Nat} (h : lst f l) : lst (upd f l.length (nI c)) (l ++ [c]) := by
  intro i hi
  rw [List.length_append, List.length_singleton] at hi
  by_cases e : i = l.length
  · rw [e, pk_us, List.getD_eq_getElem?_getD, List.getElem?_append_right (Nat.le_refl _), Nat.sub_self]
    rfl
  · rw [pk_un e, h i (by omega), List.getD_eq_getElem?_getD, List.getD_eq_getElem?_getD, List.getElem?_append_left (by omega)]
theorem getD_mem {l : List Nat} {j : Nat} (h : j < l.length) : l.getD j 0 ∈ l := by
  rw [List.getD_eq_getElem?_getD, List.getElem?_eq_getElem h]
  exact List.getElem_mem h
theorem ap_c (v : ev) (D : List ev) (a : aS) : ap (v :: D) a = ap D (ap [v] a) := by
  unfold ap
  rw [List.append_assoc]
  rfl
theorem ap_0 (a : aS) : ap [] a = a := by
  unfold ap
  rw [List.append_nil]
section
variable {X : px_X} {b B : Nat} {w0 w1 : px_W} {x x' x0 y : rg_S} {o t s n : Nat} {K : kS} {L0 : List Int32} {a a' : aS}
theorem sX.c (S : sX K o x0) (h : xW K o L0 x0 a x) : x.1 195 4 = nI K.md := by
  rw [h.1.1 195 4 (by omega) (by have := S.2.1; omega)]
  exact S.2.2.1
theorem sX.r (S : sX K o x0) (h : xW K o L0 x0 a x) : x.2.1 195 0 = o := by
  rw [h.1.2.1]
  exact S.2.2.2.1
theorem xW_b (h : xW K o L0 x0 a x) (So : o = 3 ∨ o = 5) (m : K.md = 0) (hF : FXb o x x') (e2 : a'.2 = a.2) (hE : xE x' o (emit K.md K.cw K.cl a'.1 (L0, 0, 0))) : xW K o L0 x0 a' x' := by
  obtain ⟨h1, h2, h3, h4, h5, h6, h7, h8, h9⟩ := h
  obtain ⟨f1, f2, f3, f4⟩ := hF
  refine ⟨⟨fun p k hp ho => ?_, f2.trans h1.2.1, fun p p1 p2 p3 p4 p5 => (f3 p p1).trans (h1.2.2.1 p p1 p2 p3 p4 p5), f4.trans h1.2.2.2⟩, hE, fun e => absurd (m.symm.trans e) (by decide), ?_⟩
  · rw [f1 p k (by omega) ho]
    exact h1.1 p k hp ho
  · unfold xV
    rw [e2, f1 195 7 (by omega) (by omega), f1 195 8 (by omega) (by omega), f1 195 10 (by omega) (by omega), f3 196 (by omega), f3 197 (by omega), f3 198 (by omega)]
    exact ⟨h4, h5, h6, h7, h8, h9⟩
theorem xW_f (h : xW K o L0 x0 a x) (So : o = 3 ∨ o = 5) (f1 : ∀ p k, ¬ (p = 195 ∧ (k = 7 ∨ k = 8 ∨ k = 10)) → x'.1 p k = x.1 p k) (f2 : x'.2.1 = x.2.1) (f3 : ∀ p, p ≠ 196 → p ≠ 197 → p ≠ 198 → x'.2.2.1 p = x.2.2.1 p) (f4 : x'.2.2.2 = x.2.2.2) (ea : a'.1 = a.1) (g : xV a' x') : xW K o L0 x0 a' x' := by
  obtain ⟨h1, h2, h3, _⟩ := h
  refine ⟨⟨fun p k hp ho => ?_, f2.trans h1.2.1, fun p p1 p2 p3 p4 p5 => (f3 p p2 p3 p4).trans (h1.2.2.1 p p1 p2 p3 p4 p5), f4.trans h1.2.2.2⟩, ?_, fun e t s hU ht hs => ?_, g⟩
  · rw [f1 p k (by omega)]
    exact h1.1 p k hp ho
  · unfold xE xO
    rw [ea, f1 o 1 (by omega), f1 o 2 (by omega), f3 (o + 1) (by omega) (by omega) (by omega), f1 195 5 (by omega), f1 195 6 (by omega)]
    exact h2
  · rw [f3 _ (by omega) (by omega) (by omega), ea]
    exact h3 e t s hU ht hs
theorem x_w (S : sX K o x0) (h : xW K o L0 x0 a x) (ht : t < 8) (hs : s < 256) (hU : K.U t) (hE : inE K (ap [eW t s] a)) : ∃ x', fX7_putWord X (rg_p lX B w0 x) (B + 195) (B + (115 + 10 * t)) (nI s) = some (rg_p lX B w0 x') ∧ xW K o L0 x0 (ap [eW t s] a) x' := by
  have ct := S.c h
  have R0 := S.r h
  obtain ⟨Smd, So, S4, S0, SE⟩ := S
  have hT : isT (115 + 10 * t) := ⟨t, ht, rfl⟩
  rcases Smd with m | m
  · obtain ⟨c1, c2, c3⟩ := SE m t s (hE m _ (List.mem_append_right _ (List.mem_singleton.mpr rfl)))
    obtain ⟨x', e', hE', hF⟩ := x_wordW (X := X) (B := B) (w0 := w0) (W := K.cw t s) (l := K.cl t s) hT So R0 h.2.1 (by rw [ct, m]; rfl) hs (by rw [h.1.2.2.1 _ (by omega) (by omega) (by omega) (by omega) (fun t' _ => by omega)]; exact c1) (by rw [h.1.2.2.1 _ (by omega) (by omega) (by omega) (by omega) (fun t' _ => by omega)]; exact c2) c3
    refine ⟨x', e', xW_b h So m hF rfl ?_⟩
    rw [m] at hE' ⊢
    show xE x' o (emit 0 K.cw K.cl (a.1 ++ [eW t s]) _)
    rw [emit_0]
    exact hE'
  · refine ⟨_, x_wordC (X := X) (B := B) (w0 := w0) hT (by rw [ct, m]; rfl) hs (h.2.2.1 m t s hU ht hs), ?_⟩
    obtain ⟨h1, h2, h3, h4, h5, h6, h7, h8, h9⟩ := h
    refine ⟨⟨h1.1, h1.2.1, fun p p1 p2 p3 p4 p5 => ?_, h1.2.2.2⟩, ?_, fun _ t' s' hU' ht' hs' => ?_, h4, h5, h6, ?_, ?_, ?_⟩
    · rw [wA_n _ _ (p5 t ht)]
      exact h1.2.2.1 p p1 p2 p3 p4 p5
    · unfold xE xO
      rw [wA_n _ _ (by omega), m, emit_1]
      rw [m, emit_1] at h2
      exact h2
    · show (rg_wA x _ _).2.2.1 _ s' = nI (cnt (a.1 ++ [eW t s]) t' s')
      rw [cnt_w]
      by_cases q : t' = t
      · subst q
        rw [wA_s]
        by_cases r : s' = s
        · rw [r, pk_us, if_pos ⟨rfl, rfl⟩]
        · rw [pk_un r, if_neg (fun e => r e.2)]
          exact h3 m t' s' hU' ht' hs'
      · rw [wA_n _ _ (by omega), if_neg (fun e => q e.1)]
        exact h3 m t' s' hU' ht' hs'
    · rw [wA_n _ _ (by omega)]
      exact h7
    · rw [wA_n _ _ (by omega)]
      exact h8
    · rw [wA_n _ _ (by omega)]
      exact h9
theorem x_v (S : sX K o x0) (h : xW K o L0 x0 a x) (v : Int32) (hn : n ≤ 31) : ∃ x', fX7_putBits X (rg_p lX B w0 x) (B + 195) v (nI n) = some (rg_p lX B w0 x') ∧ xW K o L0 x0 (ap [eV v n] a) x' := by
  have ct := S.c h
  have R0 := S.r h
  rcases S.1 with m | m
  · obtain ⟨x', e', hE', hF⟩ := x_putBits (X := X) (B := B) (w0 := w0) (v := v) S.2.1 R0 h.2.1 hn (by rw [ct, m]; rfl)
    refine ⟨x', e', xW_b h S.2.1 m hF rfl ?_⟩
    rw [m] at hE' ⊢
    show xE x' o (emit 0 K.cw K.cl (a.1 ++ [eV v n]) _)
    rw [emit_0]
    exact hE'
  · refine ⟨x, ?_, h.1, ?_, fun _ t s hU ht hs => ?_, h.2.2.2⟩
    · unfold fX7_putBits
      refine ob_v (rg_I rfl rfl) ?_
      rw [ct, m]
      exact ei_n n10 rfl
    · have := h.2.1
      rw [m, emit_1] at this ⊢
      exact this
    · show _ = nI (cnt (a.1 ++ [eV v n]) t s)
      rw [show a.1 ++ [eV v n] = a.1 ++ [.inr (.inl (v, n))] from rfl, cnt_n]
      exact h.2.2.1 m t s hU ht hs
theorem x_num (S : sX K o x0) (h : xW K o L0 x0 a x) {z : Int} (hz : z.natAbs < 65536) : ∃ x', fX7_putNumber X (rg_p lX B w0 x) (B + 195) (iI z) (nI (sz z.natAbs)) = some (rg_p lX B w0 x') ∧ xW K o L0 x0 (ap [eV (nv z) (sz z.natAbs)] a) x' := by
  have h16 := sz_16 hz
  have hle : iI z ≤ 0 ↔ z ≤ 0 := iI_le (b := 0) (by omega) (by omega) (by omega) (by omega)
  obtain ⟨x', e', hx⟩ := x_v (X := X) (B := B) (w0 := w0) S h (nv z) (n := sz z.natAbs) (by omega)
  refine ⟨x', ?_, hx⟩
  unfold fX7_putNumber fX7_putNumber_12
  unfold nv at e'
  by_cases q : z ≤ 0
  · rw [if_pos q] at e'
    exact ei_t (hle.mpr q) (ob_v (rg_O rfl) (ob_v e' rfl))
  · rw [if_neg q] at e'
    exact ei_n (fun h => q (hle.mp h)) (ob_v (rg_O rfl) (ob_v e' rfl))
theorem x_s38 (S : sX K o x0) : ∀ (k j M : Nat) (a : aS) (x : rg_S), xW K o L0 x0 a x → j + k = a.2.2.1.length → a.2.2.1.length ≤ 1024 → k < M → ∃ x', fX7_sendRun_38 X M (B + 195) (nI j) (rg_p lX B w0 x) = fX7_sendRun_63 X (B + 195) (rg_p lX B w0 x') ∧ xW K o L0 x0 (ap (bts (a.2.2.1.drop j)) a) x' := by
  intro k
  induction k with
  | zero =>
    intro j M a x h hj hl hM
    obtain ⟨M, rfl⟩ : ∃ M', M = M' + 1 := ⟨M - 1, by omega⟩
    refine ⟨x, ?_, ?_⟩
    · rw [fX7_sendRun_38.eq_2]
      refine ob_v (rg_I rfl rfl) ?_
      rw [h.2.2.2.2.1]
      exact ei_t (nI_le (by omega) (by omega)) rfl
    · rw [List.drop_eq_nil_of_le (by omega)]
      show xW K o L0 x0 (ap [] a) x
      rw [ap_0]
      exact h
  | succ k ih =>
    intro j M a x h hj hl hM
    obtain ⟨M, rfl⟩ : ∃ M', M = M' + 1 := ⟨M - 1, by omega⟩
    obtain ⟨x1, e1, h1⟩ := x_v (X := X) (B := B) (w0 := w0) S h (nI (a.2.2.1.getD j 0)) (n := 1) (by decide)
    obtain ⟨x2, e2, h2⟩ := ih (j + 1) M (ap [eV (nI (a.2.2.1.getD j 0)) 1] a) x1 h1 (by show j + 1 + k = a.2.2.1.length; omega) hl (by omega)
    refine ⟨x2, ?_, ?_⟩
    · rw [fX7_sendRun_38.eq_2]
      refine ob_v (rg_I rfl rfl) ?_
      rw [h.2.2.2.2.1]
      refine ei_n (nI_ge (by omega) (by omega)) (ob_v (rg_C rfl rfl) (ob_v (rg_A rfl (by decide) _ (by omega) (by decide)) (ob_v (rg_O rfl) ?_)))
      rw [h.2.2.2.2.2.2.1 j (by omega)]
      refine ob_v e1 ?_
      rw [nI_1]
      exact e2
    · rw [drop_c (by omega)]
      show xW K o L0 x0 (ap (eV _ 1 :: bts (a.2.2.1.drop (j + 1))) a) x2
      rw [ap_c]
      exact h2
theorem x_send (S : sX K o x0) (h : xW K o L0 x0 a x) {R N m : Nat} (hR : R ≤ 32767) (hN : N ≤ 1024) (hB : aB R N m a) (ht : t < 8) (hU : K.U t) (hE : inE K (aSend t a)) : ∃ x', fX7_sendRun X (rg_p lX B w0 x) (B + 195) (B + (115 + 10 * t)) = some (rg_p lX B w0 x') ∧ xW K o L0 x0 (aSend t a) x' := by
  have b1 := hB.1
  have b2 := hB.2.1
  by_cases z : a.2.1 = 0
  · refine ⟨x, ?_, by rw [sd_0 z]; exact h⟩
    unfold fX7_sendRun
    exact ob_v (rg_I rfl rfl) (ei_t (by rw [h.2.2.2.1, z]; rfl) rfl)
  · have s1 : 1 ≤ sz a.2.1 := by rw [sz_s z]; omega
    have s15 : sz a.2.1 ≤ 15 := by
      rw [sz_s z]
      by_cases q : a.2.1 / 2 = 0
      · rw [q]; decide
      · unfold sz
        rw [if_neg q]
        have := (Nat.log2_lt q (k := 14)).mpr (by omega)
        omega
    have eS1 : aSend t a = (a.1 ++ aRun t a, 0, [], a.2.2.2) := if_neg z
    have g1 : gr (ap [eW t (16 * (sz a.2.1 - 1))] a) (aSend t a) := by
      rw [eS1]
      refine ⟨eV (nI a.2.1) (sz a.2.1 - 1) :: bts a.2.2.1, ?_⟩
      show a.1 ++ aRun t a = a.1 ++ [_] ++ _
      rw [List.append_assoc]
      rfl
    obtain ⟨x1, e1, h1⟩ := x_w (X := X) (B := B) (w0 := w0) S h ht (s := 16 * (sz a.2.1 - 1)) (by omega) hU (hE.g g1)
    obtain ⟨x2, e2, h2⟩ := x_v (X := X) (B := B) (w0 := w0) S h1 (nI a.2.1) (n := sz a.2.1 - 1) (by omega)
    obtain ⟨x3, e3, h3⟩ := x_s38 (X := X) (B := B) (w0 := w0) S a.2.2.1.length 0 FU _ x2 h2 (Nat.zero_add _) (by show a.2.2.1.length ≤ 1024; omega) (by unfold FU; omega)
    refine ⟨rg_wI (rg_wI x3 195 7 0) 195 8 0, ?_, ?_⟩
    · unfold fX7_sendRun
      refine ob_v (rg_I rfl rfl) ?_
      rw [h.2.2.2.1]
      refine ei_n (nI_ne0 (by omega) (by omega)) (ob_v (rg_I rfl rfl) ?_)
      rw [h.2.2.2.1, iI_n]
      refine ob_v (x_sizeOf (by omega)) (ob_v (rg_O rfl) ?_)
      dsimp only
      rw [show ((a.2.1 : Int)).natAbs = a.2.1 from Int.natAbs_natCast _, show (1 : Int32) = nI 1 from rfl, pk_sub s1, show (16 : Int32) = nI 16 from rfl, pk_mul]
      refine ob_v e1 (ob_v (rg_I rfl rfl) (ob_v (rg_O rfl) ?_))
      rw [h1.2.2.2.1]
      refine ob_v e2 ?_
      refine (show fX7_sendRun_38 X FU (B + 195) (nI 0) _ = _ from e3).trans ?_
      unfold fX7_sendRun_63
      exact ob_v (rg_pI rfl rfl _) (ob_v (rg_pI rfl rfl _) rfl)
    · have ea : (aSend t a).1 = (ap (bts (List.drop 0 a.2.2.1)) (ap [eV (nI a.2.1) (sz a.2.1 - 1)] (ap [eW t (16 * (sz a.2.1 - 1))] a))).1 := by
        rw [eS1]
        show a.1 ++ aRun t a = a.1 ++ [_] ++ [_] ++ _
        rw [List.append_assoc, List.append_assoc]
        rfl
      obtain ⟨v1, v2, v3, v4, v5, v6⟩ := h3.2.2.2
      refine xW_f h3 S.2.1 (fun p k hp => ?_) rfl (fun _ _ _ _ => rfl) rfl ea ?_
      · rw [wI_n _ _ (by omega), wI_n _ _ (by omega)]
      · rw [eS1]
        refine ⟨?_, ?_, ?_, lst_nil, v5, v6⟩
        · rw [wI_n _ _ (by omega), wI_s]; rfl
        · rw [wI_s]; rfl
        · rw [wI_n _ _ (by omega), wI_n _ _ (by omega)]
          exact v3
theorem x_c2 (S : sX K o x0) : ∀ (k j M : Nat) (a : aS) (x : rg_S), xW K o L0 x0 a x → j + k = a.2.2.2.1.length → a.2.2.2.1.length ≤ 64 → k < M → ∃ x', fX7_sendBitsToCome_2 X M (B + 195) (nI j) (rg_p lX B w0 x) = fX7_sendBitsToCome_27 X (B + 195) (rg_p lX B w0 x') ∧ xW K o L0 x0 (ap (bts (a.2.2.2.1.drop j)) a) x' := by
  intro k
  induction k with
  | zero =>
    intro j M a x h hj hl hM
    obtain ⟨M, rfl⟩ : ∃ M', M = M' + 1 := ⟨M - 1, by omega⟩
    refine ⟨x, ?_, ?_⟩
    · rw [fX7_sendBitsToCome_2.eq_2]
      refine ob_v (rg_I rfl rfl) ?_
      rw [h.2.2.2.2.2.1]
      exact ei_t (nI_le (by omega) (by omega)) rfl
    · rw [List.drop_eq_nil_of_le (by omega)]
      show xW K o L0 x0 (ap [] a) x
      rw [ap_0]
      exact h
  | succ k ih =>
    intro j M a x h hj hl hM
    obtain ⟨M, rfl⟩ : ∃ M', M = M' + 1 := ⟨M - 1, by omega⟩
    obtain ⟨x1, e1, h1⟩ := x_v (X := X) (B := B) (w0 := w0) S h (nI (a.2.2.2.1.getD j 0)) (n := 1) (by decide)
    obtain ⟨x2, e2, h2⟩ := ih (j + 1) M (ap [eV (nI (a.2.2.2.1.getD j 0)) 1] a) x1 h1 (by show j + 1 + k = a.2.2.2.1.length; omega) hl (by omega)
    refine ⟨x2, ?_, ?_⟩
    · rw [fX7_sendBitsToCome_2.eq_2]
      refine ob_v (rg_I rfl rfl) ?_
      rw [h.2.2.2.2.2.1]
      refine ei_n (nI_ge (by omega) (by omega)) (ob_v (rg_C rfl rfl) (ob_v (rg_A rfl (by decide) _ (by omega) (by decide)) (ob_v (rg_O rfl) ?_)))
      rw [h.2.2.2.2.2.2.2.1 j (by omega)]
      refine ob_v e1 ?_
      rw [nI_1]
      exact e2
    · rw [drop_c (by omega)]
      show xW K o L0 x0 (ap (eV _ 1 :: bts (a.2.2.2.1.drop (j + 1))) a) x2
      rw [ap_c]
      exact h2
theorem x_come (S : sX K o x0) (h : xW K o L0 x0 a x) (hl : a.2.2.2.1.length ≤ 64) : ∃ x', fX7_sendBitsToCome X (rg_p lX B w0 x) (B + 195) = some (rg_p lX B w0 x') ∧ xW K o L0 x0 (aCome a) x' := by
  obtain ⟨x3, e3, h3⟩ := x_c2 (X := X) (B := B) (w0 := w0) S a.2.2.2.1.length 0 FU _ x h (Nat.zero_add _) hl (by unfold FU; omega)
  obtain ⟨v1, v2, v3, v4, v5, v6⟩ := h3.2.2.2
  refine ⟨rg_wI x3 195 10 0, ?_, xW_f h3 S.2.1 (fun p k hp => ?_) rfl (fun _ _ _ _ => rfl) rfl rfl ⟨?_, ?_, ?_, v4, lst_nil, v6⟩⟩
  · unfold fX7_sendBitsToCome
    refine (show fX7_sendBitsToCome_2 X FU (B + 195) (nI 0) _ = _ from e3).trans ?_
    unfold fX7_sendBitsToCome_27
    exact ob_v (rg_pI rfl rfl _) rfl
  · rw [wI_n _ _ (by omega)]
  · rw [wI_n _ _ (by omega)]; exact v1
  · rw [wI_n _ _ (by omega)]; exact v2
  · rw [wI_s]; rfl
theorem x_l12 (S : sX K o x0) : ∀ (k j M : Nat) (a : aS) (x : rg_S), xW K o L0 x0 a x → j + k = a.2.2.2.1.length → a.2.2.2.1.length ≤ 64 → a.2.2.1.length + k ≤ 1024 → k < M → ∃ x', fX7_lengthenRun_12 X M (B + 195) (nI j) (rg_p lX B w0 x) = fX7_lengthenRun_51 X (B + 195) (rg_p lX B w0 x') ∧ xW K o L0 x0 (a.1, a.2.1, a.2.2.1 ++ a.2.2.2.1.drop j, a.2.2.2) x' := by
  intro k
  induction k with
  | zero =>
    intro j M a x h hj hl hr hM
    obtain ⟨M, rfl⟩ : ∃ M', M = M' + 1 := ⟨M - 1, by omega⟩
    refine ⟨x, ?_, ?_⟩
    · rw [fX7_lengthenRun_12.eq_2]
      refine ob_v (rg_I rfl rfl) ?_
      rw [h.2.2.2.2.2.1]
      exact ei_t (nI_le (by omega) (by omega)) rfl
    · rw [List.drop_eq_nil_of_le (by omega), List.append_nil]
      exact h
  | succ k ih =>
    intro j M a x h hj hl hr hM
    obtain ⟨M, rfl⟩ : ∃ M', M = M' + 1 := ⟨M - 1, by omega⟩
    obtain ⟨v1, v2, v3, v4, v5, v6⟩ := h.2.2.2
    have h1 : xW K o L0 x0 (a.1, a.2.1, a.2.2.1 ++ [a.2.2.2.1.getD j 0], a.2.2.2) (rg_wI (rg_wA x 196 (upd (x.2.2.1 196) a.2.2.1.length (nI (a.2.2.2.1.getD j 0)))) 195 8 (nI (a.2.2.1.length + 1))) := by
      refine xW_f h S.2.1 (fun p k hp => ?_) rfl (fun p p1 _ _ => ?_) rfl rfl ⟨?_, ?_, ?_, ?_, v5, v6⟩
      · rw [wI_n _ _ (by omega), wA_1]
      · rw [wI_2, wA_n _ _ p1]
      · rw [wI_n _ _ (by omega), wA_1]; exact v1
      · rw [wI_s]
        show _ = nI (a.2.2.1 ++ [_]).length
        rw [List.length_append, List.length_singleton]
      · rw [wI_n _ _ (by omega), wA_1]; exact v3
      · show lst ((rg_wA x 196 _).2.2.1 196) _
        rw [wA_s]
        exact lst_snoc v4
    obtain ⟨x2, e2, h2⟩ := ih (j + 1) M _ _ h1 (by show j + 1 + k = a.2.2.2.1.length; omega) hl (by show (a.2.2.1 ++ [_]).length + k ≤ 1024; rw [List.length_append, List.length_singleton]; omega) (by omega)
    refine ⟨x2, ?_, ?_⟩
    · rw [fX7_lengthenRun_12.eq_2]
      refine ob_v (rg_I rfl rfl) ?_
      rw [v3]
      refine ei_n (nI_ge (by omega) (by omega)) (ob_v (rg_C rfl rfl) (ob_v (rg_I rfl rfl) (ob_v (rg_C rfl rfl) (ob_v (rg_A rfl (by decide) _ (by omega) (by decide)) ?_))))
      rw [v2, v5 j (by omega)]
      refine ob_v (rg_sA _ rfl (by decide) _ _ (by omega) (by decide)) (ob_v (rg_I rfl rfl) ?_)
      rw [wA_1, v2, nI_1]
      refine ob_v (rg_pI rfl rfl _) ?_
      rw [nI_1]
      exact e2
    · rw [drop_c (by omega)]
      have e : a.2.2.1 ++ a.2.2.2.1.getD j 0 :: a.2.2.2.1.drop (j + 1) = a.2.2.1 ++ [a.2.2.2.1.getD j 0] ++ a.2.2.2.1.drop (j + 1) := by
        rw [List.append_assoc]
        rfl
      rw [e]
      exact h2
theorem x_long (S : sX K o x0) (h : xW K o L0 x0 a x) {R N : Nat} (hN : N ≤ 960) (hB : aB R N 64 a) : ∃ x', fX7_lengthenRun X (rg_p lX B w0 x) (B + 195) = some (rg_p lX B w0 x') ∧ xW K o L0 x0 (aLong a) x' := by
  have b1 := hB.2.1
  have b2 := hB.2.2.1
  obtain ⟨v1, v2, v3, v4, v5, v6⟩ := h.2.2.2
  have h1 : xW K o L0 x0 (a.1, a.2.1 + 1, a.2.2) (rg_wI x 195 7 (nI (a.2.1 + 1))) := by
    refine xW_f h S.2.1 (fun p k hp => ?_) rfl (fun p _ _ _ => rfl) rfl rfl ⟨?_, ?_, ?_, v4, v5, v6⟩
    · rw [wI_n _ _ (by omega)]
    · rw [wI_s]
    · rw [wI_n _ _ (by omega)]; exact v2
    · rw [wI_n _ _ (by omega)]; exact v3
  obtain ⟨x3, e3, h3⟩ := x_l12 (X := X) (B := B) (w0 := w0) S a.2.2.2.1.length 0 FU _ _ h1 (Nat.zero_add _) b2 (by show a.2.2.1.length + a.2.2.2.1.length ≤ 1024; omega) (by unfold FU; omega)
  obtain ⟨u1, u2, u3, u4, u5, u6⟩ := h3.2.2.2
  refine ⟨rg_wI x3 195 10 0, ?_, xW_f h3 S.2.1 (fun p k hp => ?_) rfl (fun _ _ _ _ => rfl) rfl rfl ⟨?_, ?_, ?_, u4, lst_nil, u6⟩⟩
  · unfold fX7_lengthenRun
    refine ob_v (rg_I rfl rfl) ?_
    rw [v1, nI_1]
    refine ob_v (rg_pI rfl rfl _) ?_
    refine (show fX7_lengthenRun_12 X FU (B + 195) (nI 0) _ = _ from e3).trans ?_
    unfold fX7_lengthenRun_51
    exact ob_v (rg_pI rfl rfl _) rfl
  · rw [wI_n _ _ (by omega)]
  · rw [wI_n _ _ (by omega)]; exact u1
  · rw [wI_n _ _ (by omega)]; exact u2
  · rw [wI_s]; rfl
theorem x_isFull (h : xW K o L0 x0 a x) {n : Nat} (hB : aB 32767 1024 n a) : fX7_isRunFull X (rg_p lX B w0 x) (B + 195) = some (if a.2.1 = 32767 ∨ 900 < a.2.2.1.length then 1 else 0, rg_p lX B w0 x) := by
  obtain ⟨v1, v2, _⟩ := h.2.2.2
  have b1 := hB.1
  have b2 := hB.2.1
  unfold fX7_isRunFull
  refine ob_v (rg_I rfl rfl) ?_
  rw [v1]
  by_cases q : a.2.1 = 32767
  · rw [if_pos (Or.inl q)]
    exact ei_t (by rw [q]; rfl) rfl
  · refine ei_n (fun e => q ((nI_eq (b := 32767) (by omega) (by omega)).mp e)) (ob_v (rg_I rfl rfl) ?_)
    rw [v2]
    by_cases r : 900 < a.2.2.1.length
    · rw [if_pos (Or.inr r)]
      exact ei_n (nI_ge (a := 900) r (by omega)) rfl
    · rw [if_neg (show ¬ (a.2.1 = 32767 ∨ 900 < a.2.2.1.length) by omega)]
      exact ei_t (nI_le (b := 900) (by omega) (by omega)) rfl
theorem x_f168 (S : sX K o x0) (h : xW K o L0 x0 a x) {n : Nat} (hB : aB 32767 1024 n a) (ht : t < 8) (hU : K.U t) (hE : inE K (aFull t a)) : ∃ x', fX7_writeOthers_168 X (B + 195) (B + (115 + 10 * t)) (rg_p lX B w0 x) = some (rg_p lX B w0 x') ∧ xW K o L0 x0 (aFull t a) x' := by
  have e1 := x_isFull (X := X) (B := B) (w0 := w0) h hB
  unfold fX7_writeOthers_168
  unfold aFull at hE ⊢
  by_cases q : a.2.1 = 32767 ∨ 900 < a.2.2.1.length
  · rw [if_pos q] at e1 hE ⊢
    obtain ⟨x', e', h'⟩ := x_send (X := X) (B := B) (w0 := w0) S h (by decide) (by decide) hB ht hU hE
    exact ⟨x', ob_v (rg_O rfl) (ob_v e1 (ei_n n10 (ob_v (rg_O rfl) (ob_v e' rfl)))), h'⟩
  · rw [if_neg q] at e1 ⊢
    exact ⟨x, ob_v (rg_O rfl) (ob_v e1 (ei_t rfl rfl)), h⟩
theorem x_f204 (S : sX K o x0) (h : xW K o L0 x0 a x) {n : Nat} (hB : aB 32767 1024 n a) (ht : t < 8) (hU : K.U t) (hE : inE K (aFull t a)) : ∃ x', fX7_refineOthers_204 X (B + 195) (B + (115 + 10 * t)) (rg_p lX B w0 x) = some (rg_p lX B w0 x') ∧ xW K o L0 x0 (aFull t a) x' := by
  have e1 := x_isFull (X := X) (B := B) (w0 := w0) h hB
  unfold fX7_refineOthers_204
  unfold aFull at hE ⊢
  by_cases q : a.2.1 = 32767 ∨ 900 < a.2.2.1.length
  · rw [if_pos q] at e1 hE ⊢
    obtain ⟨x', e', h'⟩ := x_send (X := X) (B := B) (w0 := w0) S h (by decide) (by decide) hB ht hU hE
    exact ⟨x', ob_v (rg_O rfl) (ob_v e1 (ei_n n10 (ob_v (rg_O rfl) (ob_v e' rfl)))), h'⟩
  · rw [if_neg q] at e1 ⊢
    exact ⟨x, ob_v (rg_O rfl) (ob_v e1 (ei_t rfl rfl)), h⟩
end
