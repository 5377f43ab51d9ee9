/-! the canvas' calls keep the relation -/
theorem i_byte {v : Int32} (h0 : 0 ≤ v.toInt) (h1 : v.toInt < 256) : ∃ c, c < 256 ∧ v = nI c := ⟨v.toInt.toNat, by omega, by rw [← iI_nat h0]; exact iI_of v⟩
theorem shr16 (z : Int32) : (z >>> (16 &&& 31)).toInt = z.toInt / 65536 := by
  rw [pk_shr z (16 &&& 31) 16 (by decide), Int.shiftRight_eq_div_pow]
  rfl
theorem clamp_b (z : Int32) : ∃ e, e < 256 ∧ mmax 0 (mmin 255 z) = nI e := by
  have e0 : (0 : Int32).toInt = 0 := by decide
  have e255 : (255 : Int32).toInt = 255 := by decide
  unfold mmax mmin
  by_cases h : z < 255
  · rw [if_pos h]
    rw [i_lt, e255] at h
    by_cases h2 : 0 < z
    · rw [if_pos h2]
      rw [i_lt, e0] at h2
      exact i_byte (by omega) (by omega)
    · rw [if_neg h2]
      exact ⟨0, by decide, rfl⟩
  · rw [if_neg h, if_pos (by decide)]
    exact ⟨255, by decide, rfl⟩
theorem mxO_b {q : Nat} (a b c : Int32) : ∃ e, e < 256 ∧ mxO q a b c = nI e := by
  unfold mxO
  exact clamp_b _
theorem mxC_b {q a b c : Nat} (ha : a < 256) (hb : b < 256) (hc : c < 256) : ∃ e, e < 256 ∧ mxC q (nI a) (nI b) (nI c) = nI e := by
  have key : ∀ z : Int, 0 ≤ z → z < 16777216 → ∃ e, e < 256 ∧ iI z >>> (16 &&& 31) = nI e := by
    intro z h0 h1
    have t := shr16 (iI z)
    rw [iI_t (by omega) (by omega)] at t
    exact i_byte (by omega) (by omega)
  unfold mxC
  split
  · have e : 19595 * nI a + 38470 * nI b + 7471 * nI c + 32768 = iI (19595 * a + 38470 * b + 7471 * c + 32768) := by
      rw [← iI_add, ← iI_add, ← iI_add, ← iI_mul, ← iI_mul, ← iI_mul, ← iI_n, ← iI_n, ← iI_n]
      rfl
    rw [e]
    exact key _ (by omega) (by omega)
  · split
    · have e : (-11059) * nI a - 21709 * nI b + 32768 * nI c + 8421375 = iI ((-11059) * a - 21709 * b + 32768 * c + 8421375) := by
        rw [← iI_add, ← iI_add, ← iI_sub, ← iI_mul, ← iI_mul, ← iI_mul, ← iI_n, ← iI_n, ← iI_n]
        rfl
      rw [e]
      exact key _ (by omega) (by omega)
    · have e : 32768 * nI a - 27439 * nI b - 5329 * nI c + 8421375 = iI (32768 * a - 27439 * b - 5329 * c + 8421375) := by
        rw [← iI_add, ← iI_sub, ← iI_sub, ← iI_mul, ← iI_mul, ← iI_mul, ← iI_n, ← iI_n, ← iI_n]
        rfl
      rw [e]
      exact key _ (by omega) (by omega)
theorem s255 {a : Nat} (ha : a < 256) : ∃ e, e < 256 ∧ 255 - nI a = nI e := ⟨255 - a, by omega, pk_sub (a := 255) (by omega)⟩
theorem mxT_b {k q a b c d : Nat} (ha : a < 256) (hb : b < 256) (hc : c < 256) (hd : d < 256) : ∃ e, e < 256 ∧ mxT k q (nI a) (nI b) (nI c) (nI d) = nI e := by
  have hw : ∃ e, e < 256 ∧ mxW q (nI a) (nI b) (nI c) = nI e := by
    unfold mxW
    split
    · exact ⟨a, ha, rfl⟩
    · split
      · exact ⟨b, hb, rfl⟩
      · exact ⟨c, hc, rfl⟩
  unfold mxT
  split
  · exact mxO_b _ _ _
  split
  · exact mxC_b ha hb hc
  split
  · obtain ⟨e, he, e'⟩ := hw
    rw [e']
    exact s255 he
  split
  · obtain ⟨e, he, e'⟩ := hw
    obtain ⟨f, hf, f'⟩ := s255 hd
    have hm : e * f ≤ 255 * 255 := Nat.mul_le_mul (by omega) (by omega)
    rw [e', f', pk_mul, show (127 : Int32) = nI 127 from rfl, nI_add, show (255 : Int32) = nI 255 from rfl, pk_div (by omega) (by omega) (by omega)]
    exact ⟨_, by omega, rfl⟩
  split
  · exact mxC_b ha hb hc
  split
  · obtain ⟨e, he, e'⟩ := mxO_b (q := q) (nI a) (nI b) (nI c)
    rw [e']
    exact s255 he
  · obtain ⟨a', ha', ea⟩ := s255 ha
    obtain ⟨b', hb', eb⟩ := s255 hb
    obtain ⟨c', hc', ec⟩ := s255 hc
    rw [ea, eb, ec]
    exact mxC_b ha' hb' hc'
theorem mxT_d {k q : Nat} (hk : k ≠ 3) (a b c d d' : Int32) : mxT k q a b c d = mxT k q a b c d' := by
  unfold mxT
  rw [if_neg hk, if_neg hk]
theorem row_lt {w h i j : Nat} (hi : i < w) (hj : j < h) : w * j + i < w * h := by
  have h1 : w * (j + 1) ≤ w * h := Nat.mul_le_mul (Nat.le_refl w) hj
  rw [Nat.mul_add, Nat.mul_one] at h1
  omega
section
variable {X : px_X} {b B : Nat} {x y : rg_S}
theorem o_size (hr : Rel x y) (a c d : Int32) : op2 X B b (fun w => fX11_canvasSize X w (B + 0) a c d) (fun w => fX15_canvasSize X w (b + 0) a c d) x y := by
  have h' := hr
  obtain ⟨h1, h2, h3, ⟨W, H, h4⟩, h4b, h5, h6⟩ := hr
  have e1 : (1 : Int32).toInt = 1 := by decide
  have e3 : (3 : Int32).toInt = 3 := by decide
  have e4 : (4 : Int32).toInt = 4 := by decide
  have e32 : (32 : Int32).toInt = 32 := by decide
  by_cases hn : a < 0 ∨ 4 ≤ a ∨ c < 1 ∨ 32 < c ∨ d < 1 ∨ ¬ d ≤ 32
  · refine ⟨0, x, y, fun w0 => x_sizeN ?_, fun w0 => m_sizeN hn, h'⟩
    rcases hn with e | e | e | e | e | e
    · exact Or.inl e
    · refine Or.inr (Or.inl ?_)
      rw [i_le, e4] at e
      rw [i_lt, e3]
      omega
    · exact Or.inr (Or.inr (Or.inl e))
    · exact Or.inr (Or.inr (Or.inr (Or.inl e)))
    · exact Or.inr (Or.inr (Or.inr (Or.inr (Or.inl e))))
    · exact Or.inr (Or.inr (Or.inr (Or.inr (Or.inr e))))
  · have n1 : ¬ c < 1 := fun e => hn (Or.inr (Or.inr (Or.inl e)))
    have n2 : ¬ 32 < c := fun e => hn (Or.inr (Or.inr (Or.inr (Or.inl e))))
    have n3 : ¬ d < 1 := fun e => hn (Or.inr (Or.inr (Or.inr (Or.inr (Or.inl e)))))
    have n4 : d ≤ 32 := Classical.byContradiction fun e => hn (Or.inr (Or.inr (Or.inr (Or.inr (Or.inr e)))))
    obtain ⟨p, hp, rfl⟩ : ∃ p, p < 4 ∧ a = nI p := (i_place a (n := 4) (by decide)).resolve_right (fun e => hn (e.elim Or.inl (fun e => Or.inr (Or.inl e))))
    refine ⟨1, _, _, fun w0 => x_size hp n1 n2 n3 n4, fun w0 => m_size hp n1 n2 n3 n4, ?_⟩
    rw [i_lt, e1] at n1 n3
    rw [i_lt, e32] at n2
    rw [i_le, e32] at n4
    have ec : c = nI c.toInt.toNat := by rw [← iI_nat (by omega)]; exact iI_of c
    have ed : d = nI d.toInt.toNat := by rw [← iI_nat (by omega)]; exact iI_of d
    refine ⟨h1.c ?_ ?_ rfl rfl, h2.c ⟨rfl, rfl⟩ ?_ ?_ rfl rfl, ?_, ?_, ?_, h5.c ⟨rfl, rfl⟩ ?_ ?_ ?_ (fun k _ _ => rfl) ?_, h6.c ?_ ?_⟩
    · rw [wA_1, wI_n _ _ (by omega), wI_n _ _ (by omega)]
    · rw [wA_n _ _ (by omega), wI_2, wI_2]
    · intro o ho
      rw [wA_1, wI_n _ _ (by omega), wI_n _ _ (by omega)]
    · intro o ho
      rw [wA_n _ _ (by omega), wI_2, wI_2]
    · unfold r3
      simp only [wA_1, wI_n _ _ (show (0 : Nat) ≠ 24 + 2 * p ∨ _ from Or.inl (by omega))]
      exact h3
    · refine ⟨fun q => if q = p then c.toInt.toNat else W q, fun q => if q = p then d.toInt.toNat else H q, fun q hq => ?_⟩
      obtain ⟨a1, a2, a3, a4, a5, a6, a7, a8, a9⟩ := h4 q hq
      by_cases e : q = p
      · subst e
        dsimp only
        rw [if_pos rfl, if_pos rfl]
        refine ⟨by omega, by omega, by omega, by omega, ?_, ?_, ?_, ?_, ?_⟩
        · rw [wA_1, wI_n _ _ (by omega), wI_s]; exact ec
        · rw [wA_1, wI_s]; exact ed
        · show upd (y.2.2.1 73) q c q = _
          rw [pk_us]; exact ec
        · show upd (y.2.2.1 74) q d q = _
          rw [pk_us]; exact ed
        · intro i j hi hj
          have := row_lt (w := c.toInt.toNat) (h := d.toInt.toNat) hi hj
          have hm : c.toInt.toNat * d.toInt.toNat ≤ 32 * 32 := Nat.mul_le_mul (by omega) (by omega)
          rw [wA_s, wA_s, if_pos (by omega), if_pos (by omega)]
      · dsimp only
        rw [if_neg e, if_neg e]
        refine ⟨a1, a2, a3, a4, ?_, ?_, ?_, ?_, ?_⟩
        · rw [wA_1, wI_n _ _ (by omega), wI_n _ _ (by omega)]; exact a5
        · rw [wA_1, wI_n _ _ (by omega), wI_n _ _ (by omega)]; exact a6
        · show upd (y.2.2.1 73) p c q = _
          rw [pk_un e]; exact a7
        · show upd (y.2.2.1 74) p d q = _
          rw [pk_un e]; exact a8
        · intro i j hi hj
          have := row_lt hi hj
          have hm : W q * H q ≤ 32 * 32 := Nat.mul_le_mul a2 a4
          rw [wA_n _ _ (by omega), wA_s, if_neg (by omega)]
          exact a9 i j hi hj
    · intro i hi
      rw [wA_s]
      split
      · exact ⟨0, by decide, rfl⟩
      · exact h4b i hi
    · refine ⟨?_, rfl⟩
      rw [wA_1, wI_n _ _ (by omega), wI_n _ _ (by omega)]
    · intro P k hP hk
      rw [wA_1, wI_n _ _ (by omega), wI_n _ _ (by omega)]
    · intro P j hP j1 j2
      rw [wA_n _ _ (by omega), wI_2, wI_2]
    · intro o o1 o2
      rw [wA_n _ _ (by omega), wA_n _ _ (by omega), wA_n _ _ (by omega)]
    · rw [wA_n _ _ (by omega), wI_2, wI_2]
    · intro o o1 o2
      rw [wA_n _ _ (by omega), wA_n _ _ (by omega), wA_n _ _ (by omega)]
/-- a change of the samples alone -/
theorem Rel.samples {x y : rg_S} (h : Rel x y) {x' y' : rg_S} (e1 : x'.1 = x.1) (e2 : x'.2.1 = x.2.1) (e3 : ∀ o, o < 24 ∨ 32 ≤ o → x'.2.2.1 o = x.2.2.1 o) (f1 : y'.1 = y.1) (f3 : ∀ o, o ≠ 72 → y'.2.2.1 o = y.2.2.1 o) (hb : r4b y') (h4 : ∀ p w h, p < 4 → r4p x y p w h → ∀ i j, i < w → j < h → x'.2.2.1 (24 + 2 * p + 1) (32 * j + i) = y'.2.2.1 72 (1024 * p + w * j + i)) : Rel x' y' := by
  obtain ⟨h1, h2, h3, ⟨W, H, hh⟩, h4b, h5, h6⟩ := h
  refine ⟨h1.c (by rw [e1]) (e3 2 (by omega)) (by rw [f1]) (f3 1 (by omega)), h2.c ⟨by rw [e2], by rw [e2]⟩ (fun o ho => by rw [e1]) (fun o ho => e3 _ (by omega)) (by rw [f1]) (f3 2 (by omega)), ?_, ?_, hb, h5.c ⟨by rw [e2], by rw [e2]⟩ ⟨by rw [e1], by rw [f1]⟩ (fun P k hP hk => by rw [e1]) (fun P j hP j1 j2 => e3 _ (by omega)) (fun k _ _ => by rw [f1]) (fun o o1 o2 => f3 o (by omega)), h6.c (e3 37 (by omega)) (fun o o1 o2 => f3 o (by omega)) (fun k => by rw [e1]) (by rw [f1])⟩
  · unfold r3
    rw [e1, f1]
    exact h3
  · refine ⟨W, H, fun p hp => ?_⟩
    have hp4 := hh p hp
    obtain ⟨a1, a2, a3, a4, a5, a6, a7, a8, a9⟩ := hp4
    refine ⟨a1, a2, a3, a4, by rw [e1]; exact a5, by rw [e1]; exact a6, by rw [f3 73 (by decide)]; exact a7, by rw [f3 74 (by decide)]; exact a8, h4 p _ _ hp (hh p hp)⟩
theorem o_row (hr : Rel x y) (a c d : Int32) (v : Int64) : op2 X B b (fun w => fX11_canvasRow X w (B + 0) a c d v) (fun w => fX15_canvasRow X w (b + 0) a c d v) x y := by
  have h' := hr
  obtain ⟨h1, h2, h3, ⟨W, H, h4⟩, h4b, h5, h6⟩ := hr
  by_cases hn : ∃ q k l, q < 4 ∧ a = nI q ∧ k < W q ∧ c = nI k ∧ l < H q ∧ d = nI l
  · obtain ⟨p, i, j, hp, rfl, hi, rfl, hj, rfl⟩ := hn
    obtain ⟨a1, a2, a3, a4, a5, a6, a7, a8, a9⟩ := h4 p hp
    refine ⟨1, _, _, fun w0 => x_row hp a5 a6 a2 a4 hi hj, fun w0 => m_row hp a7 a8 a2 a4 hi hj, ?_⟩
    refine h'.samples rfl rfl (fun o ho => wA_n _ _ (by omega)) rfl (fun o ho => wA_n _ _ ho) ?_ ?_
    · intro t ht
      rw [wA_s]
      unfold cr_f
      split
      · exact pk_andE _ 8 (by decide)
      · exact h4b t ht
    · intro q w h hq hw i' j' hi' hj'
      obtain ⟨b1, b2, b3, b4, b5, b6, b7, b8, b9⟩ := hw
      have r1 := row_lt hi' hj'
      have hm : w * h ≤ 32 * 32 := Nat.mul_le_mul b2 b4
      have r2 := row_lt hi hj
      have hm2 : W p * H p ≤ 32 * 32 := Nat.mul_le_mul a2 a4
      have hm3 : W p * j + i + min 8 (W p - i) ≤ W p * H p := by
        have h1 : W p * (j + 1) ≤ W p * H p := Nat.mul_le_mul (Nat.le_refl _) hj
        rw [Nat.mul_add, Nat.mul_one] at h1
        omega
      by_cases e : q = p
      · subst e
        obtain rfl : w = W q := by
          have := b5.symm.trans a5
          exact (nI_eq (by omega) (by omega)).mp this
        rw [wA_s, wA_s]
        unfold cr_f
        by_cases ej : j' = j
        · subst ej
          by_cases hc : i ≤ i' ∧ i' < i + min 8 (W q - i)
          · rw [if_pos (by omega), if_pos (by omega)]
            congr 1
            omega
          · rw [if_neg (by omega), if_neg (by omega)]
            exact b9 i' j' hi' hj'
        · rw [if_neg (by omega), if_neg]
          · exact b9 i' j' hi' hj'
          · rcases Nat.lt_or_gt_of_ne ej with e1 | e1
            · have h1 : W q * (j' + 1) ≤ W q * j := Nat.mul_le_mul (Nat.le_refl _) e1
              rw [Nat.mul_add, Nat.mul_one] at h1
              omega
            · have h1 : W q * (j + 1) ≤ W q * j' := Nat.mul_le_mul (Nat.le_refl _) e1
              rw [Nat.mul_add, Nat.mul_one] at h1
              omega
      · rw [wA_n _ _ (by omega), wA_s]
        unfold cr_f
        rw [if_neg (by omega)]
        exact b9 i' j' hi' hj'
  · exact ⟨0, x, y, fun w0 => x_rowN (w := W) (h := H) (fun p hp => (h4 p hp).2.2.2.2.1) (fun p hp => (h4 p hp).2.2.2.2.2.1) (fun p hp => ⟨(h4 p hp).2.1, (h4 p hp).2.2.2.1⟩) hn, fun w0 => m_rowN (w := W) (h := H) (fun p hp => (h4 p hp).2.2.2.2.2.2.1) (fun p hp => (h4 p hp).2.2.2.2.2.2.2.1) (fun p hp => ⟨(h4 p hp).2.1, (h4 p hp).2.2.2.1⟩) hn, h'⟩
theorem o_eight (hr : Rel x y) (a c d : Int32) : op2 X B b (fun w => fX11_canvasEight X w (B + 0) a c d) (fun w => fX15_canvasEight X w (b + 0) a c d) x y := by
  obtain ⟨W, H, h4⟩ := hr.2.2.2.1
  rcases i_place a (n := 4) (by decide) with ⟨p, hp, rfl⟩ | ha
  · obtain ⟨a1, a2, a3, a4, a5, a6, a7, a8, a9⟩ := h4 p hp
    refine ⟨_, x, y, fun w0 => x_eight hp a5 a6 a2 a4, fun w0 => ?_, hr⟩
    dsimp only
    rw [m_eight hp a7 a8 a2 a4]
    congr 2
    refine ce_cong 8 (fun k hk => ?_)
    by_cases hc : 0 ≤ c.toInt + k ∧ c.toInt + k < W p ∧ 0 ≤ d.toInt ∧ d.toInt < H p
    · rw [if_pos hc, if_pos hc]
      exact (a9 (c.toInt + k).toNat d.toInt.toNat (by omega) (by omega)).symm
    · rw [if_neg hc, if_neg hc]
  · exact ⟨0, x, y, fun w0 => x_eightN ha, fun w0 => m_eightN ha, hr⟩
theorem o_mix (hr : Rel x y) (a : Int32) : op2 X B b (fun w => fX11_mixCanvas X w (B + 0) a) (fun w => fX15_mixCanvas X w (b + 0) a) x y := by
  have h' := hr
  obtain ⟨h1, h2, h3, ⟨W, H, h4⟩, h4b, h5, h6⟩ := hr
  have eW : ∀ p, p < 4 → x.1 (24 + 2 * p) 0 = y.2.2.1 73 p := fun p hp => (h4 p hp).2.2.2.2.1.trans (h4 p hp).2.2.2.2.2.2.1.symm
  have eH : ∀ p, p < 4 → x.1 (24 + 2 * p) 1 = y.2.2.1 74 p := fun p hp => (h4 p hp).2.2.2.2.2.1.trans (h4 p hp).2.2.2.2.2.2.2.1.symm
  by_cases hn : mxOk (fun p => y.2.2.1 73 p) (fun p => y.2.2.1 74 p) a
  · obtain ⟨k, hk, rfl, hs⟩ := hn
    obtain ⟨a1, a2, a3, a4, a5, a6, a7, a8, a9⟩ := h4 0 (by decide)
    have bd : (if k = 3 then 4 else 3) ≤ 4 := by split <;> decide
    refine ⟨1, _, _, fun w0 => x_mix hk a5 a6 a2 a4 (fun p p0 p1 => ?_), fun w0 => m_mix hk a7 a8 a2 a4 hs, ?_⟩
    · have := hs p p0 p1
      rw [eW p (by omega), eH p (by omega)]
      exact ⟨this.1.trans (eW 0 (by decide)).symm, this.2.trans (eH 0 (by decide)).symm⟩
    · have sz : ∀ p, p < (if k = 3 then 4 else 3) → W p = W 0 ∧ H p = H 0 := by
        intro p hp
        by_cases p0 : p = 0
        · subst p0; exact ⟨rfl, rfl⟩
        have hh := hs p (by omega) hp
        have q4 := h4 p (by omega)
        have w32 := q4.2.1
        have h32 := q4.2.2.2.1
        constructor
        · refine (nI_eq (by omega) (by omega)).mp ?_
          rw [← q4.2.2.2.2.2.2.1, ← a7]
          exact hh.1
        · refine (nI_eq (by omega) (by omega)).mp ?_
          rw [← q4.2.2.2.2.2.2.2.1, ← a8]
          exact hh.2
      have b3 : 3 ≤ (if k = 3 then 4 else 3) := by split <;> decide
      have hm0 : W 0 * H 0 ≤ 32 * 32 := Nat.mul_le_mul a2 a4
      refine h'.samples rfl rfl (fun o ho => ?_) rfl (fun o ho => wA_n _ _ ho) ?_ ?_
      · rw [mxA_A, if_neg (by omega), if_neg (by omega), if_neg (by omega)]
      · intro t ht
        rw [wA_s]
        unfold mnP
        split
        · obtain ⟨c0, hc0, ec0⟩ := h4b (t % 1024) (by omega)
          obtain ⟨c1, hc1, ec1⟩ := h4b (1024 + t % 1024) (by omega)
          obtain ⟨c2, hc2, ec2⟩ := h4b (2048 + t % 1024) (by omega)
          obtain ⟨c3, hc3, ec3⟩ := h4b (3072 + t % 1024) (by omega)
          rw [ec0, ec1, ec2, ec3]
          exact mxT_b hc0 hc1 hc2 hc3
        · exact h4b t ht
      · intro p w h hp hw i j hi hj
        obtain ⟨b1, b2, b3', b4, b5, b6, b7, b8, b9⟩ := hw
        obtain rfl : w = W p := (nI_eq (by omega) (by have := (h4 p hp).2.1; omega)).mp (b5.symm.trans (h4 p hp).2.2.2.2.1)
        obtain rfl : h = H p := (nI_eq (by omega) (by have := (h4 p hp).2.2.2.1; omega)).mp (b6.symm.trans (h4 p hp).2.2.2.2.2.1)
        have rl := row_lt hi hj
        have hm : W p * H p ≤ 32 * 32 := Nat.mul_le_mul b2 b4
        rw [wA_s]
        by_cases p3 : p < 3
        · have s0 := sz p (by omega)
          have s1 := sz 1 (by omega)
          have s2 := sz 2 (by omega)
          rw [s0.1, s0.2] at rl
          rw [s0.1] at hi ⊢
          rw [s0.2] at hj
          have v : ∀ q, q < (if k = 3 then 4 else 3) → x.2.2.1 (25 + 2 * q) (32 * j + i) = y.2.2.1 72 (1024 * q + (W 0 * j + i)) := by
            intro q hq
            have sq := sz q hq
            have hq9 := (h4 q (by omega)).2.2.2.2.2.2.2.2 i j (by rw [sq.1]; exact hi) (by rw [sq.2]; exact hj)
            rw [sq.1] at hq9
            rw [show 25 + 2 * q = 24 + 2 * q + 1 by omega, show 1024 * q + (W 0 * j + i) = 1024 * q + W 0 * j + i by omega]
            exact hq9
          have ex : (mxA x k (W 0) (H 0) 0).2.2.1 (24 + 2 * p + 1) = mxP x k (W 0) (H 0) 0 p := by
            rw [mxA_A]
            rcases (show p = 0 ∨ p = 1 ∨ p = 2 by omega) with rfl | rfl | rfl <;> rfl
          rw [ex]
          unfold mxP mnP
          rw [if_pos (by omega), if_pos (by omega), show (1024 * p + W 0 * j + i) / 1024 = p by omega, show (1024 * p + W 0 * j + i) % 1024 = W 0 * j + i by omega]
          have v0 := v 0 (by omega)
          have v1 := v 1 (by omega)
          have v2 := v 2 (by omega)
          rw [show x.2.2.1 25 (32 * j + i) = y.2.2.1 72 (W 0 * j + i) by rw [← Nat.zero_add (W 0 * j + i)]; exact v0, show x.2.2.1 27 (32 * j + i) = _ from v1, show x.2.2.1 29 (32 * j + i) = _ from v2]
          by_cases k3 : k = 3
          · rw [show x.2.2.1 31 (32 * j + i) = _ from v 3 (by rw [if_pos k3]; decide)]
          · exact mxT_d k3 _ _ _ _ _
        · obtain rfl : p = 3 := by omega
          rw [mnP_at (by omega)]
          exact b9 i j hi hj
  · refine ⟨0, x, y, fun w0 => x_mixN (fun hk => hn ?_), fun w0 => m_mixN hn, h'⟩
    obtain ⟨k, hk, e, hs⟩ := hk
    have bd : (if k = 3 then 4 else 3) ≤ 4 := by split <;> decide
    refine ⟨k, hk, e, fun p p0 p1 => ?_⟩
    have := hs p p0 p1
    dsimp only at this ⊢
    rw [← eW p (by omega), ← eH p (by omega), ← eW 0 (by decide), ← eH 0 (by decide)]
    exact this
end
