/-! what is read of a block: the state, and the first coefficient -/
abbrev zS : Type := bSt × Nat × (Nat → Int) × (Nat → Int32)
abbrev zT : Type := (Nat → Nat) × List Nat × Nat
def zOb {α : Type} (o : Option (Nat × bSt)) (k : Nat → bSt → Nat ⊕ α) : Nat ⊕ α := match o with
  | none => .inl 1
  | some q => k q.1 q.2
def zSb {α : Type} (o : Nat ⊕ (Nat × bSt)) (k : Nat → bSt → Nat ⊕ α) : Nat ⊕ α := match o with
  | .inl f => .inl f
  | .inr q => k q.1 q.2
def zSy (D : Nat → Nat) (n : Nat) (W : zT) (s : bSt) : Nat ⊕ (Nat × bSt) := zSb (sy D n W.1 16 0 0 s) fun i s' => .inr (W.2.1.getD i 0, s')
def zOk (a : zS) : Prop := a.2.1 < 65536 ∧ (∀ c, (a.2.2.1 c).natAbs ≤ 1024) ∧ ∀ i, i < 12288 → cfOk (i % 64) (a.2.2.2 i)
def zY (D : Nat → Nat) (n : Nat) (y : rg_S) (a : zS) : Prop := yR y D n a.1 ∧ y.1 24 38 = nI a.2.1 ∧ (∀ c, c < 4 → y.2.2.1 44 c = iI (a.2.2.1 c)) ∧ ∀ i, i < 12288 → y.2.2.1 32 i = a.2.2.2 i
def zX (P : Nat) (cm : Nat → Nat) (mm : Nat) (D : Nat → Nat) (n d0 : Nat) (x : rg_S) (a : zS) : Prop := xR x D n d0 a.1 ∧ x.1 95 7 = nI a.2.1 ∧ (∀ m, m < mm → x.2.2.1 104 m = iI (a.2.2.1 (cm m))) ∧ ∀ i, i < 12288 → x.2.2.1 (P + 6) i = a.2.2.2 i
def zYo (D : Nat → Nat) (n : Nat) (r : Nat ⊕ zS) (y : rg_S) : Prop := (∃ f, r = .inl f ∧ 0 < f ∧ f < 100 ∧ y.1 24 46 = nI f) ∨ ∃ a, r = .inr a ∧ zOk a ∧ zY D n y a
def zXo (P : Nat) (cm : Nat → Nat) (mm : Nat) (D : Nat → Nat) (n d0 : Nat) (r : Nat ⊕ zS) (x : rg_S) : Prop := (∃ f, r = .inl f ∧ 0 < f ∧ f < 100 ∧ x.1 95 6 = nI f) ∨ ∃ a, r = .inr a ∧ zOk a ∧ zX P cm mm D n d0 x a
def zFY (y y' : rg_S) : Prop := (∀ p k, ¬ (p = 24 ∧ (k = 38 ∨ 43 ≤ k ∧ k ≤ 46)) → y'.1 p k = y.1 p k) ∧ y'.2.1 = y.2.1 ∧ (∀ o, o ≠ 32 → o ≠ 44 → y'.2.2.1 o = y.2.2.1 o) ∧ y'.2.2.2 = y.2.2.2
def zFX (P : Nat) (x x' : rg_S) : Prop := (∀ p k, ¬ (p = 95 ∧ 3 ≤ k ∧ k ≤ 7) → x'.1 p k = x.1 p k) ∧ x'.2.1 = x.2.1 ∧ (∀ o, o ≠ P + 6 → o ≠ 104 → x'.2.2.1 o = x.2.2.1 o) ∧ x'.2.2.2 = x.2.2.2
theorem zFY.rfl {y : rg_S} : zFY y y := ⟨fun _ _ _ => Eq.refl _, Eq.refl _, fun _ _ _ => Eq.refl _, Eq.refl _⟩
theorem zFX.rfl {P : Nat} {x : rg_S} : zFX P x x := ⟨fun _ _ _ => Eq.refl _, Eq.refl _, fun _ _ _ => Eq.refl _, Eq.refl _⟩
theorem zFY.trans {y y1 y2 : rg_S} (h : zFY y y1) (h2 : zFY y1 y2) : zFY y y2 := ⟨fun p k a => (h2.1 p k a).trans (h.1 p k a), h2.2.1.trans h.2.1, fun o a c => (h2.2.2.1 o a c).trans (h.2.2.1 o a c), h2.2.2.2.trans h.2.2.2⟩
theorem zFX.trans {P : Nat} {y y1 y2 : rg_S} (h : zFX P y y1) (h2 : zFX P y1 y2) : zFX P y y2 := ⟨fun p k a => (h2.1 p k a).trans (h.1 p k a), h2.2.1.trans h.2.1, fun o a c => (h2.2.2.1 o a c).trans (h.2.2.1 o a c), h2.2.2.2.trans h.2.2.2⟩
theorem FYr.q {y y' : rg_S} (h : FYr y y') : zFY y y' := ⟨fun p k a => h.1 p k (by omega), by rw [h.2], fun o _ _ => by rw [h.2], by rw [h.2]⟩
theorem FXr.q {P : Nat} {x x' : rg_S} (h : FXr x x') : zFX P x x' := ⟨fun p k a => h.1 p k (by omega), by rw [h.2], fun o _ _ => by rw [h.2], by rw [h.2]⟩
theorem zFY.w32 {y : rg_S} (f : Nat → Int32) : zFY y (rg_wA y 32 f) := ⟨fun _ _ _ => Eq.refl _, Eq.refl _, fun _ a _ => wA_n _ _ a, Eq.refl _⟩
theorem zFY.w44 {y : rg_S} (f : Nat → Int32) : zFY y (rg_wA y 44 f) := ⟨fun _ _ _ => Eq.refl _, Eq.refl _, fun _ _ a => wA_n _ _ a, Eq.refl _⟩
theorem zFX.w6 {P : Nat} {y : rg_S} (f : Nat → Int32) : zFX P y (rg_wA y (P + 6) f) := ⟨fun _ _ _ => Eq.refl _, Eq.refl _, fun _ a _ => wA_n _ _ a, Eq.refl _⟩
theorem zFX.w104 {P : Nat} {y : rg_S} (f : Nat → Int32) : zFX P y (rg_wA y 104 f) := ⟨fun _ _ _ => Eq.refl _, Eq.refl _, fun _ _ a => wA_n _ _ a, Eq.refl _⟩
theorem zFY.wI {y : rg_S} {k : Nat} {v : Int32} (h : k = 38 ∨ 43 ≤ k ∧ k ≤ 46) : zFY y (rg_wI y 24 k v) := ⟨fun p k' a => wI_n _ _ (by omega), Eq.refl _, fun _ _ _ => Eq.refl _, Eq.refl _⟩
theorem zFX.wI {P : Nat} {y : rg_S} {k : Nat} {v : Int32} (h : 3 ≤ k ∧ k ≤ 7) : zFX P y (rg_wI y 95 k v) := ⟨fun p k' a => wI_n _ _ (by omega), Eq.refl _, fun _ _ _ => Eq.refl _, Eq.refl _⟩
def zKx (x : rg_S) (P first last bf b : Nat) : Prop := isP P ∧ x.2.1 95 1 = P ∧ x.2.1 95 2 = 41 ∧ x.1 41 1 = nI first ∧ x.1 41 2 = nI last ∧ x.1 41 3 = nI bf ∧ x.1 41 4 = nI b ∧ first ≤ last ∧ last ≤ 63 ∧ bf ≤ 10 ∧ b ≤ 9
def zKy (y : rg_S) (first last bf b : Nat) (bs : Nat → Nat) : Prop := y.1 24 23 = nI first ∧ y.1 24 24 = nI last ∧ y.1 24 25 = nI bf ∧ y.1 24 26 = nI b ∧ first ≤ last ∧ last ≤ 63 ∧ bf ≤ 10 ∧ b ≤ 9 ∧ ∀ c, c < 4 → y.2.2.1 31 c = nI (bs c)
theorem zKx.f {x x' : rg_S} {P first last bf b : Nat} (h : zKx x P first last bf b) (F : zFX P x x') : zKx x' P first last bf b := by
  obtain ⟨h1, h2, h3, h4, h5, h6, h7, h8⟩ := h
  exact ⟨h1, by rw [F.2.1]; exact h2, by rw [F.2.1]; exact h3, by rw [F.1 _ _ (by omega)]; exact h4, by rw [F.1 _ _ (by omega)]; exact h5, by rw [F.1 _ _ (by omega)]; exact h6, by rw [F.1 _ _ (by omega)]; exact h7, h8⟩
theorem zKy.f {y y' : rg_S} {first last bf b : Nat} {bs : Nat → Nat} (h : zKy y first last bf b bs) (F : zFY y y') : zKy y' first last bf b bs := by
  obtain ⟨h1, h2, h3, h4, h5, h6, h7, h8, h9⟩ := h
  exact ⟨by rw [F.1 _ _ (by omega)]; exact h1, by rw [F.1 _ _ (by omega)]; exact h2, by rw [F.1 _ _ (by omega)]; exact h3, by rw [F.1 _ _ (by omega)]; exact h4, h5, h6, h7, h8, by rw [F.2.2.1 31 (by decide) (by decide)]; exact h9⟩
theorem rT.q {y y' : rg_S} {t m : Nat} {c : Nat → Nat} {S : List Nat} (h : rT y t c S m) (F : zFY y y') : rT y' t c S m := by
  unfold rT
  rw [F.2.2.1 37 (by decide) (by decide), F.2.2.1 38 (by decide) (by decide)]
  exact h
theorem wX.q {x x' : rg_S} {P t m : Nat} {c : Nat → Nat} {S : List Nat} (hP : isP P) (h : wX x t c S m) (F : zFX P x x') (ht : t < 8) : wX x' t c S m := by
  unfold isP at hP
  unfold wX
  rw [F.1 _ _ (by omega), F.1 _ _ (by omega), F.2.2.1 (55 + 5 * t + 1) (by omega) (by omega), F.2.2.1 (55 + 5 * t + 2) (by omega) (by omega), F.2.2.1 (55 + 5 * t + 3) (by omega) (by omega), F.2.2.1 (55 + 5 * t + 4) (by omega) (by omega)]
  exact h
/-- the state changed piece by piece -/
theorem zOk.s {a : zS} (h : zOk a) (s : bSt) : zOk (s, a.2) := h
theorem zOk.p {a : zS} (h : zOk a) {c : Nat} {z : Int} (hz : z.natAbs ≤ 1024) : zOk (a.1, a.2.1, (fun j => if j = c then z else a.2.2.1 j), a.2.2.2) := by
  refine ⟨h.1, fun j => ?_, h.2.2⟩
  show (if j = c then z else a.2.2.1 j).natAbs ≤ 1024
  split
  · exact hz
  · exact h.2.1 j
theorem zOk.q {a : zS} (h : zOk a) {i : Nat} {v : Int32} (hv : cfOk (i % 64) v) : zOk (a.1, a.2.1, a.2.2.1, upd a.2.2.2 i v) := by
  refine ⟨h.1, h.2.1, fun j hj => ?_⟩
  show cfOk (j % 64) (upd a.2.2.2 i v j)
  by_cases e : j = i
  · rw [e, pk_us]
    exact hv
  · rw [pk_un e]
    exact h.2.2 j hj
theorem zY.q {D : Nat → Nat} {n i : Nat} {y : rg_S} {a : zS} {v : Int32} (h : zY D n y a) : zY D n (rg_wA y 32 (upd (y.2.2.1 32) i v)) (a.1, a.2.1, a.2.2.1, upd a.2.2.2 i v) := by
  obtain ⟨⟨h1, h2, h3, h4, h5, h6, h7⟩, h8, h9, h10⟩ := h
  refine ⟨⟨h1, h2, h3, h4, h5, by rw [wA_n _ _ (by decide)]; exact h6, h7⟩, h8, by rw [wA_n _ _ (by decide)]; exact h9, fun j hj => ?_⟩
  rw [wA_s]
  show _ = upd a.2.2.2 i v j
  by_cases e : j = i
  · rw [e, pk_us, pk_us]
  · rw [pk_un e, pk_un e]
    exact h10 j hj
theorem zX.q {P mm d0 n i : Nat} {cm D : Nat → Nat} {x : rg_S} {a : zS} {v : Int32} (hP : isP P) (h : zX P cm mm D n d0 x a) : zX P cm mm D n d0 (rg_wA x (P + 6) (upd (x.2.2.1 (P + 6)) i v)) (a.1, a.2.1, a.2.2.1, upd a.2.2.2 i v) := by
  unfold isP at hP
  obtain ⟨⟨h1, h2, h3, h4, h5, h6, h7, h7b, h7c⟩, h8, h9, h10⟩ := h
  refine ⟨⟨h1, h2, h3, h4, h5, h6, h7, by rw [wA_n _ _ (by omega)]; exact h7b, h7c⟩, h8, by rw [wA_n _ _ (by omega)]; exact h9, fun j hj => ?_⟩
  rw [wA_s]
  show _ = upd a.2.2.2 i v j
  by_cases e : j = i
  · rw [e, pk_us, pk_us]
  · rw [pk_un e, pk_un e]
    exact h10 j hj
theorem zY.s {D : Nat → Nat} {n : Nat} {y y' : rg_S} {a : zS} {s : bSt} (h : zY D n y a) (F : FYr y y') (r : yR y' D n s) : zY D n y' (s, a.2) := ⟨r, by rw [F.1 _ _ (by omega)]; exact h.2.1, by rw [F.2]; exact h.2.2.1, by rw [F.2]; exact h.2.2.2⟩
theorem zX.s {P mm d0 n : Nat} {cm D : Nat → Nat} {x x' : rg_S} {a : zS} {s : bSt} (h : zX P cm mm D n d0 x a) (F : FXr x x') (r : xR x' D n d0 s) : zX P cm mm D n d0 x' (s, a.2) := ⟨r, by rw [F.1 _ _ (by omega)]; exact h.2.1, by rw [F.2]; exact h.2.2.1, by rw [F.2]; exact h.2.2.2⟩
theorem zY.p {D : Nat → Nat} {n c : Nat} {z : Int} {y : rg_S} {a : zS} (h : zY D n y a) : zY D n (rg_wA y 44 (upd (y.2.2.1 44) c (iI z))) (a.1, a.2.1, (fun j => if j = c then z else a.2.2.1 j), a.2.2.2) := by
  obtain ⟨⟨h1, h2, h3, h4, h5, h6, h7⟩, h8, h9, h10⟩ := h
  refine ⟨⟨h1, h2, h3, h4, h5, by rw [wA_n _ _ (by decide)]; exact h6, h7⟩, h8, fun j hj => ?_, by rw [wA_n _ _ (by decide)]; exact h10⟩
  rw [wA_s]
  show _ = iI (if j = c then z else a.2.2.1 j)
  by_cases e : j = c
  · rw [e, pk_us, if_pos rfl]
  · rw [pk_un e, if_neg e]
    exact h9 j hj
theorem zX.p {P mm d0 n m : Nat} {z : Int} {cm D : Nat → Nat} {x : rg_S} {a : zS} (hP : isP P) (hm : m < mm) (inj : ∀ i j, i < mm → j < mm → cm i = cm j → i = j) (h : zX P cm mm D n d0 x a) : zX P cm mm D n d0 (rg_wA x 104 (upd (x.2.2.1 104) m (iI z))) (a.1, a.2.1, (fun j => if j = cm m then z else a.2.2.1 j), a.2.2.2) := by
  unfold isP at hP
  obtain ⟨⟨h1, h2, h3, h4, h5, h6, h7, h7b, h7c⟩, h8, h9, h10⟩ := h
  refine ⟨⟨h1, h2, h3, h4, h5, h6, h7, by rw [wA_n _ _ (by omega)]; exact h7b, h7c⟩, h8, fun j hj => ?_, by rw [wA_n _ _ (by omega)]; exact h10⟩
  rw [wA_s]
  show _ = iI (if cm j = cm m then z else a.2.2.1 (cm j))
  by_cases e : j = m
  · rw [e, pk_us, if_pos rfl]
  · rw [pk_un e, if_neg (fun q => e (inj _ _ hj hm q))]
    exact h9 j hj
/-- one bit more of a first coefficient -/
def orB (b : Nat) (v : Int32) : Int32 := v ||| nI (2 ^ b)
theorem cf_or {k b : Nat} {v : Int32} (hb : b ≤ 9) (h : cfOk k v) : cfOk 0 (orB b v) := by
  have hv : -1024 ≤ v.toInt ∧ v.toInt ≤ 1023 := by
    unfold cfOk at h
    split at h <;> omega
  have p2 : 2 ^ b < 2 ^ 10 := Nat.pow_lt_pow_right (by decide) (by omega)
  have p3 : 2 ^ b < 2 ^ 32 := Nat.lt_of_lt_of_le p2 (by decide)
  have e1 : (orB b v).toBitVec.toNat = v.toBitVec.toNat ||| 2 ^ b := by
    unfold orB
    rw [Int32.toBitVec_or, BitVec.toNat_or]
    congr 1
    show (BitVec.ofInt 32 ((2 ^ b : Nat) : Int)).toNat = _
    rw [BitVec.ofInt_natCast, BitVec.toNat_ofNat, Nat.mod_eq_of_lt p3]
  have lt := v.toBitVec.isLt
  have ti : v.toInt = v.toBitVec.toInt := rfl
  have ti2 : (orB b v).toInt = (orB b v).toBitVec.toInt := rfl
  have l1 := Nat.left_le_or (n := v.toBitVec.toNat) (m := 2 ^ b)
  have l2 := Nat.or_lt_two_pow lt p3
  rw [BitVec.toInt_eq_toNat_cond] at ti ti2
  rw [e1] at ti2
  unfold cfOk
  rw [if_pos rfl]
  by_cases q : v.toBitVec.toNat < 1024
  · have l3 := Nat.or_lt_two_pow (n := 10) q p2
    split at ti2 <;> omega
  · split at ti <;> split at ti2 <;> omega
/-- one bit more of another -/
def rfv (b : Nat) (v : Int32) : Int32 := if mabs v &&& nI (2 ^ b) = 0 then (if v ≤ 0 then v - nI (2 ^ b) else v + nI (2 ^ b)) else v
theorem cf_rf {k b : Nat} {v : Int32} (hb : b ≤ 9) (hk : k ≠ 0) (h : cfOk k v) : cfOk k (rfv b v) := by
  have hv : -1023 ≤ v.toInt ∧ v.toInt ≤ 1023 := by
    unfold cfOk at h
    rw [if_neg hk] at h
    exact h
  have hvi := iI_of v
  generalize v.toInt = z at hv hvi
  subst hvi
  have p2 : 2 ^ b ≤ 2 ^ 9 := Nat.pow_le_pow_right (by decide) hb
  unfold rfv
  by_cases q : mabs (iI z) &&& nI (2 ^ b) = 0
  · rw [if_pos q]
    rw [mabs_i (by omega)] at q
    have e1 : z.natAbs &&& 2 ^ b = 0 := by
      have := congrArg (fun u : Int32 => u.toBitVec.toNat) q
      rw [Int32.toBitVec_and, BitVec.toNat_and] at this
      have c1 : (nI z.natAbs).toBitVec.toNat = z.natAbs := by
        show (BitVec.ofInt 32 (z.natAbs : Int)).toNat = _
        rw [BitVec.ofInt_natCast, BitVec.toNat_ofNat, Nat.mod_eq_of_lt (by omega)]
      have c2 : (nI (2 ^ b)).toBitVec.toNat = 2 ^ b := by
        show (BitVec.ofInt 32 ((2 ^ b : Nat) : Int)).toNat = _
        rw [BitVec.ofInt_natCast, BitVec.toNat_ofNat, Nat.mod_eq_of_lt (by omega)]
      rw [c1, c2] at this
      exact this
    have e2 : z.natAbs.testBit b = false := by
      have := congrArg (fun u : Nat => u.testBit b) e1
      simp only [Nat.testBit_and, Nat.testBit_two_pow_self, Bool.and_true, Nat.zero_testBit] at this
      exact this
    rw [Nat.testBit_eq_decide_div_mod_eq] at e2
    have e3 : z.natAbs / 2 ^ b % 2 ≠ 1 := of_decide_eq_false e2
    have e4 : z.natAbs + 2 ^ b ≤ 1023 := by
      have hz : z.natAbs ≤ 1023 := by omega
      generalize z.natAbs = u at e3 hz
      rcases (show b = 0 ∨ b = 1 ∨ b = 2 ∨ b = 3 ∨ b = 4 ∨ b = 5 ∨ b = 6 ∨ b = 7 ∨ b = 8 ∨ b = 9 by omega) with rfl | rfl | rfl | rfl | rfl | rfl | rfl | rfl | rfl | rfl <;> omega
    unfold cfOk
    rw [if_neg hk]
    have hp := Nat.two_pow_pos b
    clear e3 e2 e1 q
    generalize 2 ^ b = u at e4 p2 hp ⊢
    have i0 : iI z ≤ 0 ↔ z ≤ 0 := iI_le (b := 0) (by omega) (by omega) (by omega) (by omega)
    by_cases r : z ≤ 0
    · rw [if_pos (i0.mpr r), iI_n, iI_sub, iI_t (by omega) (by omega)]
      omega
    · rw [if_neg (fun e => r (i0.mp e)), iI_n, iI_add, iI_t (by omega) (by omega)]
      omega
  · rw [if_neg q]
    exact h
