/-! the reference's tables of the zigzag -/
def zW (W : px_W) (D A O : Nat) (dn ac od : Nat → Int32) : px_W := px_set (px_set (px_set W D (.inl (0, 64, .inl dn))) A (.inl (0, 64, .inl ac))) O (.inl (0, 64, .inl od))
section ZIG
variable {X : px_X} {k247 : Nat → Int32 → Int32 → px_W → Option px_W} {a D A O : Nat} {W : px_W} {fs : List Value}
theorem zz_y (ho : W.1 a = some (.inr (15, fs))) (hD : fs[36]? = some (.ref D)) (hA : fs[37]? = some (.ref A)) (hO : fs[38]? = some (.ref O)) (n1 : a ≠ D) (n2 : a ≠ A) (n3 : a ≠ O) (n4 : D ≠ A) (n5 : D ≠ O) (n6 : A ≠ O) (k s j u m : Nat) (hj : j ≤ s) (hs : s < 15) (hu : u = if s % 2 = 1 then s - j else j) (hk : k < 64) (h8 : u < 8) (h9 : s - u < 8) (dn ac od : Nat → Int32) :
    fX15_init_255 X k247 (m + 1) a (nI k) (nI s) (nI j) (zW W D A O dn ac od) = fX15_init_255 X k247 m a (nI (k + 1)) (nI s) (nI (j + 1)) (zW W D A O (upd dn k (nI (s - u))) (upd ac k (nI u)) (upd od (8 * (s - u) + u) (nI k))) := by
  have hus : u ≤ s := by rw [hu]; split <;> omega
  have e0 : (zW W D A O dn ac od).1 a = some (.inr (15, fs)) := px_set_ne (px_set_ne (px_set_ne ho n1) n2) n3
  have hr : rI (nI s) 2 = some (nI (s % 2)) := by
    unfold rI
    rw [if_neg (by decide), show nI s - nI s / 2 * 2 = nI (s % 2) from pk_rem (d := 2) (by omega) (by omega) (by omega)]
  have key : fX15_init_274 X k247 (fX15_init_255 X k247 m) a (nI k) (nI s) (nI j) (nI u) (zW W D A O dn ac od) = fX15_init_255 X k247 m a (nI (k + 1)) (nI s) (nI (j + 1)) (zW W D A O (upd dn k (nI (s - u))) (upd ac k (nI u)) (upd od (8 * (s - u) + u) (nI k))) := by
    unfold fX15_init_274 fX15_init_329
    have ed : (zW W D A O dn ac od).1 D = some (.inl (0, 64, .inl dn)) := px_set_ne (px_set_ne px_set_eq n4) n5
    rw [if_neg (show ¬ (8 : Int32) ≤ nI u from nI_ge (b := 8) h8 (by omega)), pk_sub hus, if_neg (show ¬ (8 : Int32) ≤ nI (s - u) from nI_ge (b := 8) h9 (by omega)), gR_c e0 36 hD, ob_s, sN_c id ed k _ hk (by omega), ob_s]
    rw [gR_c (px_set_ne e0 n1) 37 hA, ob_s]
    have ea : (px_set (zW W D A O dn ac od) D (.inl (0, 64, .inl (upd dn k (id (nI (s - u))))))).1 A = some (.inl (0, 64, .inl ac)) := px_set_ne (px_set_ne px_set_eq n6) (Ne.symm n4)
    rw [sN_c id ea k _ hk (by omega), ob_s, gR_c (px_set_ne (px_set_ne e0 n1) n2) 38 hO, ob_s]
    have eo : (px_set (px_set (zW W D A O dn ac od) D (.inl (0, 64, .inl (upd dn k (id (nI (s - u))))))) A (.inl (0, 64, .inl (upd ac k (id (nI u)))))).1 O = some (.inl (0, 64, .inl od)) := px_set_ne (px_set_ne px_set_eq (Ne.symm n5)) (Ne.symm n6)
    rw [show (8 : Int32) * nI (s - u) = nI (8 * (s - u)) from pk_mul 8 _, nI_add, sN_c id eo (8 * (s - u) + u) _ (by omega) (by omega), ob_s, nI_1, nI_1]
    congr 1
    refine px_W_ext (fun q => ?_) rfl
    simp only [zW, px_set_at, id]
    by_cases q1 : q = O
    · rw [if_pos q1, if_pos q1]
    · rw [if_neg q1, if_neg q1, if_neg q1]
      by_cases q2 : q = A
      · rw [if_pos q2, if_pos q2]
      · rw [if_neg q2, if_neg q2, if_neg q2]
        by_cases q3 : q = D
        · rw [if_pos q3, if_pos q3]
        · rw [if_neg q3, if_neg q3, if_neg q3]
  rw [fX15_init_255.eq_2, if_neg (nI_nlt hj (by omega)), hr, ob_s]
  by_cases hp : s % 2 = 1
  · rw [if_pos (by rw [hp]; rfl), pk_sub hj]
    rw [if_pos hp] at hu
    rw [← hu]
    exact key
  · rw [if_neg (by rw [show s % 2 = 0 by omega]; decide)]
    rw [if_neg hp] at hu
    have h2 := key
    rw [hu] at h2 ⊢
    exact h2
theorem zz_n (k s j u m : Nat) (hj : j ≤ s) (hs : s < 15) (hu : u = if s % 2 = 1 then s - j else j) (h8 : 8 ≤ u ∨ 8 ≤ s - u) (w : px_W) :
    fX15_init_255 X k247 (m + 1) a (nI k) (nI s) (nI j) w = fX15_init_255 X k247 m a (nI k) (nI s) (nI (j + 1)) w := by
  have hus : u ≤ s := by rw [hu]; split <;> omega
  have hr : rI (nI s) 2 = some (nI (s % 2)) := by
    unfold rI
    rw [if_neg (by decide), show nI s - nI s / 2 * 2 = nI (s % 2) from pk_rem (d := 2) (by omega) (by omega) (by omega)]
  have key : fX15_init_274 X k247 (fX15_init_255 X k247 m) a (nI k) (nI s) (nI j) (nI u) w = fX15_init_255 X k247 m a (nI k) (nI s) (nI (j + 1)) w := by
    unfold fX15_init_274 fX15_init_329
    by_cases h1 : 8 ≤ u
    · rw [if_pos (show (8 : Int32) ≤ nI u from nI_le (a := 8) h1 (by omega)), nI_1]
    · rw [if_neg (show ¬ (8 : Int32) ≤ nI u from nI_ge (b := 8) (by omega) (by omega)), pk_sub hus, if_pos (show (8 : Int32) ≤ nI (s - u) from nI_le (a := 8) (h8.resolve_left h1) (by omega)), nI_1]
  rw [fX15_init_255.eq_2, if_neg (nI_nlt hj (by omega)), hr, ob_s]
  by_cases hp : s % 2 = 1
  · rw [if_pos (by rw [hp]; rfl), pk_sub hj]
    rw [if_pos hp] at hu
    rw [← hu]
    exact key
  · rw [if_neg (by rw [show s % 2 = 0 by omega]; decide)]
    rw [if_neg hp] at hu
    have h2 := key
    rw [hu] at h2
    exact h2
theorem zz_e (k s j m : Nat) (hj : s < j) (hs : j < 100) (w : px_W) : fX15_init_255 X k247 (m + 1) a (nI k) (nI s) (nI j) w = k247 a (nI k) (nI (s + 1)) w := by
  rw [fX15_init_255.eq_2, if_pos (nI_lt hj (by omega))]
  unfold fX15_init_335
  rw [nI_1]
theorem zz_b (k s m : Nat) (hs : s < 15) (w : px_W) : fX15_init_247 X (m + 1) a (nI k) (nI s) w = fX15_init_255 X (fX15_init_247 X m) FU a (nI k) (nI s) (nI 0) w := by
  rw [fX15_init_247.eq_2, if_neg (show ¬ (15 : Int32) ≤ nI s from nI_ge (b := 15) hs (by omega))]
  rfl
end ZIG
set_option maxRecDepth 100000 in
theorem zz_0 {X : px_X} {a D A O : Nat} {W : px_W} {fs : List Value} (ho : W.1 a = some (.inr (15, fs))) (hD : fs[36]? = some (.ref D)) (hA : fs[37]? = some (.ref A)) (hO : fs[38]? = some (.ref O)) (n1 : a ≠ D) (n2 : a ≠ A) (n3 : a ≠ O) (n4 : D ≠ A) (n5 : D ≠ O) (n6 : A ≠ O) (m : Nat) (dn ac od : Nat → Int32) : fX15_init_247 X (m + 1) a (nI 0) (nI 0) (zW W D A O dn ac od) = fX15_init_247 X m a (nI 1) (nI 1) (zW W D A O (upd (dn) 0 (nI 0)) (upd (ac) 0 (nI 0)) (upd (od) 0 (nI 0))) := by
  refine (zz_b 0 0 m (by omega) _).trans ?_
  obtain ⟨m2, hm⟩ : ∃ m2, FU = m2 + 2 := ⟨3999998, rfl⟩
  rw [hm]
  refine (zz_y ho hD hA hO n1 n2 n3 n4 n5 n6 0 0 0 0 (m2 + 1) (by omega) (by omega) (by decide) (by omega) (by omega) (by omega) _ _ _).trans ?_
  exact zz_e 1 0 1 m2 (by omega) (by omega) _
set_option maxRecDepth 100000 in
theorem zz_1 {X : px_X} {a D A O : Nat} {W : px_W} {fs : List Value} (ho : W.1 a = some (.inr (15, fs))) (hD : fs[36]? = some (.ref D)) (hA : fs[37]? = some (.ref A)) (hO : fs[38]? = some (.ref O)) (n1 : a ≠ D) (n2 : a ≠ A) (n3 : a ≠ O) (n4 : D ≠ A) (n5 : D ≠ O) (n6 : A ≠ O) (m : Nat) (dn ac od : Nat → Int32) : fX15_init_247 X (m + 1) a (nI 1) (nI 1) (zW W D A O dn ac od) = fX15_init_247 X m a (nI 3) (nI 2) (zW W D A O (upd (upd (dn) 1 (nI 0)) 2 (nI 1)) (upd (upd (ac) 1 (nI 1)) 2 (nI 0)) (upd (upd (od) 1 (nI 1)) 8 (nI 2))) := by
  refine (zz_b 1 1 m (by omega) _).trans ?_
  obtain ⟨m2, hm⟩ : ∃ m2, FU = m2 + 3 := ⟨3999997, rfl⟩
  rw [hm]
  refine (zz_y ho hD hA hO n1 n2 n3 n4 n5 n6 1 1 0 1 (m2 + 2) (by omega) (by omega) (by decide) (by omega) (by omega) (by omega) _ _ _).trans ?_
  refine (zz_y ho hD hA hO n1 n2 n3 n4 n5 n6 2 1 1 0 (m2 + 1) (by omega) (by omega) (by decide) (by omega) (by omega) (by omega) _ _ _).trans ?_
  exact zz_e 3 1 2 m2 (by omega) (by omega) _
set_option maxRecDepth 100000 in
theorem zz_2 {X : px_X} {a D A O : Nat} {W : px_W} {fs : List Value} (ho : W.1 a = some (.inr (15, fs))) (hD : fs[36]? = some (.ref D)) (hA : fs[37]? = some (.ref A)) (hO : fs[38]? = some (.ref O)) (n1 : a ≠ D) (n2 : a ≠ A) (n3 : a ≠ O) (n4 : D ≠ A) (n5 : D ≠ O) (n6 : A ≠ O) (m : Nat) (dn ac od : Nat → Int32) : fX15_init_247 X (m + 1) a (nI 3) (nI 2) (zW W D A O dn ac od) = fX15_init_247 X m a (nI 6) (nI 3) (zW W D A O (upd (upd (upd (dn) 3 (nI 2)) 4 (nI 1)) 5 (nI 0)) (upd (upd (upd (ac) 3 (nI 0)) 4 (nI 1)) 5 (nI 2)) (upd (upd (upd (od) 16 (nI 3)) 9 (nI 4)) 2 (nI 5))) := by
  refine (zz_b 3 2 m (by omega) _).trans ?_
  obtain ⟨m2, hm⟩ : ∃ m2, FU = m2 + 4 := ⟨3999996, rfl⟩
  rw [hm]
  refine (zz_y ho hD hA hO n1 n2 n3 n4 n5 n6 3 2 0 0 (m2 + 3) (by omega) (by omega) (by decide) (by omega) (by omega) (by omega) _ _ _).trans ?_
  refine (zz_y ho hD hA hO n1 n2 n3 n4 n5 n6 4 2 1 1 (m2 + 2) (by omega) (by omega) (by decide) (by omega) (by omega) (by omega) _ _ _).trans ?_
  refine (zz_y ho hD hA hO n1 n2 n3 n4 n5 n6 5 2 2 2 (m2 + 1) (by omega) (by omega) (by decide) (by omega) (by omega) (by omega) _ _ _).trans ?_
  exact zz_e 6 2 3 m2 (by omega) (by omega) _
set_option maxRecDepth 100000 in
theorem zz_3 {X : px_X} {a D A O : Nat} {W : px_W} {fs : List Value} (ho : W.1 a = some (.inr (15, fs))) (hD : fs[36]? = some (.ref D)) (hA : fs[37]? = some (.ref A)) (hO : fs[38]? = some (.ref O)) (n1 : a ≠ D) (n2 : a ≠ A) (n3 : a ≠ O) (n4 : D ≠ A) (n5 : D ≠ O) (n6 : A ≠ O) (m : Nat) (dn ac od : Nat → Int32) : fX15_init_247 X (m + 1) a (nI 6) (nI 3) (zW W D A O dn ac od) = fX15_init_247 X m a (nI 10) (nI 4) (zW W D A O (upd (upd (upd (upd (dn) 6 (nI 0)) 7 (nI 1)) 8 (nI 2)) 9 (nI 3)) (upd (upd (upd (upd (ac) 6 (nI 3)) 7 (nI 2)) 8 (nI 1)) 9 (nI 0)) (upd (upd (upd (upd (od) 3 (nI 6)) 10 (nI 7)) 17 (nI 8)) 24 (nI 9))) := by
  refine (zz_b 6 3 m (by omega) _).trans ?_
  obtain ⟨m2, hm⟩ : ∃ m2, FU = m2 + 5 := ⟨3999995, rfl⟩
  rw [hm]
  refine (zz_y ho hD hA hO n1 n2 n3 n4 n5 n6 6 3 0 3 (m2 + 4) (by omega) (by omega) (by decide) (by omega) (by omega) (by omega) _ _ _).trans ?_
  refine (zz_y ho hD hA hO n1 n2 n3 n4 n5 n6 7 3 1 2 (m2 + 3) (by omega) (by omega) (by decide) (by omega) (by omega) (by omega) _ _ _).trans ?_
  refine (zz_y ho hD hA hO n1 n2 n3 n4 n5 n6 8 3 2 1 (m2 + 2) (by omega) (by omega) (by decide) (by omega) (by omega) (by omega) _ _ _).trans ?_
  refine (zz_y ho hD hA hO n1 n2 n3 n4 n5 n6 9 3 3 0 (m2 + 1) (by omega) (by omega) (by decide) (by omega) (by omega) (by omega) _ _ _).trans ?_
  exact zz_e 10 3 4 m2 (by omega) (by omega) _
set_option maxRecDepth 100000 in
theorem zz_4 {X : px_X} {a D A O : Nat} {W : px_W} {fs : List Value} (ho : W.1 a = some (.inr (15, fs))) (hD : fs[36]? = some (.ref D)) (hA : fs[37]? = some (.ref A)) (hO : fs[38]? = some (.ref O)) (n1 : a ≠ D) (n2 : a ≠ A) (n3 : a ≠ O) (n4 : D ≠ A) (n5 : D ≠ O) (n6 : A ≠ O) (m : Nat) (dn ac od : Nat → Int32) : fX15_init_247 X (m + 1) a (nI 10) (nI 4) (zW W D A O dn ac od) = fX15_init_247 X m a (nI 15) (nI 5) (zW W D A O (upd (upd (upd (upd (upd (dn) 10 (nI 4)) 11 (nI 3)) 12 (nI 2)) 13 (nI 1)) 14 (nI 0)) (upd (upd (upd (upd (upd (ac) 10 (nI 0)) 11 (nI 1)) 12 (nI 2)) 13 (nI 3)) 14 (nI 4)) (upd (upd (upd (upd (upd (od) 32 (nI 10)) 25 (nI 11)) 18 (nI 12)) 11 (nI 13)) 4 (nI 14))) := by
  refine (zz_b 10 4 m (by omega) _).trans ?_
  obtain ⟨m2, hm⟩ : ∃ m2, FU = m2 + 6 := ⟨3999994, rfl⟩
  rw [hm]
  refine (zz_y ho hD hA hO n1 n2 n3 n4 n5 n6 10 4 0 0 (m2 + 5) (by omega) (by omega) (by decide) (by omega) (by omega) (by omega) _ _ _).trans ?_
  refine (zz_y ho hD hA hO n1 n2 n3 n4 n5 n6 11 4 1 1 (m2 + 4) (by omega) (by omega) (by decide) (by omega) (by omega) (by omega) _ _ _).trans ?_
  refine (zz_y ho hD hA hO n1 n2 n3 n4 n5 n6 12 4 2 2 (m2 + 3) (by omega) (by omega) (by decide) (by omega) (by omega) (by omega) _ _ _).trans ?_
  refine (zz_y ho hD hA hO n1 n2 n3 n4 n5 n6 13 4 3 3 (m2 + 2) (by omega) (by omega) (by decide) (by omega) (by omega) (by omega) _ _ _).trans ?_
  refine (zz_y ho hD hA hO n1 n2 n3 n4 n5 n6 14 4 4 4 (m2 + 1) (by omega) (by omega) (by decide) (by omega) (by omega) (by omega) _ _ _).trans ?_
  exact zz_e 15 4 5 m2 (by omega) (by omega) _
set_option maxRecDepth 100000 in
theorem zz_5 {X : px_X} {a D A O : Nat} {W : px_W} {fs : List Value} (ho : W.1 a = some (.inr (15, fs))) (hD : fs[36]? = some (.ref D)) (hA : fs[37]? = some (.ref A)) (hO : fs[38]? = some (.ref O)) (n1 : a ≠ D) (n2 : a ≠ A) (n3 : a ≠ O) (n4 : D ≠ A) (n5 : D ≠ O) (n6 : A ≠ O) (m : Nat) (dn ac od : Nat → Int32) : fX15_init_247 X (m + 1) a (nI 15) (nI 5) (zW W D A O dn ac od) = fX15_init_247 X m a (nI 21) (nI 6) (zW W D A O (upd (upd (upd (upd (upd (upd (dn) 15 (nI 0)) 16 (nI 1)) 17 (nI 2)) 18 (nI 3)) 19 (nI 4)) 20 (nI 5)) (upd (upd (upd (upd (upd (upd (ac) 15 (nI 5)) 16 (nI 4)) 17 (nI 3)) 18 (nI 2)) 19 (nI 1)) 20 (nI 0)) (upd (upd (upd (upd (upd (upd (od) 5 (nI 15)) 12 (nI 16)) 19 (nI 17)) 26 (nI 18)) 33 (nI 19)) 40 (nI 20))) := by
  refine (zz_b 15 5 m (by omega) _).trans ?_
  obtain ⟨m2, hm⟩ : ∃ m2, FU = m2 + 7 := ⟨3999993, rfl⟩
  rw [hm]
  refine (zz_y ho hD hA hO n1 n2 n3 n4 n5 n6 15 5 0 5 (m2 + 6) (by omega) (by omega) (by decide) (by omega) (by omega) (by omega) _ _ _).trans ?_
  refine (zz_y ho hD hA hO n1 n2 n3 n4 n5 n6 16 5 1 4 (m2 + 5) (by omega) (by omega) (by decide) (by omega) (by omega) (by omega) _ _ _).trans ?_
  refine (zz_y ho hD hA hO n1 n2 n3 n4 n5 n6 17 5 2 3 (m2 + 4) (by omega) (by omega) (by decide) (by omega) (by omega) (by omega) _ _ _).trans ?_
  refine (zz_y ho hD hA hO n1 n2 n3 n4 n5 n6 18 5 3 2 (m2 + 3) (by omega) (by omega) (by decide) (by omega) (by omega) (by omega) _ _ _).trans ?_
  refine (zz_y ho hD hA hO n1 n2 n3 n4 n5 n6 19 5 4 1 (m2 + 2) (by omega) (by omega) (by decide) (by omega) (by omega) (by omega) _ _ _).trans ?_
  refine (zz_y ho hD hA hO n1 n2 n3 n4 n5 n6 20 5 5 0 (m2 + 1) (by omega) (by omega) (by decide) (by omega) (by omega) (by omega) _ _ _).trans ?_
  exact zz_e 21 5 6 m2 (by omega) (by omega) _
set_option maxRecDepth 100000 in
theorem zz_6 {X : px_X} {a D A O : Nat} {W : px_W} {fs : List Value} (ho : W.1 a = some (.inr (15, fs))) (hD : fs[36]? = some (.ref D)) (hA : fs[37]? = some (.ref A)) (hO : fs[38]? = some (.ref O)) (n1 : a ≠ D) (n2 : a ≠ A) (n3 : a ≠ O) (n4 : D ≠ A) (n5 : D ≠ O) (n6 : A ≠ O) (m : Nat) (dn ac od : Nat → Int32) : fX15_init_247 X (m + 1) a (nI 21) (nI 6) (zW W D A O dn ac od) = fX15_init_247 X m a (nI 28) (nI 7) (zW W D A O (upd (upd (upd (upd (upd (upd (upd (dn) 21 (nI 6)) 22 (nI 5)) 23 (nI 4)) 24 (nI 3)) 25 (nI 2)) 26 (nI 1)) 27 (nI 0)) (upd (upd (upd (upd (upd (upd (upd (ac) 21 (nI 0)) 22 (nI 1)) 23 (nI 2)) 24 (nI 3)) 25 (nI 4)) 26 (nI 5)) 27 (nI 6)) (upd (upd (upd (upd (upd (upd (upd (od) 48 (nI 21)) 41 (nI 22)) 34 (nI 23)) 27 (nI 24)) 20 (nI 25)) 13 (nI 26)) 6 (nI 27))) := by
  refine (zz_b 21 6 m (by omega) _).trans ?_
  obtain ⟨m2, hm⟩ : ∃ m2, FU = m2 + 8 := ⟨3999992, rfl⟩
  rw [hm]
  refine (zz_y ho hD hA hO n1 n2 n3 n4 n5 n6 21 6 0 0 (m2 + 7) (by omega) (by omega) (by decide) (by omega) (by omega) (by omega) _ _ _).trans ?_
  refine (zz_y ho hD hA hO n1 n2 n3 n4 n5 n6 22 6 1 1 (m2 + 6) (by omega) (by omega) (by decide) (by omega) (by omega) (by omega) _ _ _).trans ?_
  refine (zz_y ho hD hA hO n1 n2 n3 n4 n5 n6 23 6 2 2 (m2 + 5) (by omega) (by omega) (by decide) (by omega) (by omega) (by omega) _ _ _).trans ?_
  refine (zz_y ho hD hA hO n1 n2 n3 n4 n5 n6 24 6 3 3 (m2 + 4) (by omega) (by omega) (by decide) (by omega) (by omega) (by omega) _ _ _).trans ?_
  refine (zz_y ho hD hA hO n1 n2 n3 n4 n5 n6 25 6 4 4 (m2 + 3) (by omega) (by omega) (by decide) (by omega) (by omega) (by omega) _ _ _).trans ?_
  refine (zz_y ho hD hA hO n1 n2 n3 n4 n5 n6 26 6 5 5 (m2 + 2) (by omega) (by omega) (by decide) (by omega) (by omega) (by omega) _ _ _).trans ?_
  refine (zz_y ho hD hA hO n1 n2 n3 n4 n5 n6 27 6 6 6 (m2 + 1) (by omega) (by omega) (by decide) (by omega) (by omega) (by omega) _ _ _).trans ?_
  exact zz_e 28 6 7 m2 (by omega) (by omega) _
set_option maxRecDepth 100000 in
theorem zz_7 {X : px_X} {a D A O : Nat} {W : px_W} {fs : List Value} (ho : W.1 a = some (.inr (15, fs))) (hD : fs[36]? = some (.ref D)) (hA : fs[37]? = some (.ref A)) (hO : fs[38]? = some (.ref O)) (n1 : a ≠ D) (n2 : a ≠ A) (n3 : a ≠ O) (n4 : D ≠ A) (n5 : D ≠ O) (n6 : A ≠ O) (m : Nat) (dn ac od : Nat → Int32) : fX15_init_247 X (m + 1) a (nI 28) (nI 7) (zW W D A O dn ac od) = fX15_init_247 X m a (nI 36) (nI 8) (zW W D A O (upd (upd (upd (upd (upd (upd (upd (upd (dn) 28 (nI 0)) 29 (nI 1)) 30 (nI 2)) 31 (nI 3)) 32 (nI 4)) 33 (nI 5)) 34 (nI 6)) 35 (nI 7)) (upd (upd (upd (upd (upd (upd (upd (upd (ac) 28 (nI 7)) 29 (nI 6)) 30 (nI 5)) 31 (nI 4)) 32 (nI 3)) 33 (nI 2)) 34 (nI 1)) 35 (nI 0)) (upd (upd (upd (upd (upd (upd (upd (upd (od) 7 (nI 28)) 14 (nI 29)) 21 (nI 30)) 28 (nI 31)) 35 (nI 32)) 42 (nI 33)) 49 (nI 34)) 56 (nI 35))) := by
  refine (zz_b 28 7 m (by omega) _).trans ?_
  obtain ⟨m2, hm⟩ : ∃ m2, FU = m2 + 9 := ⟨3999991, rfl⟩
  rw [hm]
  refine (zz_y ho hD hA hO n1 n2 n3 n4 n5 n6 28 7 0 7 (m2 + 8) (by omega) (by omega) (by decide) (by omega) (by omega) (by omega) _ _ _).trans ?_
  refine (zz_y ho hD hA hO n1 n2 n3 n4 n5 n6 29 7 1 6 (m2 + 7) (by omega) (by omega) (by decide) (by omega) (by omega) (by omega) _ _ _).trans ?_
  refine (zz_y ho hD hA hO n1 n2 n3 n4 n5 n6 30 7 2 5 (m2 + 6) (by omega) (by omega) (by decide) (by omega) (by omega) (by omega) _ _ _).trans ?_
  refine (zz_y ho hD hA hO n1 n2 n3 n4 n5 n6 31 7 3 4 (m2 + 5) (by omega) (by omega) (by decide) (by omega) (by omega) (by omega) _ _ _).trans ?_
  refine (zz_y ho hD hA hO n1 n2 n3 n4 n5 n6 32 7 4 3 (m2 + 4) (by omega) (by omega) (by decide) (by omega) (by omega) (by omega) _ _ _).trans ?_
  refine (zz_y ho hD hA hO n1 n2 n3 n4 n5 n6 33 7 5 2 (m2 + 3) (by omega) (by omega) (by decide) (by omega) (by omega) (by omega) _ _ _).trans ?_
  refine (zz_y ho hD hA hO n1 n2 n3 n4 n5 n6 34 7 6 1 (m2 + 2) (by omega) (by omega) (by decide) (by omega) (by omega) (by omega) _ _ _).trans ?_
  refine (zz_y ho hD hA hO n1 n2 n3 n4 n5 n6 35 7 7 0 (m2 + 1) (by omega) (by omega) (by decide) (by omega) (by omega) (by omega) _ _ _).trans ?_
  exact zz_e 36 7 8 m2 (by omega) (by omega) _
set_option maxRecDepth 100000 in
theorem zz_8 {X : px_X} {a D A O : Nat} {W : px_W} {fs : List Value} (ho : W.1 a = some (.inr (15, fs))) (hD : fs[36]? = some (.ref D)) (hA : fs[37]? = some (.ref A)) (hO : fs[38]? = some (.ref O)) (n1 : a ≠ D) (n2 : a ≠ A) (n3 : a ≠ O) (n4 : D ≠ A) (n5 : D ≠ O) (n6 : A ≠ O) (m : Nat) (dn ac od : Nat → Int32) : fX15_init_247 X (m + 1) a (nI 36) (nI 8) (zW W D A O dn ac od) = fX15_init_247 X m a (nI 43) (nI 9) (zW W D A O (upd (upd (upd (upd (upd (upd (upd (dn) 36 (nI 7)) 37 (nI 6)) 38 (nI 5)) 39 (nI 4)) 40 (nI 3)) 41 (nI 2)) 42 (nI 1)) (upd (upd (upd (upd (upd (upd (upd (ac) 36 (nI 1)) 37 (nI 2)) 38 (nI 3)) 39 (nI 4)) 40 (nI 5)) 41 (nI 6)) 42 (nI 7)) (upd (upd (upd (upd (upd (upd (upd (od) 57 (nI 36)) 50 (nI 37)) 43 (nI 38)) 36 (nI 39)) 29 (nI 40)) 22 (nI 41)) 15 (nI 42))) := by
  refine (zz_b 36 8 m (by omega) _).trans ?_
  obtain ⟨m2, hm⟩ : ∃ m2, FU = m2 + 10 := ⟨3999990, rfl⟩
  rw [hm]
  refine (zz_n 36 8 0 0 (m2 + 9) (by omega) (by omega) (by decide) (by omega) _).trans ?_
  refine (zz_y ho hD hA hO n1 n2 n3 n4 n5 n6 36 8 1 1 (m2 + 8) (by omega) (by omega) (by decide) (by omega) (by omega) (by omega) _ _ _).trans ?_
  refine (zz_y ho hD hA hO n1 n2 n3 n4 n5 n6 37 8 2 2 (m2 + 7) (by omega) (by omega) (by decide) (by omega) (by omega) (by omega) _ _ _).trans ?_
  refine (zz_y ho hD hA hO n1 n2 n3 n4 n5 n6 38 8 3 3 (m2 + 6) (by omega) (by omega) (by decide) (by omega) (by omega) (by omega) _ _ _).trans ?_
  refine (zz_y ho hD hA hO n1 n2 n3 n4 n5 n6 39 8 4 4 (m2 + 5) (by omega) (by omega) (by decide) (by omega) (by omega) (by omega) _ _ _).trans ?_
  refine (zz_y ho hD hA hO n1 n2 n3 n4 n5 n6 40 8 5 5 (m2 + 4) (by omega) (by omega) (by decide) (by omega) (by omega) (by omega) _ _ _).trans ?_
  refine (zz_y ho hD hA hO n1 n2 n3 n4 n5 n6 41 8 6 6 (m2 + 3) (by omega) (by omega) (by decide) (by omega) (by omega) (by omega) _ _ _).trans ?_
  refine (zz_y ho hD hA hO n1 n2 n3 n4 n5 n6 42 8 7 7 (m2 + 2) (by omega) (by omega) (by decide) (by omega) (by omega) (by omega) _ _ _).trans ?_
  refine (zz_n 43 8 8 8 (m2 + 1) (by omega) (by omega) (by decide) (by omega) _).trans ?_
  exact zz_e 43 8 9 m2 (by omega) (by omega) _
set_option maxRecDepth 100000 in
theorem zz_9 {X : px_X} {a D A O : Nat} {W : px_W} {fs : List Value} (ho : W.1 a = some (.inr (15, fs))) (hD : fs[36]? = some (.ref D)) (hA : fs[37]? = some (.ref A)) (hO : fs[38]? = some (.ref O)) (n1 : a ≠ D) (n2 : a ≠ A) (n3 : a ≠ O) (n4 : D ≠ A) (n5 : D ≠ O) (n6 : A ≠ O) (m : Nat) (dn ac od : Nat → Int32) : fX15_init_247 X (m + 1) a (nI 43) (nI 9) (zW W D A O dn ac od) = fX15_init_247 X m a (nI 49) (nI 10) (zW W D A O (upd (upd (upd (upd (upd (upd (dn) 43 (nI 2)) 44 (nI 3)) 45 (nI 4)) 46 (nI 5)) 47 (nI 6)) 48 (nI 7)) (upd (upd (upd (upd (upd (upd (ac) 43 (nI 7)) 44 (nI 6)) 45 (nI 5)) 46 (nI 4)) 47 (nI 3)) 48 (nI 2)) (upd (upd (upd (upd (upd (upd (od) 23 (nI 43)) 30 (nI 44)) 37 (nI 45)) 44 (nI 46)) 51 (nI 47)) 58 (nI 48))) := by
  refine (zz_b 43 9 m (by omega) _).trans ?_
  obtain ⟨m2, hm⟩ : ∃ m2, FU = m2 + 11 := ⟨3999989, rfl⟩
  rw [hm]
  refine (zz_n 43 9 0 9 (m2 + 10) (by omega) (by omega) (by decide) (by omega) _).trans ?_
  refine (zz_n 43 9 1 8 (m2 + 9) (by omega) (by omega) (by decide) (by omega) _).trans ?_
  refine (zz_y ho hD hA hO n1 n2 n3 n4 n5 n6 43 9 2 7 (m2 + 8) (by omega) (by omega) (by decide) (by omega) (by omega) (by omega) _ _ _).trans ?_
  refine (zz_y ho hD hA hO n1 n2 n3 n4 n5 n6 44 9 3 6 (m2 + 7) (by omega) (by omega) (by decide) (by omega) (by omega) (by omega) _ _ _).trans ?_
  refine (zz_y ho hD hA hO n1 n2 n3 n4 n5 n6 45 9 4 5 (m2 + 6) (by omega) (by omega) (by decide) (by omega) (by omega) (by omega) _ _ _).trans ?_
  refine (zz_y ho hD hA hO n1 n2 n3 n4 n5 n6 46 9 5 4 (m2 + 5) (by omega) (by omega) (by decide) (by omega) (by omega) (by omega) _ _ _).trans ?_
  refine (zz_y ho hD hA hO n1 n2 n3 n4 n5 n6 47 9 6 3 (m2 + 4) (by omega) (by omega) (by decide) (by omega) (by omega) (by omega) _ _ _).trans ?_
  refine (zz_y ho hD hA hO n1 n2 n3 n4 n5 n6 48 9 7 2 (m2 + 3) (by omega) (by omega) (by decide) (by omega) (by omega) (by omega) _ _ _).trans ?_
  refine (zz_n 49 9 8 1 (m2 + 2) (by omega) (by omega) (by decide) (by omega) _).trans ?_
  refine (zz_n 49 9 9 0 (m2 + 1) (by omega) (by omega) (by decide) (by omega) _).trans ?_
  exact zz_e 49 9 10 m2 (by omega) (by omega) _
set_option maxRecDepth 100000 in
theorem zz_10 {X : px_X} {a D A O : Nat} {W : px_W} {fs : List Value} (ho : W.1 a = some (.inr (15, fs))) (hD : fs[36]? = some (.ref D)) (hA : fs[37]? = some (.ref A)) (hO : fs[38]? = some (.ref O)) (n1 : a ≠ D) (n2 : a ≠ A) (n3 : a ≠ O) (n4 : D ≠ A) (n5 : D ≠ O) (n6 : A ≠ O) (m : Nat) (dn ac od : Nat → Int32) : fX15_init_247 X (m + 1) a (nI 49) (nI 10) (zW W D A O dn ac od) = fX15_init_247 X m a (nI 54) (nI 11) (zW W D A O (upd (upd (upd (upd (upd (dn) 49 (nI 7)) 50 (nI 6)) 51 (nI 5)) 52 (nI 4)) 53 (nI 3)) (upd (upd (upd (upd (upd (ac) 49 (nI 3)) 50 (nI 4)) 51 (nI 5)) 52 (nI 6)) 53 (nI 7)) (upd (upd (upd (upd (upd (od) 59 (nI 49)) 52 (nI 50)) 45 (nI 51)) 38 (nI 52)) 31 (nI 53))) := by
  refine (zz_b 49 10 m (by omega) _).trans ?_
  obtain ⟨m2, hm⟩ : ∃ m2, FU = m2 + 12 := ⟨3999988, rfl⟩
  rw [hm]
  refine (zz_n 49 10 0 0 (m2 + 11) (by omega) (by omega) (by decide) (by omega) _).trans ?_
  refine (zz_n 49 10 1 1 (m2 + 10) (by omega) (by omega) (by decide) (by omega) _).trans ?_
  refine (zz_n 49 10 2 2 (m2 + 9) (by omega) (by omega) (by decide) (by omega) _).trans ?_
  refine (zz_y ho hD hA hO n1 n2 n3 n4 n5 n6 49 10 3 3 (m2 + 8) (by omega) (by omega) (by decide) (by omega) (by omega) (by omega) _ _ _).trans ?_
  refine (zz_y ho hD hA hO n1 n2 n3 n4 n5 n6 50 10 4 4 (m2 + 7) (by omega) (by omega) (by decide) (by omega) (by omega) (by omega) _ _ _).trans ?_
  refine (zz_y ho hD hA hO n1 n2 n3 n4 n5 n6 51 10 5 5 (m2 + 6) (by omega) (by omega) (by decide) (by omega) (by omega) (by omega) _ _ _).trans ?_
  refine (zz_y ho hD hA hO n1 n2 n3 n4 n5 n6 52 10 6 6 (m2 + 5) (by omega) (by omega) (by decide) (by omega) (by omega) (by omega) _ _ _).trans ?_
  refine (zz_y ho hD hA hO n1 n2 n3 n4 n5 n6 53 10 7 7 (m2 + 4) (by omega) (by omega) (by decide) (by omega) (by omega) (by omega) _ _ _).trans ?_
  refine (zz_n 54 10 8 8 (m2 + 3) (by omega) (by omega) (by decide) (by omega) _).trans ?_
  refine (zz_n 54 10 9 9 (m2 + 2) (by omega) (by omega) (by decide) (by omega) _).trans ?_
  refine (zz_n 54 10 10 10 (m2 + 1) (by omega) (by omega) (by decide) (by omega) _).trans ?_
  exact zz_e 54 10 11 m2 (by omega) (by omega) _
set_option maxRecDepth 100000 in
theorem zz_11 {X : px_X} {a D A O : Nat} {W : px_W} {fs : List Value} (ho : W.1 a = some (.inr (15, fs))) (hD : fs[36]? = some (.ref D)) (hA : fs[37]? = some (.ref A)) (hO : fs[38]? = some (.ref O)) (n1 : a ≠ D) (n2 : a ≠ A) (n3 : a ≠ O) (n4 : D ≠ A) (n5 : D ≠ O) (n6 : A ≠ O) (m : Nat) (dn ac od : Nat → Int32) : fX15_init_247 X (m + 1) a (nI 54) (nI 11) (zW W D A O dn ac od) = fX15_init_247 X m a (nI 58) (nI 12) (zW W D A O (upd (upd (upd (upd (dn) 54 (nI 4)) 55 (nI 5)) 56 (nI 6)) 57 (nI 7)) (upd (upd (upd (upd (ac) 54 (nI 7)) 55 (nI 6)) 56 (nI 5)) 57 (nI 4)) (upd (upd (upd (upd (od) 39 (nI 54)) 46 (nI 55)) 53 (nI 56)) 60 (nI 57))) := by
  refine (zz_b 54 11 m (by omega) _).trans ?_
  obtain ⟨m2, hm⟩ : ∃ m2, FU = m2 + 13 := ⟨3999987, rfl⟩
  rw [hm]
  refine (zz_n 54 11 0 11 (m2 + 12) (by omega) (by omega) (by decide) (by omega) _).trans ?_
  refine (zz_n 54 11 1 10 (m2 + 11) (by omega) (by omega) (by decide) (by omega) _).trans ?_
  refine (zz_n 54 11 2 9 (m2 + 10) (by omega) (by omega) (by decide) (by omega) _).trans ?_
  refine (zz_n 54 11 3 8 (m2 + 9) (by omega) (by omega) (by decide) (by omega) _).trans ?_
  refine (zz_y ho hD hA hO n1 n2 n3 n4 n5 n6 54 11 4 7 (m2 + 8) (by omega) (by omega) (by decide) (by omega) (by omega) (by omega) _ _ _).trans ?_
  refine (zz_y ho hD hA hO n1 n2 n3 n4 n5 n6 55 11 5 6 (m2 + 7) (by omega) (by omega) (by decide) (by omega) (by omega) (by omega) _ _ _).trans ?_
  refine (zz_y ho hD hA hO n1 n2 n3 n4 n5 n6 56 11 6 5 (m2 + 6) (by omega) (by omega) (by decide) (by omega) (by omega) (by omega) _ _ _).trans ?_
  refine (zz_y ho hD hA hO n1 n2 n3 n4 n5 n6 57 11 7 4 (m2 + 5) (by omega) (by omega) (by decide) (by omega) (by omega) (by omega) _ _ _).trans ?_
  refine (zz_n 58 11 8 3 (m2 + 4) (by omega) (by omega) (by decide) (by omega) _).trans ?_
  refine (zz_n 58 11 9 2 (m2 + 3) (by omega) (by omega) (by decide) (by omega) _).trans ?_
  refine (zz_n 58 11 10 1 (m2 + 2) (by omega) (by omega) (by decide) (by omega) _).trans ?_
  refine (zz_n 58 11 11 0 (m2 + 1) (by omega) (by omega) (by decide) (by omega) _).trans ?_
  exact zz_e 58 11 12 m2 (by omega) (by omega) _
set_option maxRecDepth 100000 in
theorem zz_12 {X : px_X} {a D A O : Nat} {W : px_W} {fs : List Value} (ho : W.1 a = some (.inr (15, fs))) (hD : fs[36]? = some (.ref D)) (hA : fs[37]? = some (.ref A)) (hO : fs[38]? = some (.ref O)) (n1 : a ≠ D) (n2 : a ≠ A) (n3 : a ≠ O) (n4 : D ≠ A) (n5 : D ≠ O) (n6 : A ≠ O) (m : Nat) (dn ac od : Nat → Int32) : fX15_init_247 X (m + 1) a (nI 58) (nI 12) (zW W D A O dn ac od) = fX15_init_247 X m a (nI 61) (nI 13) (zW W D A O (upd (upd (upd (dn) 58 (nI 7)) 59 (nI 6)) 60 (nI 5)) (upd (upd (upd (ac) 58 (nI 5)) 59 (nI 6)) 60 (nI 7)) (upd (upd (upd (od) 61 (nI 58)) 54 (nI 59)) 47 (nI 60))) := by
  refine (zz_b 58 12 m (by omega) _).trans ?_
  obtain ⟨m2, hm⟩ : ∃ m2, FU = m2 + 14 := ⟨3999986, rfl⟩
  rw [hm]
  refine (zz_n 58 12 0 0 (m2 + 13) (by omega) (by omega) (by decide) (by omega) _).trans ?_
  refine (zz_n 58 12 1 1 (m2 + 12) (by omega) (by omega) (by decide) (by omega) _).trans ?_
  refine (zz_n 58 12 2 2 (m2 + 11) (by omega) (by omega) (by decide) (by omega) _).trans ?_
  refine (zz_n 58 12 3 3 (m2 + 10) (by omega) (by omega) (by decide) (by omega) _).trans ?_
  refine (zz_n 58 12 4 4 (m2 + 9) (by omega) (by omega) (by decide) (by omega) _).trans ?_
  refine (zz_y ho hD hA hO n1 n2 n3 n4 n5 n6 58 12 5 5 (m2 + 8) (by omega) (by omega) (by decide) (by omega) (by omega) (by omega) _ _ _).trans ?_
  refine (zz_y ho hD hA hO n1 n2 n3 n4 n5 n6 59 12 6 6 (m2 + 7) (by omega) (by omega) (by decide) (by omega) (by omega) (by omega) _ _ _).trans ?_
  refine (zz_y ho hD hA hO n1 n2 n3 n4 n5 n6 60 12 7 7 (m2 + 6) (by omega) (by omega) (by decide) (by omega) (by omega) (by omega) _ _ _).trans ?_
  refine (zz_n 61 12 8 8 (m2 + 5) (by omega) (by omega) (by decide) (by omega) _).trans ?_
  refine (zz_n 61 12 9 9 (m2 + 4) (by omega) (by omega) (by decide) (by omega) _).trans ?_
  refine (zz_n 61 12 10 10 (m2 + 3) (by omega) (by omega) (by decide) (by omega) _).trans ?_
  refine (zz_n 61 12 11 11 (m2 + 2) (by omega) (by omega) (by decide) (by omega) _).trans ?_
  refine (zz_n 61 12 12 12 (m2 + 1) (by omega) (by omega) (by decide) (by omega) _).trans ?_
  exact zz_e 61 12 13 m2 (by omega) (by omega) _
set_option maxRecDepth 100000 in
theorem zz_13 {X : px_X} {a D A O : Nat} {W : px_W} {fs : List Value} (ho : W.1 a = some (.inr (15, fs))) (hD : fs[36]? = some (.ref D)) (hA : fs[37]? = some (.ref A)) (hO : fs[38]? = some (.ref O)) (n1 : a ≠ D) (n2 : a ≠ A) (n3 : a ≠ O) (n4 : D ≠ A) (n5 : D ≠ O) (n6 : A ≠ O) (m : Nat) (dn ac od : Nat → Int32) : fX15_init_247 X (m + 1) a (nI 61) (nI 13) (zW W D A O dn ac od) = fX15_init_247 X m a (nI 63) (nI 14) (zW W D A O (upd (upd (dn) 61 (nI 6)) 62 (nI 7)) (upd (upd (ac) 61 (nI 7)) 62 (nI 6)) (upd (upd (od) 55 (nI 61)) 62 (nI 62))) := by
  refine (zz_b 61 13 m (by omega) _).trans ?_
  obtain ⟨m2, hm⟩ : ∃ m2, FU = m2 + 15 := ⟨3999985, rfl⟩
  rw [hm]
  refine (zz_n 61 13 0 13 (m2 + 14) (by omega) (by omega) (by decide) (by omega) _).trans ?_
  refine (zz_n 61 13 1 12 (m2 + 13) (by omega) (by omega) (by decide) (by omega) _).trans ?_
  refine (zz_n 61 13 2 11 (m2 + 12) (by omega) (by omega) (by decide) (by omega) _).trans ?_
  refine (zz_n 61 13 3 10 (m2 + 11) (by omega) (by omega) (by decide) (by omega) _).trans ?_
  refine (zz_n 61 13 4 9 (m2 + 10) (by omega) (by omega) (by decide) (by omega) _).trans ?_
  refine (zz_n 61 13 5 8 (m2 + 9) (by omega) (by omega) (by decide) (by omega) _).trans ?_
  refine (zz_y ho hD hA hO n1 n2 n3 n4 n5 n6 61 13 6 7 (m2 + 8) (by omega) (by omega) (by decide) (by omega) (by omega) (by omega) _ _ _).trans ?_
  refine (zz_y ho hD hA hO n1 n2 n3 n4 n5 n6 62 13 7 6 (m2 + 7) (by omega) (by omega) (by decide) (by omega) (by omega) (by omega) _ _ _).trans ?_
  refine (zz_n 63 13 8 5 (m2 + 6) (by omega) (by omega) (by decide) (by omega) _).trans ?_
  refine (zz_n 63 13 9 4 (m2 + 5) (by omega) (by omega) (by decide) (by omega) _).trans ?_
  refine (zz_n 63 13 10 3 (m2 + 4) (by omega) (by omega) (by decide) (by omega) _).trans ?_
  refine (zz_n 63 13 11 2 (m2 + 3) (by omega) (by omega) (by decide) (by omega) _).trans ?_
  refine (zz_n 63 13 12 1 (m2 + 2) (by omega) (by omega) (by decide) (by omega) _).trans ?_
  refine (zz_n 63 13 13 0 (m2 + 1) (by omega) (by omega) (by decide) (by omega) _).trans ?_
  exact zz_e 63 13 14 m2 (by omega) (by omega) _
set_option maxRecDepth 100000 in
theorem zz_14 {X : px_X} {a D A O : Nat} {W : px_W} {fs : List Value} (ho : W.1 a = some (.inr (15, fs))) (hD : fs[36]? = some (.ref D)) (hA : fs[37]? = some (.ref A)) (hO : fs[38]? = some (.ref O)) (n1 : a ≠ D) (n2 : a ≠ A) (n3 : a ≠ O) (n4 : D ≠ A) (n5 : D ≠ O) (n6 : A ≠ O) (m : Nat) (dn ac od : Nat → Int32) : fX15_init_247 X (m + 1) a (nI 63) (nI 14) (zW W D A O dn ac od) = fX15_init_247 X m a (nI 64) (nI 15) (zW W D A O (upd (dn) 63 (nI 7)) (upd (ac) 63 (nI 7)) (upd (od) 63 (nI 63))) := by
  refine (zz_b 63 14 m (by omega) _).trans ?_
  obtain ⟨m2, hm⟩ : ∃ m2, FU = m2 + 16 := ⟨3999984, rfl⟩
  rw [hm]
  refine (zz_n 63 14 0 0 (m2 + 15) (by omega) (by omega) (by decide) (by omega) _).trans ?_
  refine (zz_n 63 14 1 1 (m2 + 14) (by omega) (by omega) (by decide) (by omega) _).trans ?_
  refine (zz_n 63 14 2 2 (m2 + 13) (by omega) (by omega) (by decide) (by omega) _).trans ?_
  refine (zz_n 63 14 3 3 (m2 + 12) (by omega) (by omega) (by decide) (by omega) _).trans ?_
  refine (zz_n 63 14 4 4 (m2 + 11) (by omega) (by omega) (by decide) (by omega) _).trans ?_
  refine (zz_n 63 14 5 5 (m2 + 10) (by omega) (by omega) (by decide) (by omega) _).trans ?_
  refine (zz_n 63 14 6 6 (m2 + 9) (by omega) (by omega) (by decide) (by omega) _).trans ?_
  refine (zz_y ho hD hA hO n1 n2 n3 n4 n5 n6 63 14 7 7 (m2 + 8) (by omega) (by omega) (by decide) (by omega) (by omega) (by omega) _ _ _).trans ?_
  refine (zz_n 64 14 8 8 (m2 + 7) (by omega) (by omega) (by decide) (by omega) _).trans ?_
  refine (zz_n 64 14 9 9 (m2 + 6) (by omega) (by omega) (by decide) (by omega) _).trans ?_
  refine (zz_n 64 14 10 10 (m2 + 5) (by omega) (by omega) (by decide) (by omega) _).trans ?_
  refine (zz_n 64 14 11 11 (m2 + 4) (by omega) (by omega) (by decide) (by omega) _).trans ?_
  refine (zz_n 64 14 12 12 (m2 + 3) (by omega) (by omega) (by decide) (by omega) _).trans ?_
  refine (zz_n 64 14 13 13 (m2 + 2) (by omega) (by omega) (by decide) (by omega) _).trans ?_
  refine (zz_n 64 14 14 14 (m2 + 1) (by omega) (by omega) (by decide) (by omega) _).trans ?_
  exact zz_e 64 14 15 m2 (by omega) (by omega) _
def zD : List Int32 := [0, 0, 1, 2, 1, 0, 0, 1, 2, 3, 4, 3, 2, 1, 0, 0, 1, 2, 3, 4, 5, 6, 5, 4, 3, 2, 1, 0, 0, 1, 2, 3, 4, 5, 6, 7, 7, 6, 5, 4, 3, 2, 1, 2, 3, 4, 5, 6, 7, 7, 6, 5, 4, 3, 4, 5, 6, 7, 7, 6, 5, 6, 7, 7]
def zA : List Int32 := [0, 1, 0, 0, 1, 2, 3, 2, 1, 0, 0, 1, 2, 3, 4, 5, 4, 3, 2, 1, 0, 0, 1, 2, 3, 4, 5, 6, 7, 6, 5, 4, 3, 2, 1, 0, 1, 2, 3, 4, 5, 6, 7, 7, 6, 5, 4, 3, 2, 3, 4, 5, 6, 7, 7, 6, 5, 4, 5, 6, 7, 7, 6, 7]
