/-! the reference's constructor whole -/
theorem hw_it {X : px_X} {a P Q : Nat} {w : px_W} {fs : List Value} {f g : Nat → Int32} (ho : w.1 a = some (.inr (15, fs))) (hP : fs[40]? = some (.ref P)) (hQ : fs[41]? = some (.ref Q)) (n1 : a ≠ P) (n2 : a ≠ Q) (n3 : P ≠ Q) (hp : w.1 P = some (.inl (0, 4, .inl f))) (hq : w.1 Q = some (.inl (0, 4, .inl g))) (j m : Nat) (hj : j < 4) :
    fX15_init_343 X (m + 1) a (nI j) w = fX15_init_343 X m a (nI (j + 1)) (px_set (px_set w P (.inl (0, 4, .inl (upd f j 1)))) Q (.inl (0, 4, .inl (upd g j 1)))) := by
  rw [fX15_init_343.eq_2, if_neg (show ¬ (4 : Int32) ≤ nI j from nI_ge (b := 4) hj (by omega)), gR_c ho 40 hP, ob_s, sN_c id hp j 1 hj (by omega), ob_s, gR_c (px_set_ne ho n1) 41 hQ, ob_s, sN_c id (px_set_ne hq (Ne.symm n3)) j 1 hj (by omega), ob_s, nI_1]
  rfl
def zDn : Nat → Int32 := (upd (upd (upd (upd (upd (upd (upd (upd (upd (upd (upd (upd (upd (upd (upd (upd (upd (upd (upd (upd (upd (upd (upd (upd (upd (upd (upd (upd (upd (upd (upd (upd (upd (upd (upd (upd (upd (upd (upd (upd (upd (upd (upd (upd (upd (upd (upd (upd (upd (upd (upd (upd (upd (upd (upd (upd (upd (upd (upd (upd (upd (upd (upd (upd (fun _ => 0) 0 (nI 0)) 1 (nI 0)) 2 (nI 1)) 3 (nI 2)) 4 (nI 1)) 5 (nI 0)) 6 (nI 0)) 7 (nI 1)) 8 (nI 2)) 9 (nI 3)) 10 (nI 4)) 11 (nI 3)) 12 (nI 2)) 13 (nI 1)) 14 (nI 0)) 15 (nI 0)) 16 (nI 1)) 17 (nI 2)) 18 (nI 3)) 19 (nI 4)) 20 (nI 5)) 21 (nI 6)) 22 (nI 5)) 23 (nI 4)) 24 (nI 3)) 25 (nI 2)) 26 (nI 1)) 27 (nI 0)) 28 (nI 0)) 29 (nI 1)) 30 (nI 2)) 31 (nI 3)) 32 (nI 4)) 33 (nI 5)) 34 (nI 6)) 35 (nI 7)) 36 (nI 7)) 37 (nI 6)) 38 (nI 5)) 39 (nI 4)) 40 (nI 3)) 41 (nI 2)) 42 (nI 1)) 43 (nI 2)) 44 (nI 3)) 45 (nI 4)) 46 (nI 5)) 47 (nI 6)) 48 (nI 7)) 49 (nI 7)) 50 (nI 6)) 51 (nI 5)) 52 (nI 4)) 53 (nI 3)) 54 (nI 4)) 55 (nI 5)) 56 (nI 6)) 57 (nI 7)) 58 (nI 7)) 59 (nI 6)) 60 (nI 5)) 61 (nI 6)) 62 (nI 7)) 63 (nI 7))
def zAn : Nat → Int32 := (upd (upd (upd (upd (upd (upd (upd (upd (upd (upd (upd (upd (upd (upd (upd (upd (upd (upd (upd (upd (upd (upd (upd (upd (upd (upd (upd (upd (upd (upd (upd (upd (upd (upd (upd (upd (upd (upd (upd (upd (upd (upd (upd (upd (upd (upd (upd (upd (upd (upd (upd (upd (upd (upd (upd (upd (upd (upd (upd (upd (upd (upd (upd (upd (fun _ => 0) 0 (nI 0)) 1 (nI 1)) 2 (nI 0)) 3 (nI 0)) 4 (nI 1)) 5 (nI 2)) 6 (nI 3)) 7 (nI 2)) 8 (nI 1)) 9 (nI 0)) 10 (nI 0)) 11 (nI 1)) 12 (nI 2)) 13 (nI 3)) 14 (nI 4)) 15 (nI 5)) 16 (nI 4)) 17 (nI 3)) 18 (nI 2)) 19 (nI 1)) 20 (nI 0)) 21 (nI 0)) 22 (nI 1)) 23 (nI 2)) 24 (nI 3)) 25 (nI 4)) 26 (nI 5)) 27 (nI 6)) 28 (nI 7)) 29 (nI 6)) 30 (nI 5)) 31 (nI 4)) 32 (nI 3)) 33 (nI 2)) 34 (nI 1)) 35 (nI 0)) 36 (nI 1)) 37 (nI 2)) 38 (nI 3)) 39 (nI 4)) 40 (nI 5)) 41 (nI 6)) 42 (nI 7)) 43 (nI 7)) 44 (nI 6)) 45 (nI 5)) 46 (nI 4)) 47 (nI 3)) 48 (nI 2)) 49 (nI 3)) 50 (nI 4)) 51 (nI 5)) 52 (nI 6)) 53 (nI 7)) 54 (nI 7)) 55 (nI 6)) 56 (nI 5)) 57 (nI 4)) 58 (nI 5)) 59 (nI 6)) 60 (nI 7)) 61 (nI 7)) 62 (nI 6)) 63 (nI 7))
def zOn : Nat → Int32 := (upd (upd (upd (upd (upd (upd (upd (upd (upd (upd (upd (upd (upd (upd (upd (upd (upd (upd (upd (upd (upd (upd (upd (upd (upd (upd (upd (upd (upd (upd (upd (upd (upd (upd (upd (upd (upd (upd (upd (upd (upd (upd (upd (upd (upd (upd (upd (upd (upd (upd (upd (upd (upd (upd (upd (upd (upd (upd (upd (upd (upd (upd (upd (upd (fun _ => 0) 0 (nI 0)) 1 (nI 1)) 8 (nI 2)) 16 (nI 3)) 9 (nI 4)) 2 (nI 5)) 3 (nI 6)) 10 (nI 7)) 17 (nI 8)) 24 (nI 9)) 32 (nI 10)) 25 (nI 11)) 18 (nI 12)) 11 (nI 13)) 4 (nI 14)) 5 (nI 15)) 12 (nI 16)) 19 (nI 17)) 26 (nI 18)) 33 (nI 19)) 40 (nI 20)) 48 (nI 21)) 41 (nI 22)) 34 (nI 23)) 27 (nI 24)) 20 (nI 25)) 13 (nI 26)) 6 (nI 27)) 7 (nI 28)) 14 (nI 29)) 21 (nI 30)) 28 (nI 31)) 35 (nI 32)) 42 (nI 33)) 49 (nI 34)) 56 (nI 35)) 57 (nI 36)) 50 (nI 37)) 43 (nI 38)) 36 (nI 39)) 29 (nI 40)) 22 (nI 41)) 15 (nI 42)) 23 (nI 43)) 30 (nI 44)) 37 (nI 45)) 44 (nI 46)) 51 (nI 47)) 58 (nI 48)) 59 (nI 49)) 52 (nI 50)) 45 (nI 51)) 38 (nI 52)) 31 (nI 53)) 39 (nI 54)) 46 (nI 55)) 53 (nI 56)) 60 (nI 57)) 61 (nI 58)) 54 (nI 59)) 47 (nI 60)) 55 (nI 61)) 62 (nI 62)) 63 (nI 63))
set_option maxRecDepth 100000 in
set_option maxHeartbeats 8000000 in
theorem n_X15z {X : px_X} {a D A O : Nat} {W : px_W} {fs : List Value} (ho : W.1 a = some (.inr (15, fs))) (hD : fs[36]? = some (.ref D)) (hA : fs[37]? = some (.ref A)) (hO : fs[38]? = some (.ref O)) (n1 : a ≠ D) (n2 : a ≠ A) (n3 : a ≠ O) (n4 : D ≠ A) (n5 : D ≠ O) (n6 : A ≠ O) :
    fX15_init_247 X FU a 0 0 (zW W D A O (fun _ => 0) (fun _ => 0) (fun _ => 0)) = fX15_init_343 X FU a 0 (zW W D A O zDn zAn zOn) := by
  obtain ⟨m, hm⟩ : ∃ m, FU = m + 16 := ⟨3999984, rfl⟩
  rw [show fX15_init_247 X FU a 0 0 = fX15_init_247 X (m + 15 + 1) a (nI 0) (nI 0) by rw [hm]; rfl]
  refine (zz_0 ho hD hA hO n1 n2 n3 n4 n5 n6 (m + 15) _ _ _).trans ?_
  refine (zz_1 ho hD hA hO n1 n2 n3 n4 n5 n6 (m + 14) _ _ _).trans ?_
  refine (zz_2 ho hD hA hO n1 n2 n3 n4 n5 n6 (m + 13) _ _ _).trans ?_
  refine (zz_3 ho hD hA hO n1 n2 n3 n4 n5 n6 (m + 12) _ _ _).trans ?_
  refine (zz_4 ho hD hA hO n1 n2 n3 n4 n5 n6 (m + 11) _ _ _).trans ?_
  refine (zz_5 ho hD hA hO n1 n2 n3 n4 n5 n6 (m + 10) _ _ _).trans ?_
  refine (zz_6 ho hD hA hO n1 n2 n3 n4 n5 n6 (m + 9) _ _ _).trans ?_
  refine (zz_7 ho hD hA hO n1 n2 n3 n4 n5 n6 (m + 8) _ _ _).trans ?_
  refine (zz_8 ho hD hA hO n1 n2 n3 n4 n5 n6 (m + 7) _ _ _).trans ?_
  refine (zz_9 ho hD hA hO n1 n2 n3 n4 n5 n6 (m + 6) _ _ _).trans ?_
  refine (zz_10 ho hD hA hO n1 n2 n3 n4 n5 n6 (m + 5) _ _ _).trans ?_
  refine (zz_11 ho hD hA hO n1 n2 n3 n4 n5 n6 (m + 4) _ _ _).trans ?_
  refine (zz_12 ho hD hA hO n1 n2 n3 n4 n5 n6 (m + 3) _ _ _).trans ?_
  refine (zz_13 ho hD hA hO n1 n2 n3 n4 n5 n6 (m + 2) _ _ _).trans ?_
  refine (zz_14 ho hD hA hO n1 n2 n3 n4 n5 n6 (m + 1) _ _ _).trans ?_
  rw [fX15_init_247.eq_2, if_pos (show (15 : Int32) ≤ nI (14 + 1) from by decide)]
  rfl
theorem zDn_ok : ∀ j, j < 64 → zDn j = zD.getD j 0 := by decide +kernel
theorem zAn_ok : ∀ j, j < 64 → zAn j = zA.getD j 0 := by decide +kernel
theorem zOn_ok : ∀ j, j < 64 → zOn (8 * (zD.getD j 0).toNatClampNeg + (zA.getD j 0).toNatClampNeg) = nI j := by decide +kernel
