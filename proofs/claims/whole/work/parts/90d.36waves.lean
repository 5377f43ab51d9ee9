/-! the class' Waves: its table -/
/-- a quarter of a wave, and COS -/
def wK (j : Nat) : Int32 := sc_K.getD j 0
def cosv (m : Nat) : Int32 := if m ≤ 8 then wK m else if m ≤ 16 then -wK (16 - m) else if m ≤ 24 then -wK (m - 16) else wK (32 - m)
/-- WAVE(n, u, x) -/
def wavv (n u x : Nat) : Int32 := if u = 0 then wK 4 else cosv (((2 * x + 1) * u * (8 / n)) % 32)
theorem s_cosine {X : px_X} (h : px_st X) (w : px_W) (n : Nat) (hn : n < 2 ^ 31) : fX9_cosine X w (nI n) = some (cosv (n % 32), w) := by
  have e : nI n &&& 31 = nI (n % 32) := pk_andN (by omega) 5 (by decide)
  have hK : ∀ j, j < 9 → aX X (X.2.2.2.2.2 0) (nI j) = some (wK j) := fun j hj => aX_st h 0 rfl j hj (by decide)
  unfold fX9_cosine cosv
  rw [e]
  generalize hm : n % 32 = m
  have hm32 : m < 32 := by omega
  by_cases h1 : m ≤ 8
  · rw [if_neg (show ¬ (8 : Int32) < nI m from nI_nlt (b := m) (a := 8) h1 (by omega)), if_pos h1, hK m (by omega), ob_s]
  · rw [if_pos (show (8 : Int32) < nI m from nI_lt (a := 8) (by omega) (by omega)), if_neg h1]
    by_cases h2 : m ≤ 16
    · rw [if_neg (show ¬ (16 : Int32) < nI m from nI_nlt (b := m) (a := 16) h2 (by omega)), if_pos h2, show (16 : Int32) - nI m = nI (16 - m) from pk_sub (a := 16) h2, hK _ (by omega), ob_s]
    · rw [if_pos (show (16 : Int32) < nI m from nI_lt (a := 16) (by omega) (by omega)), if_neg h2]
      by_cases h3 : m ≤ 24
      · rw [if_neg (show ¬ (24 : Int32) < nI m from nI_nlt (b := m) (a := 24) h3 (by omega)), if_pos h3, show nI m - (16 : Int32) = nI (m - 16) from pk_sub (b := 16) (by omega), hK _ (by omega), ob_s]
      · rw [if_pos (show (24 : Int32) < nI m from nI_lt (a := 24) (by omega) (by omega)), if_neg h3, show (32 : Int32) - nI m = nI (32 - m) from pk_sub (a := 32) (by omega), hK _ (by omega), ob_s]
theorem wv_arg (x u q : Nat) : ((2 * nI x + 1) * nI u) * nI q = nI ((2 * x + 1) * u * q) := by
  rw [show (2 : Int32) * nI x = nI (2 * x) from pk_mul 2 x, nI_1, pk_mul, pk_mul]
theorem wv_idx (s u x : Nat) : (64 * nI s + 8 * nI u) + nI x = nI (64 * s + 8 * u + x) := by
  rw [show (64 : Int32) * nI s = nI (64 * s) from pk_mul 64 s, show (8 : Int32) * nI u = nI (8 * u) from pk_mul 8 u, nI_add, nI_add]
theorem wv_50 {X : px_X} (h : px_st X) (k31 : Nat → Int32 → px_W → Option px_W) (k42 : Nat → Int32 → Int32 → Int32 → px_W → Option px_W) (a T s n u : Nat) {fs : List Value} (hT : fs[0]? = some (.ref T)) (hne : a ≠ T) (hs : s < 4) (hn0 : 0 < n) (hn : n ≤ 8) (hu : u < n) :
    ∀ (d x m : Nat) (w : px_W) (g : Nat → Int32), x + d = n → d < m → w.1 a = some (.inr (9, fs)) → w.1 T = some (.inl (0, 256, .inl g)) →
    fX9_init_50 X k31 k42 m a (nI s) (nI n) (nI u) (nI x) w = k42 a (nI s) (nI n) (nI (u + 1)) (px_set w T (.inl (0, 256, .inl (fun i => if 64 * s + 8 * u + x ≤ i ∧ i < 64 * s + 8 * u + n then wavv n u (i - (64 * s + 8 * u)) else g i)))) := by
  intro d
  induction d with
  | zero =>
    intro x m w g hx hm ho ht
    obtain ⟨m, rfl⟩ : ∃ m', m = m' + 1 := ⟨m - 1, by omega⟩
    rw [fX9_init_50.eq_2, if_pos (nI_le (by omega) (by omega))]
    unfold fX9_init_107
    rw [nI_1, show (fun i => if 64 * s + 8 * u + x ≤ i ∧ i < 64 * s + 8 * u + n then wavv n u (i - (64 * s + 8 * u)) else g i) = g from funext fun i => if_neg (by omega), px_set_same ht]
  | succ d ih =>
    intro x m w g hx hm ho ht
    obtain ⟨m, rfl⟩ : ∃ m', m = m' + 1 := ⟨m - 1, by omega⟩
    have step : ∀ v : Int32, v = wavv n u x → fX9_init_100 X k31 k42 (fX9_init_50 X k31 k42 m) a (nI s) (nI n) (nI u) (nI x) v (64 * nI s + 8 * nI u + nI x) T w = k42 a (nI s) (nI n) (nI (u + 1)) (px_set w T (.inl (0, 256, .inl (fun i => if 64 * s + 8 * u + x ≤ i ∧ i < 64 * s + 8 * u + n then wavv n u (i - (64 * s + 8 * u)) else g i)))) := by
      intro v hv
      unfold fX9_init_100
      rw [wv_idx, sN_c id ht (64 * s + 8 * u + x) v (by omega) (by omega), ob_s, nI_1, ih (x + 1) m _ _ (by omega) (by omega) (px_set_ne ho hne) px_set_eq, px_set_set]
      congr 4
      simp only [Sum.inl.injEq, Prod.mk.injEq, true_and]
      funext i
      simp only [upd, id]
      by_cases h1 : i = 64 * s + 8 * u + x
      · subst h1
        rw [if_neg (by omega), if_pos rfl, if_pos (by omega), hv]
        congr 1
        omega
      · by_cases h2 : 64 * s + 8 * u + (x + 1) ≤ i ∧ i < 64 * s + 8 * u + n
        · rw [if_pos h2, if_pos (by omega)]
        · rw [if_neg h2, if_neg h1, if_neg (by omega)]
    rw [fX9_init_50.eq_2, if_neg (nI_ge (by omega) (by omega)), gR_c ho 0 hT, ob_s]
    by_cases hu0 : u = 0
    · rw [if_pos (by rw [hu0]; rfl), show aX X (X.2.2.2.2.2 0) 4 = some (wK 4) from aX_st h 0 rfl 4 (by decide) (by decide), ob_s]
      exact step _ (by rw [wavv, if_pos hu0])
    · have hq : dI 8 (nI n) = some (nI (8 / n)) := by
        unfold dI
        rw [if_neg (nI_ne0 hn0 (by omega)), show (8 : Int32) / nI n = nI (8 / n) from pk_div (a := 8) (by omega) hn0 (by omega)]
      have hb : (2 * x + 1) * u * (8 / n) ≤ 17 * 8 * 8 := Nat.mul_le_mul (Nat.mul_le_mul (by omega) (by omega)) (Nat.div_le_self 8 n)
      rw [if_neg (nI_ne0 (by omega) (by omega)), hq, ob_s, wv_arg, s_cosine h w _ (by omega), ob_s]
      exact step _ (by rw [wavv, if_neg hu0])
theorem wv_42 {X : px_X} (h : px_st X) (k31 : Nat → Int32 → px_W → Option px_W) (a T s n : Nat) {fs : List Value} (hT : fs[0]? = some (.ref T)) (hne : a ≠ T) (hs : s < 4) (hn0 : 0 < n) (hn : n ≤ 8) :
    ∀ (d u m : Nat) (w : px_W) (g : Nat → Int32), u + d = n → d < m → w.1 a = some (.inr (9, fs)) → w.1 T = some (.inl (0, 256, .inl g)) →
    fX9_init_42 X k31 m a (nI s) (nI n) (nI u) w = k31 a (nI (s + 1)) (px_set w T (.inl (0, 256, .inl (fun i => if 64 * s + 8 * u ≤ i ∧ i < 64 * s + 8 * n ∧ i % 8 < n then wavv n (i % 64 / 8) (i % 8) else g i)))) := by
  intro d
  induction d with
  | zero =>
    intro u m w g hx hm ho ht
    obtain ⟨m, rfl⟩ : ∃ m', m = m' + 1 := ⟨m - 1, by omega⟩
    rw [fX9_init_42.eq_2, if_pos (nI_le (by omega) (by omega))]
    unfold fX9_init_113
    rw [nI_1, show (fun i => if 64 * s + 8 * u ≤ i ∧ i < 64 * s + 8 * n ∧ i % 8 < n then wavv n (i % 64 / 8) (i % 8) else g i) = g from funext fun i => if_neg (by omega), px_set_same ht]
  | succ d ih =>
    intro u m w g hx hm ho ht
    obtain ⟨m, rfl⟩ : ∃ m', m = m' + 1 := ⟨m - 1, by omega⟩
    rw [fX9_init_42.eq_2, if_neg (nI_ge (by omega) (by omega))]
    have h5 := wv_50 h k31 (fX9_init_42 X k31 m) a T s n u hT hne hs hn0 hn (by omega) n 0 FU w g (by omega) (by unfold FU; omega) ho ht
    rw [nI_0] at h5
    rw [h5, ih (u + 1) m _ _ (by omega) (by omega) (px_set_ne ho hne) px_set_eq, px_set_set]
    congr 4
    simp only [Sum.inl.injEq, Prod.mk.injEq, true_and]
    funext i
    by_cases h1 : 64 * s + 8 * (u + 1) ≤ i ∧ i < 64 * s + 8 * n ∧ i % 8 < n
    · rw [if_pos h1, if_pos (by omega)]
    · rw [if_neg h1]
      by_cases h2 : 64 * s + 8 * u + 0 ≤ i ∧ i < 64 * s + 8 * u + n
      · rw [if_pos h2, if_pos (by omega), show i % 64 / 8 = u by omega, show i % 8 = i - (64 * s + 8 * u) by omega]
      · rw [if_neg h2, if_neg (by omega)]
/-- the whole table -/
def wTab (i : Nat) : Int32 := if i < 256 ∧ i % 64 / 8 < 2 ^ (i / 64) ∧ i % 8 < 2 ^ (i / 64) then wavv (2 ^ (i / 64)) (i % 64 / 8) (i % 8) else 0
theorem wv_31s {X : px_X} (h : px_st X) (a T s m : Nat) {fs : List Value} (hT : fs[0]? = some (.ref T)) (hne : a ≠ T) (hs : s < 4) (w : px_W) (g : Nat → Int32) (ho : w.1 a = some (.inr (9, fs))) (ht : w.1 T = some (.inl (0, 256, .inl g))) :
    fX9_init_31 X (m + 1) a (nI s) w = fX9_init_31 X m a (nI (s + 1)) (px_set w T (.inl (0, 256, .inl (fun i => if 64 * s ≤ i ∧ i < 64 * s + 8 * 2 ^ s ∧ i % 8 < 2 ^ s then wavv (2 ^ s) (i % 64 / 8) (i % 8) else g i)))) := by
  have hp : 0 < 2 ^ s ∧ 2 ^ s ≤ 8 := by
    rcases (show s = 0 ∨ s = 1 ∨ s = 2 ∨ s = 3 by omega) with rfl | rfl | rfl | rfl <;> decide
  have e : (1 : Int32) <<< (nI s &&& 31) = nI (2 ^ s) := by
    rcases (show s = 0 ∨ s = 1 ∨ s = 2 ∨ s = 3 by omega) with rfl | rfl | rfl | rfl <;> decide
  rw [fX9_init_31.eq_2, if_neg (show ¬ (4 : Int32) ≤ nI s from nI_ge (b := 4) hs (by omega)), e]
  have h4 := wv_42 h (fX9_init_31 X m) a T s (2 ^ s) hT hne hs hp.1 hp.2 (2 ^ s) 0 FU w g (by omega) (by unfold FU; omega) ho ht
  rw [nI_0] at h4
  rw [h4]
  simp only [Nat.mul_zero, Nat.add_zero]
def L_X9 (a : Nat) : List px_C := [.inr (9, [.ref (a + 1), .ref (a + 2), .ref (a + 3)]), .inl (0, 256, .inl wTab), .inl (3, 64, .inr (.inl (fun _ => 0))), .inl (3, 64, .inr (.inl (fun _ => 0)))]
set_option maxHeartbeats 4000000 in
theorem n_X9 {X : px_X} (h : px_st X) (w : px_W) : fX9_init X (px_ext w [.inr (9, [.null, .null, .null])] 3) w.2.1 = some (px_ext w (L_X9 w.2.1) 387) := by
  unfold fX9_init
  refine ob_of (show nA (px_ext w [.inr (9, [.null, .null, .null])] 3) 0 256 (.inl (fun _ => 0)) = some (w.2.1 + 1, px_ext w [.inr (9, [.null, .null, .null]), .inl (0, 256, .inl (fun _ => 0))] 259) from ext_nA w [.inr (9, [.null, .null, .null])] 3 0 256 rfl _ (by decide)) ?_
  refine ob_of (show pV (px_ext w [.inr (9, [.null, .null, .null]), .inl (0, 256, .inl (fun _ => 0))] 259) w.2.1 9 0 (.ref (w.2.1 + 1)) = some (px_ext w [.inr (9, [.ref (w.2.1 + 1), .null, .null]), .inl (0, 256, .inl (fun _ => 0))] 259) from ext_pV0 w 259 9 0 _ (Nat.le_of_ble_eq_true rfl)) ?_
  refine ob_of (show nA (px_ext w [.inr (9, [.ref (w.2.1 + 1), .null, .null]), .inl (0, 256, .inl (fun _ => 0))] 259) 3 64 (.inr (.inl (fun _ => 0))) = some (w.2.1 + 2, px_ext w [.inr (9, [.ref (w.2.1 + 1), .null, .null]), .inl (0, 256, .inl (fun _ => 0)), .inl (3, 64, .inr (.inl (fun _ => 0)))] 323) from ext_nA w [.inr (9, [.ref (w.2.1 + 1), .null, .null]), .inl (0, 256, .inl (fun _ => 0))] 259 3 64 rfl _ (by decide)) ?_
  refine ob_of (show pV (px_ext w [.inr (9, [.ref (w.2.1 + 1), .null, .null]), .inl (0, 256, .inl (fun _ => 0)), .inl (3, 64, .inr (.inl (fun _ => 0)))] 323) w.2.1 9 1 (.ref (w.2.1 + 2)) = some (px_ext w [.inr (9, [.ref (w.2.1 + 1), .ref (w.2.1 + 2), .null]), .inl (0, 256, .inl (fun _ => 0)), .inl (3, 64, .inr (.inl (fun _ => 0)))] 323) from ext_pV0 w 323 9 1 _ (Nat.le_of_ble_eq_true rfl)) ?_
  refine ob_of (show nA (px_ext w [.inr (9, [.ref (w.2.1 + 1), .ref (w.2.1 + 2), .null]), .inl (0, 256, .inl (fun _ => 0)), .inl (3, 64, .inr (.inl (fun _ => 0)))] 323) 3 64 (.inr (.inl (fun _ => 0))) = some (w.2.1 + 3, px_ext w [.inr (9, [.ref (w.2.1 + 1), .ref (w.2.1 + 2), .null]), .inl (0, 256, .inl (fun _ => 0)), .inl (3, 64, .inr (.inl (fun _ => 0))), .inl (3, 64, .inr (.inl (fun _ => 0)))] 387) from ext_nA w [.inr (9, [.ref (w.2.1 + 1), .ref (w.2.1 + 2), .null]), .inl (0, 256, .inl (fun _ => 0)), .inl (3, 64, .inr (.inl (fun _ => 0)))] 323 3 64 rfl _ (by decide)) ?_
  refine ob_of (show pV (px_ext w [.inr (9, [.ref (w.2.1 + 1), .ref (w.2.1 + 2), .null]), .inl (0, 256, .inl (fun _ => 0)), .inl (3, 64, .inr (.inl (fun _ => 0))), .inl (3, 64, .inr (.inl (fun _ => 0)))] 387) w.2.1 9 2 (.ref (w.2.1 + 3)) = some (px_ext w [.inr (9, [.ref (w.2.1 + 1), .ref (w.2.1 + 2), .ref (w.2.1 + 3)]), .inl (0, 256, .inl (fun _ => 0)), .inl (3, 64, .inr (.inl (fun _ => 0))), .inl (3, 64, .inr (.inl (fun _ => 0)))] 387) from ext_pV0 w 387 9 2 _ (Nat.le_of_ble_eq_true rfl)) ?_
  obtain ⟨m, hm⟩ : ∃ m, FU = m + 5 := ⟨3999995, rfl⟩
  rw [hm]
  have ho : (px_ext w [.inr (9, [.ref (w.2.1 + 1), .ref (w.2.1 + 2), .ref (w.2.1 + 3)]), .inl (0, 256, .inl (fun _ => 0)), .inl (3, 64, .inr (.inl (fun _ => 0))), .inl (3, 64, .inr (.inl (fun _ => 0)))] 387).1 w.2.1 = some (.inr (9, [.ref (w.2.1 + 1), .ref (w.2.1 + 2), .ref (w.2.1 + 3)])) := ext_at 0 rfl
  have ht : (px_ext w [.inr (9, [.ref (w.2.1 + 1), .ref (w.2.1 + 2), .ref (w.2.1 + 3)]), .inl (0, 256, .inl (fun _ => 0)), .inl (3, 64, .inr (.inl (fun _ => 0))), .inl (3, 64, .inr (.inl (fun _ => 0)))] 387).1 (w.2.1 + 1) = some (.inl (0, 256, .inl (fun _ => 0))) := ext_at 1 rfl
  have hne : w.2.1 ≠ w.2.1 + 1 := by omega
  refine (wv_31s h w.2.1 (w.2.1 + 1) 0 (m + 4) rfl hne (by omega) _ _ ho ht).trans ?_
  refine (wv_31s h w.2.1 (w.2.1 + 1) 1 (m + 3) rfl hne (by omega) _ _ (px_set_ne ho hne) px_set_eq).trans ?_
  rw [px_set_set]
  refine (wv_31s h w.2.1 (w.2.1 + 1) 2 (m + 2) rfl hne (by omega) _ _ (px_set_ne ho hne) px_set_eq).trans ?_
  rw [px_set_set]
  refine (wv_31s h w.2.1 (w.2.1 + 1) 3 (m + 1) rfl hne (by omega) _ _ (px_set_ne ho hne) px_set_eq).trans ?_
  rw [px_set_set]
  rw [fX9_init_31.eq_2, if_pos (show (4 : Int32) ≤ nI (3 + 1) from by decide), ext_set 1 (Nat.le_of_ble_eq_true rfl)]
  congr 2
  show [_, _, _, _] = [_, _, _, _]
  congr 4
  simp only [Sum.inl.injEq, Prod.mk.injEq, true_and]
  funext i
  unfold wTab
  by_cases hi : i < 256
  · rcases (show i / 64 = 0 ∨ i / 64 = 1 ∨ i / 64 = 2 ∨ i / 64 = 3 by omega) with e | e | e | e <;> rw [e]
    · rw [if_neg (by omega), if_neg (by omega), if_neg (by omega)]
      by_cases hc : i % 64 / 8 < 2 ^ 0 ∧ i % 8 < 2 ^ 0
      · rw [if_pos (by omega), if_pos ⟨hi, hc⟩]
      · rw [if_neg (by omega), if_neg (fun z => hc z.2)]
    · rw [if_neg (by omega), if_neg (by omega)]
      by_cases hc : i % 64 / 8 < 2 ^ 1 ∧ i % 8 < 2 ^ 1
      · rw [if_pos (by omega), if_pos ⟨hi, hc⟩]
      · rw [if_neg (by omega), if_neg (by omega), if_neg (fun z => hc z.2)]
    · rw [if_neg (by omega)]
      by_cases hc : i % 64 / 8 < 2 ^ 2 ∧ i % 8 < 2 ^ 2
      · rw [if_pos (by omega), if_pos ⟨hi, hc⟩]
      · rw [if_neg (by omega), if_neg (by omega), if_neg (by omega), if_neg (fun z => hc z.2)]
    · by_cases hc : i % 64 / 8 < 2 ^ 3 ∧ i % 8 < 2 ^ 3
      · rw [if_pos (by omega), if_pos ⟨hi, hc⟩]
      · rw [if_neg (by omega), if_neg (by omega), if_neg (by omega), if_neg (by omega), if_neg (fun z => hc z.2)]
  · rw [if_neg (by omega), if_neg (by omega), if_neg (by omega), if_neg (by omega), if_neg (by omega)]
theorem n_X9a {X : px_X} (h : px_st X) (w : px_W) (L : List px_C) (s : Nat) : fX9_init X (px_ext w (L ++ [.inr (9, [.null, .null, .null])]) (s + 3)) (w.2.1 + L.length) = some (px_ext w (L ++ L_X9 (w.2.1 + L.length)) (s + 387)) := by
  have h := n_X9 h (px_ext w L s)
  rw [ext_ext, ext_ext] at h
  exact h
