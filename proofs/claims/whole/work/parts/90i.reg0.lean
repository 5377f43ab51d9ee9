/-! the worlds behind the constructors, as regions -/
def rgV (B : Nat) (s : rg_S) (o : Nat) : Nat → List (Nat × Nat) → List Value
  | _, [] => []
  | k, K :: ks => rg_v B s o k K :: rgV B s o (k + 1) ks
theorem rgV_get {B : Nat} {s : rg_S} {o : Nat} : ∀ (ks : List (Nat × Nat)) (k j : Nat), (rgV B s o k ks)[j]? = (ks[j]?).map fun K => rg_v B s o (k + j) K := by
  intro ks
  induction ks with
  | nil => intro k j; rfl
  | cons K ks ih =>
    intro k j
    cases j with
    | zero => rfl
    | succ j =>
      show (rgV B s o (k + 1) ks)[j]? = (ks[j]?).map _
      rw [ih, show k + 1 + j = k + (j + 1) by omega]
theorem rgV_e {B : Nat} {s : rg_S} {o : Nat} (ks : List (Nat × Nat)) : rgV B s o 0 ks = rg_vs B s o ks := by
  apply List.ext_getElem?
  intro j
  rw [rgV_get]
  simp only [rg_vs, List.getElem?_mapIdx, Nat.zero_add]
def cC (B : Nat) (s : rg_S) (o : Nat) (c : rg_K) : px_C := match c with
  | .inl (ci, ks) => .inr (ci, rgV B s o 0 ks)
  | .inr (t, n, f) => .inl (t, n, if t = 3 then .inr (.inl (s.2.2.2 o)) else if 4 < t then .inr (.inr (.inr (.inr fun i => (f i).map fun d => B + d))) else .inl (s.2.2.1 o))
theorem cC_e (B : Nat) (s : rg_S) (o : Nat) (c : rg_K) : cC B s o c = rg_c B s o c := by
  rcases c with ⟨ci, ks⟩ | ⟨t, n, f⟩
  · show Sum.inr (ci, rgV B s o 0 ks) = Sum.inr (ci, rg_vs B s o ks)
    rw [rgV_e]
  · rfl
def rgL (B : Nat) (s : rg_S) : Nat → List rg_K → List px_C
  | _, [] => []
  | o, c :: cs => cC B s o c :: rgL B s (o + 1) cs
theorem rgL_get {B : Nat} {s : rg_S} : ∀ (cs : List rg_K) (o k : Nat), (rgL B s o cs)[k]? = (cs[k]?).map (rg_c B s (o + k)) := by
  intro cs
  induction cs with
  | nil => intro o k; rfl
  | cons c cs ih =>
    intro o k
    cases k with
    | zero =>
      show some (cC B s o c) = some (rg_c B s (o + 0) c)
      rw [cC_e, Nat.add_zero]
    | succ k =>
      show (rgL B s (o + 1) cs)[k]? = (cs[k]?).map _
      rw [ih, show o + 1 + k = o + (k + 1) by omega]
theorem rgL_len {B : Nat} {s : rg_S} : ∀ (cs : List rg_K) (o : Nat), (rgL B s o cs).length = cs.length := by
  intro cs
  induction cs with
  | nil => intro o; rfl
  | cons c cs ih => intro o; show (rgL B s (o + 1) cs).length + 1 = cs.length + 1; rw [ih]
theorem rgL_ap {B : Nat} {s : rg_S} {o n : Nat} {A R : List px_C} {ks ls : List rg_K} (h1 : A = rgL B s o ks) (hn : ks.length = n) (h2 : R = rgL B s (o + n) ls) : A ++ R = rgL B s o (ks ++ ls) := by
  subst h1 h2 hn
  induction ks generalizing o with
  | nil => rfl
  | cons k ks ih =>
    show cC B s o k :: (rgL B s (o + 1) ks ++ rgL B s (o + (ks.length + 1)) ls) = cC B s o k :: rgL B s (o + 1) (ks ++ ls)
    rw [← ih, show o + (ks.length + 1) = o + 1 + ks.length by omega]
theorem ext_rg {w : px_W} {s : rg_S} {n : Nat} (ks : List rg_K) : px_ext w (rgL w.2.1 s 0 ks) n = rg_p (fun o => ks[o]?) w.2.1 (w.1, w.2.1 + ks.length, w.2.2 + n) s := by
  refine px_W_ext (fun q => ?_) ?_
  · by_cases h : w.2.1 ≤ q ∧ q < w.2.1 + ks.length
    · rw [ext_in (by rw [rgL_len]; exact h), rgL_get]
      have hk : q - w.2.1 < ks.length := by omega
      have e := List.getElem?_eq_getElem hk
      simp only [rg_p, h.1, if_true, e, Option.map_some, Nat.zero_add]
    · rw [ext_out (by rw [rgL_len]; exact h)]
      by_cases hq : w.2.1 ≤ q
      · have e : ks[q - w.2.1]? = none := List.getElem?_eq_none (by omega)
        simp only [rg_p, hq, if_true, e]
      · simp only [rg_p, hq, if_false]
  · rw [ext_s, rgL_len]
    rfl
theorem cn2 {α : Type} {p q : α} {l m : List α} (h : p = q) (k : l = m) : p :: l = q :: m := by
  rw [h, k]
def x0I (o k : Nat) : Int32 := if o = 0 then (if k = 14 then (-1) else 0) else if o = 7 then (if k = 0 then 1 else if k = 1 then 1 else if k = 3 then 1 else if k = 4 then 1 else 0) else if o = 15 then (if k = 0 then 1 else if k = 1 then 1 else if k = 3 then 1 else if k = 4 then 1 else 0) else if o = 24 then (if k = 0 then 1 else if k = 1 then 1 else 0) else if o = 26 then (if k = 0 then 1 else if k = 1 then 1 else 0) else if o = 28 then (if k = 0 then 1 else if k = 1 then 1 else 0) else if o = 30 then (if k = 0 then 1 else if k = 1 then 1 else 0) else if o = 32 then (if k = 0 then 1 else if k = 1 then 1 else 0) else if o = 34 then (if k = 0 then 1 else if k = 1 then 1 else 0) else if o = 41 then (if k = 12 then 1 else 0) else if o = 96 then (if k = 12 then 1 else 0) else if o = 106 then (if k = 12 then 1 else 0) else 0
def x0R (o k : Nat) : Nat := if o = 0 then (if k = 1 then 3 else if k = 2 then 5 else if k = 4 then 7 else if k = 5 then 15 else 0) else if o = 40 then (if k = 1 then 15 else 0) else if o = 95 then (if k = 1 then 15 else if k = 2 then 96 else 0) else if o = 105 then (if k = 0 then 5 else if k = 1 then 7 else 0) else if o = 195 then (if k = 0 then 5 else if k = 1 then 7 else 0) else 0
def x0 : rg_S := (x0I, x0R, fun o => if o = 37 then wTab else fun _ => 0, fun _ _ => 0)
def y0I (o k : Nat) : Int32 := if o = 0 then (if k = 8 then (-1) else 0) else if o = 4 then (if k = 5 then (-1) else 0) else 0
def y0R (o k : Nat) : Nat := if o = 4 then (if k = 2 then 0 else 0) else 0
def y0 : rg_S := (y0I, y0R, fun _ _ => 0, fun _ _ => 0)
def lbX0 : List rg_K := [.inl (1, [(1, 2), (0, 0), (0, 0)]),
  .inr (1, 16384, fun _ => none),
  .inl (1, [(1, 4), (0, 0), (0, 0)]),
  .inr (1, 16384, fun _ => none),
  .inl (1, [(1, 6), (0, 0), (0, 0)]),
  .inr (1, 16384, fun _ => none),
  .inl (2, [(0, 0), (0, 0), (0, 0), (0, 0), (0, 0), (0, 0), (1, 8), (1, 9), (1, 10), (1, 11), (1, 12), (1, 13), (1, 14)]),
  .inr (0, 4, fun _ => none),
  .inr (0, 4, fun _ => none),
  .inr (0, 4, fun _ => none),
  .inr (0, 4, fun _ => none),
  .inr (0, 4, fun _ => none),
  .inr (0, 12288, fun _ => none),
  .inr (0, 256, fun _ => none),
  .inl (2, [(0, 0), (0, 0), (0, 0), (0, 0), (0, 0), (0, 0), (1, 16), (1, 17), (1, 18), (1, 19), (1, 20), (1, 21), (1, 22)]),
  .inr (0, 4, fun _ => none),
  .inr (0, 4, fun _ => none),
  .inr (0, 4, fun _ => none),
  .inr (0, 4, fun _ => none),
  .inr (0, 4, fun _ => none),
  .inr (0, 12288, fun _ => none),
  .inr (0, 256, fun _ => none),
  .inr (6, 4, fun i => if i < 4 then some (24 + 2 * i) else none),
  .inl (3, [(0, 0), (0, 0), (1, 25)]),
  .inr (0, 1024, fun _ => none),
  .inl (3, [(0, 0), (0, 0), (1, 27)]),
  .inr (0, 1024, fun _ => none),
  .inl (3, [(0, 0), (0, 0), (1, 29)]),
  .inr (0, 1024, fun _ => none),
  .inl (3, [(0, 0), (0, 0), (1, 31)]),
  .inr (0, 1024, fun _ => none)]
theorem upX23 (a : Nat) : va_up (va_up (va_up (va_up (fun _ => none) 0 (some (a + 24))) 1 (some (a + 26))) 2 (some (a + 28))) 3 (some (a + 30)) = fun i => ((fun i => if i < 4 then some (24 + 2 * i) else none) i).map fun d => a + d := by
  funext i
  rcases (show i = 0 ∨ i = 1 ∨ i = 2 ∨ i = 3 ∨ 4 ≤ i by omega) with rfl | rfl | rfl | rfl | h
  · rfl
  · rfl
  · rfl
  · rfl
  · simp only [va_up]
    rw [if_neg (show ¬ i = 3 by omega), if_neg (show ¬ i = 2 by omega), if_neg (show ¬ i = 1 by omega), if_neg (show ¬ i = 0 by omega), if_neg (show ¬ i < 4 by omega)]
    rfl
set_option maxRecDepth 100000 in
set_option maxHeartbeats 8000000 in
theorem lbX0_e (a : Nat) : T11_0 a = rgL a x0 1 lbX0 := by
  unfold T11_0
  rw [upX23 a]
  rfl
def lbX1 : List rg_K := [.inl (3, [(0, 0), (0, 0), (1, 33)]),
  .inr (0, 1024, fun _ => none)]
set_option maxRecDepth 100000 in
set_option maxHeartbeats 8000000 in
theorem lbX1_e (a : Nat) : L_X3 (a + 32) = rgL a x0 32 lbX1 := by
  rfl
def lbX2 : List rg_K := [.inl (3, [(0, 0), (0, 0), (1, 35)]),
  .inr (0, 1024, fun _ => none)]
set_option maxRecDepth 100000 in
set_option maxHeartbeats 8000000 in
theorem lbX2_e (a : Nat) : L_X3 (a + 34) = rgL a x0 34 lbX2 := by
  rfl
def lbX3 : List rg_K := [.inl (9, [(1, 37), (1, 38), (1, 39)]),
  .inr (0, 256, fun _ => none),
  .inr (3, 64, fun _ => none),
  .inr (3, 64, fun _ => none)]
set_option maxRecDepth 100000 in
set_option maxHeartbeats 8000000 in
theorem lbX3_e (a : Nat) : L_X9 (a + 36) = rgL a x0 36 lbX3 := by
  rfl
def lbX4 : List rg_K := [.inl (8, [(1, 1), (2, 0), (1, 41), (1, 49), (0, 0), (0, 0), (0, 0), (0, 0), (0, 0), (0, 0), (0, 0), (0, 0), (0, 0), (0, 0), (0, 0), (1, 50), (1, 51), (1, 52), (1, 53), (1, 54)]),
  .inl (5, [(0, 0), (0, 0), (0, 0), (0, 0), (0, 0), (1, 42), (1, 43), (1, 44), (1, 45), (0, 0), (0, 0), (0, 0), (0, 0), (0, 0), (1, 46), (1, 47), (1, 48)]),
  .inr (0, 4, fun _ => none),
  .inr (0, 4, fun _ => none),
  .inr (0, 4, fun _ => none),
  .inr (0, 4, fun _ => none),
  .inr (0, 10, fun _ => none),
  .inr (0, 10, fun _ => none),
  .inr (0, 10, fun _ => none),
  .inr (7, 8, fun i => if i < 8 then some (55 + 5 * i) else none),
  .inr (0, 4, fun _ => none),
  .inr (0, 4, fun _ => none),
  .inr (0, 256, fun _ => none),
  .inr (0, 256, fun _ => none),
  .inr (0, 256, fun _ => none),
  .inl (10, [(1, 56), (1, 57), (1, 58), (1, 59), (0, 0), (0, 0)]),
  .inr (0, 17, fun _ => none),
  .inr (0, 17, fun _ => none),
  .inr (0, 17, fun _ => none),
  .inr (0, 256, fun _ => none),
  .inl (10, [(1, 61), (1, 62), (1, 63), (1, 64), (0, 0), (0, 0)]),
  .inr (0, 17, fun _ => none),
  .inr (0, 17, fun _ => none),
  .inr (0, 17, fun _ => none),
  .inr (0, 256, fun _ => none),
  .inl (10, [(1, 66), (1, 67), (1, 68), (1, 69), (0, 0), (0, 0)]),
  .inr (0, 17, fun _ => none),
  .inr (0, 17, fun _ => none),
  .inr (0, 17, fun _ => none),
  .inr (0, 256, fun _ => none),
  .inl (10, [(1, 71), (1, 72), (1, 73), (1, 74), (0, 0), (0, 0)]),
  .inr (0, 17, fun _ => none),
  .inr (0, 17, fun _ => none),
  .inr (0, 17, fun _ => none),
  .inr (0, 256, fun _ => none),
  .inl (10, [(1, 76), (1, 77), (1, 78), (1, 79), (0, 0), (0, 0)]),
  .inr (0, 17, fun _ => none),
  .inr (0, 17, fun _ => none),
  .inr (0, 17, fun _ => none),
  .inr (0, 256, fun _ => none),
  .inl (10, [(1, 81), (1, 82), (1, 83), (1, 84), (0, 0), (0, 0)]),
  .inr (0, 17, fun _ => none),
  .inr (0, 17, fun _ => none),
  .inr (0, 17, fun _ => none),
  .inr (0, 256, fun _ => none),
  .inl (10, [(1, 86), (1, 87), (1, 88), (1, 89), (0, 0), (0, 0)]),
  .inr (0, 17, fun _ => none),
  .inr (0, 17, fun _ => none),
  .inr (0, 17, fun _ => none),
  .inr (0, 256, fun _ => none),
  .inl (10, [(1, 91), (1, 92), (1, 93), (1, 94), (0, 0), (0, 0)]),
  .inr (0, 17, fun _ => none),
  .inr (0, 17, fun _ => none),
  .inr (0, 17, fun _ => none),
  .inr (0, 256, fun _ => none)]
theorem upX49 (a : Nat) : va_up (va_up (va_up (va_up (va_up (va_up (va_up (va_up (fun _ => none) 0 (some (a + 40 + 15))) 1 (some (a + 40 + 20))) 2 (some (a + 40 + 25))) 3 (some (a + 40 + 30))) 4 (some (a + 40 + 35))) 5 (some (a + 40 + 40))) 6 (some (a + 40 + 45))) 7 (some (a + 40 + 50)) = fun i => ((fun i => if i < 8 then some (55 + 5 * i) else none) i).map fun d => a + d := by
  funext i
  rcases (show i = 0 ∨ i = 1 ∨ i = 2 ∨ i = 3 ∨ i = 4 ∨ i = 5 ∨ i = 6 ∨ i = 7 ∨ 8 ≤ i by omega) with rfl | rfl | rfl | rfl | rfl | rfl | rfl | rfl | h
  · rfl
  · rfl
  · rfl
  · rfl
  · rfl
  · rfl
  · rfl
  · rfl
  · simp only [va_up]
    rw [if_neg (show ¬ i = 7 by omega), if_neg (show ¬ i = 6 by omega), if_neg (show ¬ i = 5 by omega), if_neg (show ¬ i = 4 by omega), if_neg (show ¬ i = 3 by omega), if_neg (show ¬ i = 2 by omega), if_neg (show ¬ i = 1 by omega), if_neg (show ¬ i = 0 by omega), if_neg (show ¬ i < 8 by omega)]
    rfl
set_option maxRecDepth 100000 in
set_option maxHeartbeats 8000000 in
theorem lbX4_e (a : Nat) : L_X8 (a + 40) (a + 1) (a + 15) = rgL a x0 40 lbX4 := by
  unfold L_X8
  rw [upX49 a]
  rfl
def lbX5 : List rg_K := [.inl (6, [(1, 1), (2, 0), (2, 0), (0, 0), (0, 0), (0, 0), (0, 0), (0, 0), (1, 104)]),
  .inl (5, [(0, 0), (0, 0), (0, 0), (0, 0), (0, 0), (1, 97), (1, 98), (1, 99), (1, 100), (0, 0), (0, 0), (0, 0), (0, 0), (0, 0), (1, 101), (1, 102), (1, 103)]),
  .inr (0, 4, fun _ => none),
  .inr (0, 4, fun _ => none),
  .inr (0, 4, fun _ => none),
  .inr (0, 4, fun _ => none),
  .inr (0, 10, fun _ => none),
  .inr (0, 10, fun _ => none),
  .inr (0, 10, fun _ => none),
  .inr (0, 4, fun _ => none)]
set_option maxRecDepth 100000 in
set_option maxHeartbeats 8000000 in
theorem lbX5_e (a : Nat) : L_X6 (a + 95) (a + 1) (a + 15) = rgL a x0 95 lbX5 := by
  rfl
def lbX6 : List rg_K := [.inl (4, [(2, 0), (2, 0), (0, 0), (1, 106), (1, 114), (1, 195)]),
  .inl (5, [(0, 0), (0, 0), (0, 0), (0, 0), (0, 0), (1, 107), (1, 108), (1, 109), (1, 110), (0, 0), (0, 0), (0, 0), (0, 0), (0, 0), (1, 111), (1, 112), (1, 113)]),
  .inr (0, 4, fun _ => none),
  .inr (0, 4, fun _ => none),
  .inr (0, 4, fun _ => none),
  .inr (0, 4, fun _ => none),
  .inr (0, 10, fun _ => none),
  .inr (0, 10, fun _ => none),
  .inr (0, 10, fun _ => none),
  .inr (5, 8, fun i => if i < 8 then some (115 + 10 * i) else none),
  .inl (0, [(1, 116), (1, 117), (1, 118), (1, 119), (1, 120), (0, 0), (1, 121), (1, 122), (1, 123), (1, 124)]),
  .inr (0, 256, fun _ => none),
  .inr (0, 256, fun _ => none),
  .inr (0, 256, fun _ => none),
  .inr (0, 258, fun _ => none),
  .inr (0, 256, fun _ => none),
  .inr (0, 257, fun _ => none),
  .inr (0, 257, fun _ => none),
  .inr (0, 257, fun _ => none),
  .inr (0, 257, fun _ => none),
  .inl (0, [(1, 126), (1, 127), (1, 128), (1, 129), (1, 130), (0, 0), (1, 131), (1, 132), (1, 133), (1, 134)]),
  .inr (0, 256, fun _ => none),
  .inr (0, 256, fun _ => none),
  .inr (0, 256, fun _ => none),
  .inr (0, 258, fun _ => none),
  .inr (0, 256, fun _ => none),
  .inr (0, 257, fun _ => none),
  .inr (0, 257, fun _ => none),
  .inr (0, 257, fun _ => none),
  .inr (0, 257, fun _ => none),
  .inl (0, [(1, 136), (1, 137), (1, 138), (1, 139), (1, 140), (0, 0), (1, 141), (1, 142), (1, 143), (1, 144)]),
  .inr (0, 256, fun _ => none),
  .inr (0, 256, fun _ => none),
  .inr (0, 256, fun _ => none),
  .inr (0, 258, fun _ => none),
  .inr (0, 256, fun _ => none),
  .inr (0, 257, fun _ => none),
  .inr (0, 257, fun _ => none),
  .inr (0, 257, fun _ => none),
  .inr (0, 257, fun _ => none),
  .inl (0, [(1, 146), (1, 147), (1, 148), (1, 149), (1, 150), (0, 0), (1, 151), (1, 152), (1, 153), (1, 154)]),
  .inr (0, 256, fun _ => none),
  .inr (0, 256, fun _ => none),
  .inr (0, 256, fun _ => none),
  .inr (0, 258, fun _ => none),
  .inr (0, 256, fun _ => none),
  .inr (0, 257, fun _ => none),
  .inr (0, 257, fun _ => none),
  .inr (0, 257, fun _ => none),
  .inr (0, 257, fun _ => none),
  .inl (0, [(1, 156), (1, 157), (1, 158), (1, 159), (1, 160), (0, 0), (1, 161), (1, 162), (1, 163), (1, 164)]),
  .inr (0, 256, fun _ => none),
  .inr (0, 256, fun _ => none),
  .inr (0, 256, fun _ => none),
  .inr (0, 258, fun _ => none),
  .inr (0, 256, fun _ => none),
  .inr (0, 257, fun _ => none),
  .inr (0, 257, fun _ => none),
  .inr (0, 257, fun _ => none),
  .inr (0, 257, fun _ => none),
  .inl (0, [(1, 166), (1, 167), (1, 168), (1, 169), (1, 170), (0, 0), (1, 171), (1, 172), (1, 173), (1, 174)]),
  .inr (0, 256, fun _ => none),
  .inr (0, 256, fun _ => none),
  .inr (0, 256, fun _ => none),
  .inr (0, 258, fun _ => none),
  .inr (0, 256, fun _ => none),
  .inr (0, 257, fun _ => none),
  .inr (0, 257, fun _ => none),
  .inr (0, 257, fun _ => none),
  .inr (0, 257, fun _ => none),
  .inl (0, [(1, 176), (1, 177), (1, 178), (1, 179), (1, 180), (0, 0), (1, 181), (1, 182), (1, 183), (1, 184)]),
  .inr (0, 256, fun _ => none),
  .inr (0, 256, fun _ => none),
  .inr (0, 256, fun _ => none),
  .inr (0, 258, fun _ => none),
  .inr (0, 256, fun _ => none),
  .inr (0, 257, fun _ => none),
  .inr (0, 257, fun _ => none),
  .inr (0, 257, fun _ => none),
  .inr (0, 257, fun _ => none),
  .inl (0, [(1, 186), (1, 187), (1, 188), (1, 189), (1, 190), (0, 0), (1, 191), (1, 192), (1, 193), (1, 194)]),
  .inr (0, 256, fun _ => none),
  .inr (0, 256, fun _ => none),
  .inr (0, 256, fun _ => none),
  .inr (0, 258, fun _ => none),
  .inr (0, 256, fun _ => none),
  .inr (0, 257, fun _ => none),
  .inr (0, 257, fun _ => none),
  .inr (0, 257, fun _ => none),
  .inr (0, 257, fun _ => none),
  .inl (7, [(2, 0), (2, 0), (1, 106), (1, 114), (0, 0), (0, 0), (0, 0), (0, 0), (0, 0), (1, 196), (0, 0), (1, 197), (1, 198)]),
  .inr (0, 1024, fun _ => none),
  .inr (0, 64, fun _ => none),
  .inr (0, 4, fun _ => none)]
theorem upX114 (a : Nat) : va_up (va_up (va_up (va_up (va_up (va_up (va_up (va_up (fun _ => none) 0 (some (a + 105 + 10))) 1 (some (a + 105 + 20))) 2 (some (a + 105 + 30))) 3 (some (a + 105 + 40))) 4 (some (a + 105 + 50))) 5 (some (a + 105 + 60))) 6 (some (a + 105 + 70))) 7 (some (a + 105 + 80)) = fun i => ((fun i => if i < 8 then some (115 + 10 * i) else none) i).map fun d => a + d := by
  funext i
  rcases (show i = 0 ∨ i = 1 ∨ i = 2 ∨ i = 3 ∨ i = 4 ∨ i = 5 ∨ i = 6 ∨ i = 7 ∨ 8 ≤ i by omega) with rfl | rfl | rfl | rfl | rfl | rfl | rfl | rfl | h
  · rfl
  · rfl
  · rfl
  · rfl
  · rfl
  · rfl
  · rfl
  · rfl
  · simp only [va_up]
    rw [if_neg (show ¬ i = 7 by omega), if_neg (show ¬ i = 6 by omega), if_neg (show ¬ i = 5 by omega), if_neg (show ¬ i = 4 by omega), if_neg (show ¬ i = 3 by omega), if_neg (show ¬ i = 2 by omega), if_neg (show ¬ i = 1 by omega), if_neg (show ¬ i = 0 by omega), if_neg (show ¬ i < 8 by omega)]
    rfl
set_option maxRecDepth 100000 in
set_option maxHeartbeats 8000000 in
theorem lbX6_e (a : Nat) : L_X4 (a + 105) (a + 5) (a + 7) = rgL a x0 105 lbX6 := by
  unfold L_X4
  rw [upX114 a]
  rfl
set_option maxRecDepth 100000 in
set_option maxHeartbeats 8000000 in
theorem lxL_c : lxL = .inl (11, [(1, 1), (2, 0), (2, 0), (0, 0), (2, 0), (2, 0), (1, 23), (1, 32), (1, 34), (1, 36), (1, 40), (1, 95), (1, 105), (0, 0), (0, 0), (0, 0), (0, 0), (0, 0)]) :: (lbX0 ++ (lbX1 ++ (lbX2 ++ (lbX3 ++ (lbX4 ++ (lbX5 ++ lbX6)))))) := rfl
set_option maxRecDepth 100000 in
set_option maxHeartbeats 8000000 in
theorem L11_eq (a : Nat) : L_X11 a = rgL a x0 0 lxL := by
  rw [lxL_c]
  unfold L_X11 T11_6 T11_5 T11_4 T11_3 T11_2 T11_1
  rw [List.append_assoc, List.append_assoc, List.append_assoc, List.append_assoc, List.append_assoc]
  refine cn2 (show H11 a = cC a x0 0 _ from rfl) ?_
  refine rgL_ap (o := 1) (n := 31) (lbX0_e a) rfl (rgL_ap (o := 32) (n := 2) (lbX1_e a) rfl (rgL_ap (o := 34) (n := 2) (lbX2_e a) rfl (rgL_ap (o := 36) (n := 4) (lbX3_e a) rfl (rgL_ap (o := 40) (n := 55) (lbX4_e a) rfl (rgL_ap (o := 95) (n := 10) (lbX5_e a) rfl (lbX6_e a))))))
def lbM0 : List rg_K := [.inr (1, 16384, fun _ => none)]
set_option maxRecDepth 100000 in
set_option maxHeartbeats 8000000 in
theorem lbM0_e (a : Nat) : [.inl (1, 16384, .inl (fun _ => 0))] = rgL a y0 1 lbM0 := rfl
def lbM1 : List rg_K := [.inr (1, 16384, fun _ => none)]
set_option maxRecDepth 100000 in
set_option maxHeartbeats 8000000 in
theorem lbM1_e (a : Nat) : [.inl (1, 16384, .inl (fun _ => 0))] = rgL a y0 2 lbM1 := rfl
def lbM2 : List rg_K := [.inr (1, 16384, fun _ => none)]
set_option maxRecDepth 100000 in
set_option maxHeartbeats 8000000 in
theorem lbM2_e (a : Nat) : [.inl (1, 16384, .inl (fun _ => 0))] = rgL a y0 3 lbM2 := rfl
def lbM3 : List rg_K := [.inl (14, [(1, 5), (0, 0), (3, 0), (0, 0), (0, 0), (0, 0), (0, 0), (0, 0), (0, 0), (0, 0), (0, 0), (1, 6), (0, 0), (0, 0), (0, 0), (0, 0), (1, 7), (1, 8), (1, 9), (1, 10), (0, 0), (1, 11), (1, 12), (1, 13), (1, 14), (1, 15), (1, 16), (0, 0), (1, 17), (1, 18), (0, 0), (1, 19), (1, 20), (1, 21), (1, 22), (1, 23), (0, 0), (0, 0), (0, 0), (0, 0), (0, 0)]),
  .inr (1, 16384, fun _ => none),
  .inr (0, 16384, fun _ => none),
  .inr (0, 4, fun _ => none),
  .inr (0, 4, fun _ => none),
  .inr (0, 4, fun _ => none),
  .inr (0, 4, fun _ => none),
  .inr (4, 4, fun _ => none),
  .inr (0, 256, fun _ => none),
  .inr (4, 8, fun _ => none),
  .inr (0, 136, fun _ => none),
  .inr (0, 2048, fun _ => none),
  .inr (0, 8, fun _ => none),
  .inr (0, 61440, fun _ => none),
  .inr (0, 256, fun _ => none),
  .inr (0, 4, fun _ => none),
  .inr (0, 4, fun _ => none),
  .inr (0, 4, fun _ => none),
  .inr (0, 4, fun _ => none),
  .inr (4, 256, fun _ => none)]
set_option maxRecDepth 100000 in
set_option maxHeartbeats 8000000 in
theorem lbM3_e (a : Nat) : L_X14 (a + 4) = rgL a y0 4 lbM3 := rfl
def lbM4 : List rg_K := [.inl (13, [(0, 0), (0, 0), (0, 0), (1, 25), (1, 26), (1, 27), (1, 28), (1, 29), (1, 30), (1, 31), (0, 0), (0, 0), (1, 32), (1, 33), (1, 34), (1, 35), (0, 0), (1, 36), (1, 37), (1, 38), (1, 39), (1, 40), (0, 0), (0, 0), (0, 0), (0, 0), (0, 0), (0, 0), (1, 41), (0, 0), (1, 42), (0, 0), (0, 0), (0, 0), (0, 0), (0, 0), (1, 43), (1, 44), (0, 0), (1, 45), (0, 0), (1, 46), (0, 0), (0, 0), (0, 0), (0, 0), (0, 0), (1, 47)]),
  .inr (0, 4, fun _ => none),
  .inr (0, 4, fun _ => none),
  .inr (0, 4, fun _ => none),
  .inr (0, 4, fun _ => none),
  .inr (0, 4, fun _ => none),
  .inr (0, 4, fun _ => none),
  .inr (0, 4, fun _ => none),
  .inr (2, 12288, fun _ => none),
  .inr (2, 12288, fun _ => none),
  .inr (0, 17, fun _ => none),
  .inr (0, 256, fun _ => none),
  .inr (0, 8, fun _ => none),
  .inr (0, 2048, fun _ => none),
  .inr (0, 2048, fun _ => none),
  .inr (0, 4, fun _ => none),
  .inr (0, 4, fun _ => none),
  .inr (1, 16384, fun _ => none),
  .inr (1, 16384, fun _ => none),
  .inr (0, 2048, fun _ => none),
  .inr (0, 4, fun _ => none),
  .inr (1, 1100, fun _ => none),
  .inr (1, 70, fun _ => none),
  .inr (0, 2048, fun _ => none)]
set_option maxRecDepth 100000 in
set_option maxHeartbeats 8000000 in
theorem lbM4_e (a : Nat) : L_X13 (a + 24) = rgL a y0 24 lbM4 := rfl
def lbM5 : List rg_K := [.inl (12, [(1, 49), (1, 50), (0, 0), (1, 51), (0, 0), (1, 52), (1, 53), (1, 54), (1, 55)]),
  .inr (0, 17, fun _ => none),
  .inr (0, 256, fun _ => none),
  .inr (0, 256, fun _ => none),
  .inr (0, 257, fun _ => none),
  .inr (0, 257, fun _ => none),
  .inr (0, 257, fun _ => none),
  .inr (0, 300, fun _ => none)]
set_option maxRecDepth 100000 in
set_option maxHeartbeats 8000000 in
theorem lbM5_e (a : Nat) : L_X12 (a + 48) = rgL a y0 48 lbM5 := rfl
def lbM6 : List rg_K := [.inr (0, 256, fun _ => none)]
set_option maxRecDepth 100000 in
set_option maxHeartbeats 8000000 in
theorem lbM6_e (a : Nat) : [.inl (0, 256, .inl (fun _ => 0))] = rgL a y0 56 lbM6 := rfl
def lbM7 : List rg_K := [.inr (4, 4, fun _ => none)]
set_option maxRecDepth 100000 in
set_option maxHeartbeats 8000000 in
theorem lbM7_e (a : Nat) : [.inl (4, 4, .inl (fun _ => 0))] = rgL a y0 57 lbM7 := rfl
def lbM8 : List rg_K := [.inr (0, 4, fun _ => none)]
set_option maxRecDepth 100000 in
set_option maxHeartbeats 8000000 in
theorem lbM8_e (a : Nat) : [.inl (0, 4, .inl (fun _ => 0))] = rgL a y0 58 lbM8 := rfl
def lbM9 : List rg_K := [.inr (0, 4, fun _ => none)]
set_option maxRecDepth 100000 in
set_option maxHeartbeats 8000000 in
theorem lbM9_e (a : Nat) : [.inl (0, 4, .inl (fun _ => 0))] = rgL a y0 59 lbM9 := rfl
def lbM10 : List rg_K := [.inr (0, 4, fun _ => none)]
set_option maxRecDepth 100000 in
set_option maxHeartbeats 8000000 in
theorem lbM10_e (a : Nat) : [.inl (0, 4, .inl (fun _ => 0))] = rgL a y0 60 lbM10 := rfl
def lbM11 : List rg_K := [.inr (0, 4, fun _ => none)]
set_option maxRecDepth 100000 in
set_option maxHeartbeats 8000000 in
theorem lbM11_e (a : Nat) : [.inl (0, 4, .inl (fun _ => 0))] = rgL a y0 61 lbM11 := rfl
def lbM12 : List rg_K := [.inr (0, 4, fun _ => none)]
set_option maxRecDepth 100000 in
set_option maxHeartbeats 8000000 in
theorem lbM12_e (a : Nat) : [.inl (0, 4, .inl (fun _ => 0))] = rgL a y0 62 lbM12 := rfl
def lbM13 : List rg_K := [.inr (0, 256, fun _ => none)]
set_option maxRecDepth 100000 in
set_option maxHeartbeats 8000000 in
theorem lbM13_e (a : Nat) : [.inl (0, 256, .inl (fun _ => 0))] = rgL a y0 63 lbM13 := rfl
def lbM14 : List rg_K := [.inr (2, 12288, fun _ => none)]
set_option maxRecDepth 100000 in
set_option maxHeartbeats 8000000 in
theorem lbM14_e (a : Nat) : [.inl (2, 12288, .inl (fun _ => 0))] = rgL a y0 64 lbM14 := rfl
def lbM15 : List rg_K := [.inr (2, 12288, fun _ => none)]
set_option maxRecDepth 100000 in
set_option maxHeartbeats 8000000 in
theorem lbM15_e (a : Nat) : [.inl (2, 12288, .inl (fun _ => 0))] = rgL a y0 65 lbM15 := rfl
def lbM16 : List rg_K := [.inr (0, 4, fun _ => none)]
set_option maxRecDepth 100000 in
set_option maxHeartbeats 8000000 in
theorem lbM16_e (a : Nat) : [.inl (0, 4, .inl (fun _ => 0))] = rgL a y0 66 lbM16 := rfl
def lbM17 : List rg_K := [.inr (0, 4, fun _ => none)]
set_option maxRecDepth 100000 in
set_option maxHeartbeats 8000000 in
theorem lbM17_e (a : Nat) : [.inl (0, 4, .inl (fun _ => 0))] = rgL a y0 67 lbM17 := rfl
def lbM18 : List rg_K := [.inr (0, 256, fun _ => none)]
set_option maxRecDepth 100000 in
set_option maxHeartbeats 8000000 in
theorem lbM18_e (a : Nat) : [.inl (0, 256, .inl (fun _ => 0))] = rgL a y0 68 lbM18 := rfl
def lbM19 : List rg_K := [.inr (0, 64, fun _ => none)]
set_option maxRecDepth 100000 in
set_option maxHeartbeats 8000000 in
theorem lbM19_e (a : Nat) : [.inl (0, 64, .inl (fun _ => 0))] = rgL a y0 69 lbM19 := rfl
def lbM20 : List rg_K := [.inr (0, 64, fun _ => none)]
set_option maxRecDepth 100000 in
set_option maxHeartbeats 8000000 in
theorem lbM20_e (a : Nat) : [.inl (0, 64, .inl (fun _ => 0))] = rgL a y0 70 lbM20 := rfl
def lbM21 : List rg_K := [.inr (0, 64, fun _ => none)]
set_option maxRecDepth 100000 in
set_option maxHeartbeats 8000000 in
theorem lbM21_e (a : Nat) : [.inl (0, 64, .inl (fun _ => 0))] = rgL a y0 71 lbM21 := rfl
def lbM22 : List rg_K := [.inr (0, 4096, fun _ => none)]
set_option maxRecDepth 100000 in
set_option maxHeartbeats 8000000 in
theorem lbM22_e (a : Nat) : [.inl (0, 4096, .inl (fun _ => 0))] = rgL a y0 72 lbM22 := rfl
def lbM23 : List rg_K := [.inr (0, 4, fun _ => none)]
set_option maxRecDepth 100000 in
set_option maxHeartbeats 8000000 in
theorem lbM23_e (a : Nat) : [.inl (0, 4, .inl (fun _ => 0))] = rgL a y0 73 lbM23 := rfl
def lbM24 : List rg_K := [.inr (0, 4, fun _ => none)]
set_option maxRecDepth 100000 in
set_option maxHeartbeats 8000000 in
theorem lbM24_e (a : Nat) : [.inl (0, 4, .inl (fun _ => 0))] = rgL a y0 74 lbM24 := rfl
def lbM25 : List rg_K := [.inr (0, 4356, fun _ => none)]
set_option maxRecDepth 100000 in
set_option maxHeartbeats 8000000 in
theorem lbM25_e (a : Nat) : [.inl (0, 4356, .inl (fun _ => 0))] = rgL a y0 75 lbM25 := rfl
def lbM26 : List rg_K := [.inr (0, 4356, fun _ => none)]
set_option maxRecDepth 100000 in
set_option maxHeartbeats 8000000 in
theorem lbM26_e (a : Nat) : [.inl (0, 4356, .inl (fun _ => 0))] = rgL a y0 76 lbM26 := rfl
def lbM27 : List rg_K := [.inr (3, 64, fun _ => none)]
set_option maxRecDepth 100000 in
set_option maxHeartbeats 8000000 in
theorem lbM27_e (a : Nat) : [.inl (3, 64, .inr (.inl (fun _ => 0)))] = rgL a y0 77 lbM27 := rfl
set_option maxRecDepth 100000 in
set_option maxHeartbeats 8000000 in
theorem lmL_c : lmL = .inl (15, [(1, 1), (0, 0), (1, 2), (0, 0), (1, 3), (0, 0), (0, 0), (0, 0), (0, 0), (0, 0), (0, 0), (0, 0), (1, 4), (1, 24), (1, 48), (1, 56), (1, 57), (0, 0), (0, 0), (0, 0), (0, 0), (1, 58), (1, 59), (1, 60), (1, 61), (1, 62), (0, 0), (0, 0), (0, 0), (0, 0), (1, 63), (1, 64), (1, 65), (1, 66), (1, 67), (1, 68), (1, 69), (1, 70), (1, 71), (1, 72), (1, 73), (1, 74), (1, 75), (1, 76), (0, 0), (0, 0), (1, 77)]) :: (lbM0 ++ (lbM1 ++ (lbM2 ++ (lbM3 ++ (lbM4 ++ (lbM5 ++ (lbM6 ++ (lbM7 ++ (lbM8 ++ (lbM9 ++ (lbM10 ++ (lbM11 ++ (lbM12 ++ (lbM13 ++ (lbM14 ++ (lbM15 ++ (lbM16 ++ (lbM17 ++ (lbM18 ++ (lbM19 ++ (lbM20 ++ (lbM21 ++ (lbM22 ++ (lbM23 ++ (lbM24 ++ (lbM25 ++ (lbM26 ++ lbM27))))))))))))))))))))))))))) := rfl
set_option maxRecDepth 100000 in
set_option maxHeartbeats 8000000 in
theorem L15_eq (a : Nat) : L_X15 a = rgL a y0 0 lmL := by
  rw [lmL_c]
  unfold L_X15 T15_28 T15_27 T15_26 T15_25 T15_24 T15_23 T15_22 T15_21 T15_20 T15_19 T15_18 T15_17 T15_16 T15_15 T15_14 T15_13 T15_12 T15_11 T15_10 T15_9 T15_8 T15_7 T15_6 T15_5 T15_4 T15_3 T15_2 T15_1 T15_0
  rw [List.nil_append, List.append_assoc, List.append_assoc, List.append_assoc, List.append_assoc, List.append_assoc, List.append_assoc, List.append_assoc, List.append_assoc, List.append_assoc, List.append_assoc, List.append_assoc, List.append_assoc, List.append_assoc, List.append_assoc, List.append_assoc, List.append_assoc, List.append_assoc, List.append_assoc, List.append_assoc, List.append_assoc, List.append_assoc, List.append_assoc, List.append_assoc, List.append_assoc, List.append_assoc, List.append_assoc]
  refine cn2 (show H15 a = cC a y0 0 _ from rfl) ?_
  exact rgL_ap (o := 1) (n := 1) (lbM0_e a) rfl (rgL_ap (o := 2) (n := 1) (lbM1_e a) rfl (rgL_ap (o := 3) (n := 1) (lbM2_e a) rfl (rgL_ap (o := 4) (n := 20) (lbM3_e a) rfl (rgL_ap (o := 24) (n := 24) (lbM4_e a) rfl (rgL_ap (o := 48) (n := 8) (lbM5_e a) rfl (rgL_ap (o := 56) (n := 1) (lbM6_e a) rfl (rgL_ap (o := 57) (n := 1) (lbM7_e a) rfl (rgL_ap (o := 58) (n := 1) (lbM8_e a) rfl (rgL_ap (o := 59) (n := 1) (lbM9_e a) rfl (rgL_ap (o := 60) (n := 1) (lbM10_e a) rfl (rgL_ap (o := 61) (n := 1) (lbM11_e a) rfl (rgL_ap (o := 62) (n := 1) (lbM12_e a) rfl (rgL_ap (o := 63) (n := 1) (lbM13_e a) rfl (rgL_ap (o := 64) (n := 1) (lbM14_e a) rfl (rgL_ap (o := 65) (n := 1) (lbM15_e a) rfl (rgL_ap (o := 66) (n := 1) (lbM16_e a) rfl (rgL_ap (o := 67) (n := 1) (lbM17_e a) rfl (rgL_ap (o := 68) (n := 1) (lbM18_e a) rfl (rgL_ap (o := 69) (n := 1) (lbM19_e a) rfl (rgL_ap (o := 70) (n := 1) (lbM20_e a) rfl (rgL_ap (o := 71) (n := 1) (lbM21_e a) rfl (rgL_ap (o := 72) (n := 1) (lbM22_e a) rfl (rgL_ap (o := 73) (n := 1) (lbM23_e a) rfl (rgL_ap (o := 74) (n := 1) (lbM24_e a) rfl (rgL_ap (o := 75) (n := 1) (lbM25_e a) rfl (rgL_ap (o := 76) (n := 1) (lbM26_e a) rfl (lbM27_e a)))))))))))))))))))))))))))
