/-! REGIONS: a block of cells whose shape never changes, seen as a state: numbers of fields, changing references (as offsets), contents of arrays, contents of arrays of longs -/
abbrev rg_S : Type := (Nat → Nat → Int32) × (Nat → Nat → Nat) × (Nat → Nat → Int32) × (Nat → Nat → Int64)
/-- a cell's shape: an object (its number, its fields' kinds) or an array (kind, length; of references: which) -/
abbrev rg_K : Type := (Nat × List (Nat × Nat)) ⊕ (Nat × Nat × (Nat → Option Nat))
def rg_v (B : Nat) (s : rg_S) (o k : Nat) (K : Nat × Nat) : Value := match K.1 with
  | 0 => .int (s.1 o k)
  | 1 => .ref (B + K.2)
  | 2 => .ref (B + s.2.1 o k)
  | _ => match s.2.1 o k with
    | 0 => .null
    | n + 1 => .ref (B + n)
def rg_vs (B : Nat) (s : rg_S) (o : Nat) (ks : List (Nat × Nat)) : List Value := ks.mapIdx fun k K => rg_v B s o k K
def rg_c (B : Nat) (s : rg_S) (o : Nat) (c : rg_K) : px_C := match c with
  | .inl (ci, ks) => .inr (ci, rg_vs B s o ks)
  | .inr (t, n, f) => .inl (t, n, if t = 3 then .inr (.inl (s.2.2.2 o)) else if 4 < t then .inr (.inr (.inr (.inr fun i => (f i).map fun d => B + d))) else .inl (s.2.2.1 o))
/-- the world w0 with the region ly at B in the state s -/
def rg_p (ly : Nat → Option rg_K) (B : Nat) (w0 : px_W) (s : rg_S) : px_W := (fun q => if B ≤ q then (match ly (q - B) with
  | some c => some (rg_c B s (q - B) c)
  | none => w0.1 q) else w0.1 q, w0.2)
def rg_wI (s : rg_S) (o k : Nat) (v : Int32) : rg_S := (fun o' k' => if o' = o ∧ k' = k then v else s.1 o' k', s.2)
def rg_wR (s : rg_S) (o k v : Nat) : rg_S := (s.1, fun o' k' => if o' = o ∧ k' = k then v else s.2.1 o' k', s.2.2)
def rg_wA (s : rg_S) (o : Nat) (f : Nat → Int32) : rg_S := (s.1, s.2.1, fun o' => if o' = o then f else s.2.2.1 o', s.2.2.2)
def rg_wJ (s : rg_S) (o : Nat) (f : Nat → Int64) : rg_S := (s.1, s.2.1, s.2.2.1, fun o' => if o' = o then f else s.2.2.2 o')
theorem wI_1 (s : rg_S) (o k : Nat) (v : Int32) (o' k' : Nat) : (rg_wI s o k v).1 o' k' = if o' = o ∧ k' = k then v else s.1 o' k' := rfl
theorem wI_2 (s : rg_S) (o k : Nat) (v : Int32) : (rg_wI s o k v).2 = s.2 := rfl
theorem wR_1 (s : rg_S) (o k v : Nat) : (rg_wR s o k v).1 = s.1 := rfl
theorem wR_2 (s : rg_S) (o k v : Nat) (o' k' : Nat) : (rg_wR s o k v).2.1 o' k' = if o' = o ∧ k' = k then v else s.2.1 o' k' := rfl
theorem wR_3 (s : rg_S) (o k v : Nat) : (rg_wR s o k v).2.2 = s.2.2 := rfl
theorem wA_1 (s : rg_S) (o : Nat) (f : Nat → Int32) : (rg_wA s o f).1 = s.1 := rfl
theorem wA_2 (s : rg_S) (o : Nat) (f : Nat → Int32) : (rg_wA s o f).2.1 = s.2.1 := rfl
theorem wA_3 (s : rg_S) (o : Nat) (f : Nat → Int32) (o' : Nat) : (rg_wA s o f).2.2.1 o' = if o' = o then f else s.2.2.1 o' := rfl
theorem wA_4 (s : rg_S) (o : Nat) (f : Nat → Int32) : (rg_wA s o f).2.2.2 = s.2.2.2 := rfl
theorem wJ_1 (s : rg_S) (o : Nat) (f : Nat → Int64) : (rg_wJ s o f).1 = s.1 := rfl
theorem wJ_2 (s : rg_S) (o : Nat) (f : Nat → Int64) : (rg_wJ s o f).2.1 = s.2.1 := rfl
theorem wJ_3 (s : rg_S) (o : Nat) (f : Nat → Int64) : (rg_wJ s o f).2.2.1 = s.2.2.1 := rfl
theorem wJ_4 (s : rg_S) (o : Nat) (f : Nat → Int64) (o' : Nat) : (rg_wJ s o f).2.2.2 o' = if o' = o then f else s.2.2.2 o' := rfl
theorem wI_s (s : rg_S) (o k : Nat) (v : Int32) : (rg_wI s o k v).1 o k = v := if_pos ⟨rfl, rfl⟩
theorem wI_n (s : rg_S) {o k o' k' : Nat} (v : Int32) (h : o' ≠ o ∨ k' ≠ k) : (rg_wI s o k v).1 o' k' = s.1 o' k' := if_neg (by omega)
theorem wA_s (s : rg_S) (o : Nat) (f : Nat → Int32) : (rg_wA s o f).2.2.1 o = f := if_pos rfl
theorem wA_n (s : rg_S) {o o' : Nat} (f : Nat → Int32) (h : o' ≠ o) : (rg_wA s o f).2.2.1 o' = s.2.2.1 o' := if_neg h
theorem wI_id {s : rg_S} {o k : Nat} {v : Int32} (h : s.1 o k = v) : rg_wI s o k v = s := by
  refine Prod.ext (funext fun o' => funext fun k' => ?_) rfl
  rw [wI_1]
  split
  · rename_i e; rw [e.1, e.2, h]
  · rfl
theorem wI_wI (s : rg_S) (o k : Nat) (v v' : Int32) : rg_wI (rg_wI s o k v) o k v' = rg_wI s o k v' := by
  refine Prod.ext (funext fun o' => funext fun k' => ?_) rfl
  rw [wI_1, wI_1, wI_1]
  split <;> rfl
theorem wA_wA (s : rg_S) (o : Nat) (f g : Nat → Int32) : rg_wA (rg_wA s o f) o g = rg_wA s o g := by
  refine Prod.ext rfl (Prod.ext rfl (Prod.ext (funext fun o' => ?_) rfl))
  show (rg_wA (rg_wA s o f) o g).2.2.1 o' = (rg_wA s o g).2.2.1 o'
  rw [wA_3, wA_3, wA_3]
  split <;> rfl
theorem wA_id {s : rg_S} {o : Nat} {f : Nat → Int32} (h : s.2.2.1 o = f) : rg_wA s o f = s := by
  refine Prod.ext rfl (Prod.ext rfl (Prod.ext (funext fun o' => ?_) rfl))
  show (rg_wA s o f).2.2.1 o' = s.2.2.1 o'
  rw [wA_3]
  split
  · rename_i e; rw [e, h]
  · rfl
theorem wI_wA (s : rg_S) (o k : Nat) (v : Int32) (o' : Nat) (f : Nat → Int32) : rg_wA (rg_wI s o k v) o' f = rg_wI (rg_wA s o' f) o k v := rfl
theorem wI_wI_ne (s : rg_S) {o k o' k' : Nat} (v v' : Int32) (h : o ≠ o' ∨ k ≠ k') : rg_wI (rg_wI s o k v) o' k' v' = rg_wI (rg_wI s o' k' v') o k v := by
  refine Prod.ext (funext fun a => funext fun b => ?_) rfl
  simp only [wI_1]
  by_cases h1 : a = o ∧ b = k
  · by_cases h2 : a = o' ∧ b = k'
    · omega
    · rw [if_neg h2, if_pos h1, if_pos h1]
  · rw [if_neg h1, if_neg h1]
theorem wA_wA_ne (s : rg_S) {o o' : Nat} (f g : Nat → Int32) (h : o ≠ o') : rg_wA (rg_wA s o f) o' g = rg_wA (rg_wA s o' g) o f := by
  refine Prod.ext rfl (Prod.ext rfl (Prod.ext (funext fun a => ?_) rfl))
  show (rg_wA (rg_wA s o f) o' g).2.2.1 a = (rg_wA (rg_wA s o' g) o f).2.2.1 a
  simp only [wA_3]
  by_cases h1 : a = o
  · rw [if_pos h1, if_neg (by omega), if_pos h1]
  · rw [if_neg h1, if_neg h1]
section
variable {ly : Nat → Option rg_K} {B : Nat} {w0 : px_W} {s : rg_S} {o ci k : Nat} {ks : List (Nat × Nat)}
theorem rg_at {c : rg_K} (h : ly o = some c) : (rg_p ly B w0 s).1 (B + o) = some (rg_c B s o c) := by
  simp only [rg_p, Nat.le_add_right, if_true, Nat.add_sub_cancel_left, h]
theorem rg_ob (h : ly o = some (.inl (ci, ks))) : (rg_p ly B w0 s).1 (B + o) = some (.inr (ci, rg_vs B s o ks)) := rg_at h
theorem rg_get {K : Nat × Nat} (hk : ks[k]? = some K) : (rg_vs B s o ks)[k]? = some (rg_v B s o k K) := by
  simp only [rg_vs, List.getElem?_mapIdx, hk, Option.map_some]
theorem rg_len : (rg_vs B s o ks).length = ks.length := by simp only [rg_vs, List.length_mapIdx]
theorem rg_lt {K : Nat × Nat} (hk : ks[k]? = some K) : k < (rg_vs B s o ks).length := by
  rw [rg_len]
  exact (List.getElem?_eq_some_iff.mp hk).1
/-- reads -/
theorem rg_I {z : Nat} (h : ly o = some (.inl (ci, ks))) (hk : ks[k]? = some (0, z)) : gI (rg_p ly B w0 s) (B + o) ci k = some (s.1 o k) := gI_c (rg_ob h) k (rg_get hk)
theorem rg_C {d : Nat} (h : ly o = some (.inl (ci, ks))) (hk : ks[k]? = some (1, d)) : gR (rg_p ly B w0 s) (B + o) ci k = some (B + d) := gR_c (rg_ob h) k (rg_get hk)
theorem rg_R {z : Nat} (h : ly o = some (.inl (ci, ks))) (hk : ks[k]? = some (2, z)) : gR (rg_p ly B w0 s) (B + o) ci k = some (B + s.2.1 o k) := gR_c (rg_ob h) k (rg_get hk)
theorem rg_O (h : ly o = some (.inl (ci, ks))) : gO (rg_p ly B w0 s) (B + o) ci = some (rg_vs B s o ks) := gO_c (rg_ob h)
theorem rg_Q0 {z : Nat} (h : ly o = some (.inl (ci, ks))) (hk : ks[k]? = some (3, z)) (hs : s.2.1 o k = 0) : gQ (rg_p ly B w0 s) (B + o) ci k = some none := by
  have e := rg_get (B := B) (s := s) (o := o) hk
  simp only [rg_v, hs] at e
  simp only [gQ, gV, rg_ob h, if_true, e]
theorem rg_Q1 {z n : Nat} (h : ly o = some (.inl (ci, ks))) (hk : ks[k]? = some (3, z)) (hs : s.2.1 o k = n + 1) : gQ (rg_p ly B w0 s) (B + o) ci k = some (some (B + n)) := by
  have e := rg_get (B := B) (s := s) (o := o) hk
  simp only [rg_v, hs] at e
  simp only [gQ, gV, rg_ob h, if_true, e]
theorem rg_ar {t n : Nat} {f : Nat → Option Nat} (h : ly o = some (.inr (t, n, f))) (ht : t < 3 ∨ t = 4) : (rg_p ly B w0 s).1 (B + o) = some (.inl (t, n, .inl (s.2.2.1 o))) := by
  rw [rg_at h]
  simp only [rg_c]
  rw [if_neg (by omega), if_neg (by omega)]
theorem rg_aj {n : Nat} {f : Nat → Option Nat} (h : ly o = some (.inr (3, n, f))) : (rg_p ly B w0 s).1 (B + o) = some (.inl (3, n, .inr (.inl (s.2.2.2 o)))) := by
  rw [rg_at h]
  simp only [rg_c, if_true]
theorem rg_aq {t n : Nat} {f : Nat → Option Nat} (h : ly o = some (.inr (t, n, f))) (ht : 4 < t) : (rg_p ly B w0 s).1 (B + o) = some (.inl (t, n, .inr (.inr (.inr (.inr fun i => (f i).map fun d => B + d))))) := by
  rw [rg_at h]
  simp only [rg_c]
  rw [if_neg (by omega), if_pos ht]
theorem rg_A {t n : Nat} {f : Nat → Option Nat} (h : ly o = some (.inr (t, n, f))) (ht : t < 3 ∨ t = 4) (j : Nat) (hj : j < n) (hn : n < 2 ^ 31) : aN (rg_p ly B w0 s) t (B + o) (nI j) = some (s.2.2.1 o j) := aN_c (rg_ar h ht) j hj hn
theorem rg_J {n : Nat} {f : Nat → Option Nat} (h : ly o = some (.inr (3, n, f))) (j : Nat) (hj : j < n) (hn : n < 2 ^ 31) : aJ (rg_p ly B w0 s) (B + o) (nI j) = some (s.2.2.2 o j) := aJ_c (rg_aj h) j hj hn
theorem rg_Q {t n d : Nat} {f : Nat → Option Nat} (h : ly o = some (.inr (t, n, f))) (ht : 4 < t) (j : Nat) (hj : j < n) (hn : n < 2 ^ 31) (hd : f j = some d) : aQ (rg_p ly B w0 s) t (B + o) (nI j) = some (B + d) := by
  rw [aQ_c (rg_aq h ht) j hj hn, hd]
  rfl
theorem rg_L {t n : Nat} {f : Nat → Option Nat} (h : ly o = some (.inr (t, n, f))) : aL (rg_p ly B w0 s) t (B + o) = some (nI n) := aL_c (rg_at h)
/-- writes -/
theorem rg_put {c : rg_K} {s' : rg_S} {e : px_C} (h : ly o = some c) (he : rg_c B s' o c = e) (hn : ∀ o' c', o' ≠ o → rg_c B s' o' c' = rg_c B s o' c') : px_set (rg_p ly B w0 s) (B + o) e = rg_p ly B w0 s' := by
  refine Prod.ext (funext fun q => ?_) rfl
  show (if q = B + o then some e else (rg_p ly B w0 s).1 q) = _
  by_cases hq : q = B + o
  · subst hq
    rw [if_pos rfl, rg_at h, he]
  · rw [if_neg hq]
    by_cases hB : B ≤ q
    · obtain ⟨o', rfl⟩ := Nat.exists_eq_add_of_le hB
      simp only [rg_p, Nat.le_add_right, if_true, Nat.add_sub_cancel_left]
      cases hl : ly o' with
      | none => rfl
      | some c' => simp only [hn o' c' (fun e => hq (by rw [e]))]
    · simp only [rg_p, hB, if_false]
theorem rg_setI {z : Nat} (hk : ks[k]? = some (0, z)) (v : Int32) : rg_vs B (rg_wI s o k v) o ks = (rg_vs B s o ks).set k (.int v) := by
  apply List.ext_getElem?
  intro j
  rw [List.getElem?_set, rg_len]
  by_cases hj : k = j
  · subst hj
    rw [if_pos rfl, if_pos (List.getElem?_eq_some_iff.mp hk).1, rg_get hk]
    simp only [rg_v, rg_wI, and_self, if_true]
  · rw [if_neg hj]
    simp only [rg_vs, List.getElem?_mapIdx]
    congr 1
    funext K
    simp only [rg_v, rg_wI, true_and, show ¬ j = k from fun e => hj e.symm, if_false]
theorem rg_pI {z : Nat} (h : ly o = some (.inl (ci, ks))) (hk : ks[k]? = some (0, z)) (v : Int32) : pV (rg_p ly B w0 s) (B + o) ci k (.int v) = some (rg_p ly B w0 (rg_wI s o k v)) := by
  rw [pV_c (rg_ob h) k _ (rg_lt hk), rg_put h (s' := rg_wI s o k v) (congrArg (fun l => Sum.inr (ci, l)) (rg_setI hk v))]
  intro o' c' ho
  rcases c' with ⟨ci', ks'⟩ | ⟨t, n, f⟩
  · simp only [rg_c, rg_vs, rg_v, rg_wI, ho, false_and, if_false]
  · rfl
theorem rg_pZ {z : Nat} (h : ly o = some (.inl (ci, ks))) (hk : ks[k]? = some (0, z)) (v : Int32) (hv : v = 0 ∨ v = 1) : pZ (rg_p ly B w0 s) (B + o) ci k v = some (rg_p ly B w0 (rg_wI s o k v)) := by
  unfold pZ
  rw [if_pos hv, rg_pI h hk]
theorem rg_setR {K : Nat × Nat} {v : Value} {d : Nat} (hk : ks[k]? = some K) (hv : rg_v B (rg_wR s o k d) o k K = v) : rg_vs B (rg_wR s o k d) o ks = (rg_vs B s o ks).set k v := by
  apply List.ext_getElem?
  intro j
  rw [List.getElem?_set, rg_len]
  by_cases hj : k = j
  · subst hj
    rw [if_pos rfl, if_pos (List.getElem?_eq_some_iff.mp hk).1, rg_get hk, hv]
  · rw [if_neg hj]
    simp only [rg_vs, List.getElem?_mapIdx]
    congr 1
    funext K
    simp only [rg_v, rg_wR, true_and, show ¬ j = k from fun e => hj e.symm, if_false]
theorem rg_putR {K : Nat × Nat} {v : Value} {d : Nat} (h : ly o = some (.inl (ci, ks))) (hk : ks[k]? = some K) (hv : rg_v B (rg_wR s o k d) o k K = v) : pV (rg_p ly B w0 s) (B + o) ci k v = some (rg_p ly B w0 (rg_wR s o k d)) := by
  rw [pV_c (rg_ob h) k _ (rg_lt hk), rg_put h (s' := rg_wR s o k d) (congrArg (fun l => Sum.inr (ci, l)) (rg_setR hk hv))]
  intro o' c' ho
  rcases c' with ⟨ci', ks'⟩ | ⟨t, n, f⟩
  · simp only [rg_c, rg_vs, rg_v, rg_wR, ho, false_and, if_false]
  · rfl
theorem rg_pR {z : Nat} (h : ly o = some (.inl (ci, ks))) (hk : ks[k]? = some (2, z)) (d : Nat) : pV (rg_p ly B w0 s) (B + o) ci k (.ref (B + d)) = some (rg_p ly B w0 (rg_wR s o k d)) := rg_putR h hk (by simp only [rg_v, wR_2, and_self, if_true])
theorem rg_pN {z : Nat} (h : ly o = some (.inl (ci, ks))) (hk : ks[k]? = some (3, z)) : pV (rg_p ly B w0 s) (B + o) ci k .null = some (rg_p ly B w0 (rg_wR s o k 0)) := rg_putR h hk (by simp only [rg_v, wR_2, and_self, if_true])
theorem rg_pN1 {z : Nat} (h : ly o = some (.inl (ci, ks))) (hk : ks[k]? = some (3, z)) (d : Nat) : pV (rg_p ly B w0 s) (B + o) ci k (.ref (B + d)) = some (rg_p ly B w0 (rg_wR s o k (d + 1))) := rg_putR h hk (by simp only [rg_v, wR_2, and_self, if_true])
theorem rg_putA {t n : Nat} {f : Nat → Option Nat} (h : ly o = some (.inr (t, n, f))) (ht : t < 3 ∨ t = 4) (g : Nat → Int32) : px_set (rg_p ly B w0 s) (B + o) (.inl (t, n, .inl g)) = rg_p ly B w0 (rg_wA s o g) := by
  refine rg_put h ?_ ?_
  · simp only [rg_c, wA_3, if_true]
    rw [if_neg (by omega), if_neg (by omega)]
  · intro o' c' ho
    rcases c' with ⟨ci', ks'⟩ | ⟨t', n', f'⟩
    · rfl
    · simp only [rg_c, wA_3, wA_4, ho, if_false]
theorem rg_putJ {n : Nat} {f : Nat → Option Nat} (h : ly o = some (.inr (3, n, f))) (g : Nat → Int64) : px_set (rg_p ly B w0 s) (B + o) (.inl (3, n, .inr (.inl g))) = rg_p ly B w0 (rg_wJ s o g) := by
  refine rg_put h ?_ ?_
  · simp only [rg_c, wJ_4, if_true]
  · intro o' c' ho
    rcases c' with ⟨ci', ks'⟩ | ⟨t', n', f'⟩
    · rfl
    · simp only [rg_c, wJ_3, wJ_4, ho, if_false]
theorem rg_sA {t n : Nat} {f : Nat → Option Nat} (nr : Int32 → Int32) (h : ly o = some (.inr (t, n, f))) (ht : t < 3 ∨ t = 4) (j : Nat) (x : Int32) (hj : j < n) (hn : n < 2 ^ 31) : sN nr (rg_p ly B w0 s) t (B + o) (nI j) x = some (rg_p ly B w0 (rg_wA s o (upd (s.2.2.1 o) j (nr x)))) := by
  rw [sN_c nr (rg_ar h ht) j x hj hn, rg_putA h ht]
theorem rg_sJ {n : Nat} {f : Nat → Option Nat} (h : ly o = some (.inr (3, n, f))) (j : Nat) (x : Int64) (hj : j < n) (hn : n < 2 ^ 31) : sJ (rg_p ly B w0 s) (B + o) (nI j) x = some (rg_p ly B w0 (rg_wJ s o (vp_updL (s.2.2.2 o) j x))) := by
  rw [sJ_c (rg_aj h) j x hj hn, rg_putJ h]
theorem rg_fill {X : px_X} {n : Nat} {f : Nat → Option Nat} (h : ly o = some (.inr (0, n, f))) (hn : n < 1000000) (v : Int32) : fJ7_fill_53178 X (rg_p ly B w0 s) (B + o) v = some (rg_p ly B w0 (rg_wA s o fun i => if i < n then v else s.2.2.1 o i)) := by
  rw [fill_spec hn (rg_ar h (by omega)), rg_putA h (by omega)]
theorem rg_cpy {t n n1 o1 sp dp m : Nat} {f f1 : Nat → Option Nat} {ok : Int32 → Bool} (h : ly o = some (.inr (t, n, f))) (h1 : ly o1 = some (.inr (t, n1, f1))) (ht : t < 3 ∨ t = 4) (hs : sp + m ≤ n) (hd : dp + m ≤ n1) (hn : n < 2 ^ 31) (hn1 : n1 < 2 ^ 31) (hk : ∀ i, i < m → ok (s.2.2.1 o (sp + i)) = true) :
    cpy ok (rg_p ly B w0 s) t (B + o) (nI sp) (B + o1) (nI dp) (nI m) = some (rg_p ly B w0 (rg_wA s o1 (va_cpy (s.2.2.1 o) (s.2.2.1 o1) sp dp m))) := by
  simp only [cpy, rg_ar h ht, rg_ar h1 ht, nI_clamp (show sp < 2 ^ 31 by omega), nI_clamp (show dp < 2 ^ 31 by omega), nI_clamp (show m < 2 ^ 31 by omega), nI_0le (show sp < 2 ^ 31 by omega), nI_0le (show dp < 2 ^ 31 by omega), nI_0le (show m < 2 ^ 31 by omega), true_and, hs, hd]
  rw [if_pos hk, rg_putA h1 ht]
/-- two regions that don't meet -/
theorem rg_comm {lz : Nat → Option rg_K} {b : Nat} {z : rg_S} (h : ∀ q, B ≤ q → b ≤ q → ly (q - B) ≠ none → lz (q - b) = none) : rg_p ly B (rg_p lz b w0 z) s = rg_p lz b (rg_p ly B w0 s) z := by
  refine Prod.ext (funext fun q => ?_) rfl
  by_cases hB : B ≤ q <;> by_cases hb : b ≤ q
  · cases hl : ly (q - B) with
    | none => simp only [rg_p, hB, hb, if_true, hl]
    | some c => simp only [rg_p, hB, hb, if_true, hl, h q hB hb (by rw [hl]; exact fun e => by cases e)]
  · simp only [rg_p, hB, hb, if_true, if_false]
  · simp only [rg_p, hB, hb, if_true, if_false]
  · simp only [rg_p, hB, hb, if_false]
end
/-! RUNS: an answer that is there and is so -/
def oK {α : Type} (o : Option α) (P : α → Prop) : Prop := ∃ r, o = some r ∧ P r
section
variable {α β : Type} {o : Option α} {f : α → Option β} {P : β → Prop}
theorem oK.b {v : α} (h : o = some v) (k : oK (f v) P) : oK (o.bind f) P := by
  subst h
  exact k
theorem oK.c {Q : α → Prop} (h : oK o Q) (k : ∀ v, Q v → oK (f v) P) : oK (o.bind f) P := by
  obtain ⟨v, rfl, hv⟩ := h
  exact k v hv
theorem oK.t {c : Prop} {d : Decidable c} {a b : Option β} (hc : c) (k : oK a P) : oK (if c then a else b) P := by
  rw [if_pos hc]
  exact k
theorem oK.e {c : Prop} {d : Decidable c} {a b : Option β} (hc : ¬ c) (k : oK b P) : oK (if c then a else b) P := by
  rw [if_neg hc]
  exact k
theorem oK.i {c : Prop} {d : Decidable c} {a b : Option β} (k : c → oK a P) (k' : ¬ c → oK b P) : oK (if c then a else b) P := by
  by_cases hc : c
  · exact oK.t hc (k hc)
  · exact oK.e hc (k' hc)
theorem oK.s {v : β} (h : P v) : oK (some v) P := ⟨v, rfl, h⟩
theorem oK.mono {Q : β → Prop} {o : Option β} (h : oK o Q) (k : ∀ v, Q v → P v) : oK o P := by
  obtain ⟨v, e, hv⟩ := h
  exact ⟨v, e, k v hv⟩
theorem oK.eq {o : Option β} {v : β} (h : oK o (fun r => r = v)) : o = some v := by
  obtain ⟨r, e, rfl⟩ := h
  exact e
theorem ob_v {v : α} {r : Option β} (h : o = some v) (k : f v = r) : o.bind f = r := by
  subst h
  exact k
end
theorem ei_t {β : Type} {c : Prop} {d : Decidable c} {a b r : Option β} (hc : c) (k : a = r) : (if c then a else b) = r := by
  rw [if_pos hc]
  exact k
theorem ei_n {β : Type} {c : Prop} {d : Decidable c} {a b r : Option β} (hc : ¬ c) (k : b = r) : (if c then a else b) = r := by
  rw [if_neg hc]
  exact k
theorem n10 : ¬ (1 : Int32) = 0 := by decide
/-! LOOPS -/
theorem rg_lp {σ α : Type} {F : Nat → σ → Option α} {n : Nat} (V : Nat → σ) {r : Option α} (step : ∀ m j, j < n → F (m + 1) (V j) = F m (V (j + 1))) (done : ∀ m, F (m + 1) (V n) = r) : ∀ k m j, j + k = n → k < m → F m (V j) = r := by
  intro k
  induction k with
  | zero =>
    intro m j hj hm
    obtain ⟨m, rfl⟩ : ∃ m', m = m' + 1 := ⟨m - 1, by omega⟩
    obtain rfl : j = n := by omega
    exact done m
  | succ k ih =>
    intro m j hj hm
    obtain ⟨m, rfl⟩ : ∃ m', m = m' + 1 := ⟨m - 1, by omega⟩
    rw [step m j (by omega)]
    exact ih m (j + 1) (by omega) (by omega)
/-- a loop with an invariant, which may end early -/
theorem rg_lpI {σ α : Type} {F : Nat → σ → Option α} {n : Nat} (I : Nat → σ → Prop) {P : α → Prop} (step : ∀ m j x, j < n → I j x → oK (F (m + 1) x) P ∨ ∃ y, F (m + 1) x = F m y ∧ I (j + 1) y) (done : ∀ m x, I n x → oK (F (m + 1) x) P) : ∀ k m j x, j + k = n → k < m → I j x → oK (F m x) P := by
  intro k
  induction k with
  | zero =>
    intro m j x hj hm hx
    obtain ⟨m, rfl⟩ : ∃ m', m = m' + 1 := ⟨m - 1, by omega⟩
    obtain rfl : j = n := by omega
    exact done m x hx
  | succ k ih =>
    intro m j x hj hm hx
    obtain ⟨m, rfl⟩ : ∃ m', m = m' + 1 := ⟨m - 1, by omega⟩
    rcases step m j x (by omega) hx with h | ⟨y, e, hy⟩
    · exact h
    · rw [e]
      exact ih m (j + 1) y (by omega) (by omega) hy
/-- from the first turn, with the fuel that there is -/
theorem rg_lpF {σ α : Type} {F : Nat → σ → Option α} (n : Nat) (V : Nat → σ) {r : Option α} (hn : n < 4000000) (step : ∀ m j, j < n → F (m + 1) (V j) = F m (V (j + 1))) (done : ∀ m, F (m + 1) (V n) = r) : F FU (V 0) = r := rg_lp V step done n FU 0 (by omega) (by unfold FU; exact hn)
