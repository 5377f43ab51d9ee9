/-! the walk over a scan, as what it sends: words, bits, ends of bytes, marks -/
abbrev ev : Type := (Nat × Nat) ⊕ ((Int32 × Nat) ⊕ (Option Nat))
def eW (t s : Nat) : ev := .inl (t, s)
def eV (v : Int32) (n : Nat) : ev := .inr (.inl (v, n))
def eA (c : Option Nat) : ev := .inr (.inr c)
def isW (t s : Nat) (v : ev) : Bool := match v with
  | .inl p => p.1 == t && p.2 == s
  | .inr _ => false
def cnt (E : List ev) (t s : Nat) : Nat := E.countP (isW t s)
theorem cnt_a (E : List ev) (v : ev) (t s : Nat) : cnt (E ++ [v]) t s = cnt E t s + if isW t s v = true then 1 else 0 := by
  unfold cnt
  rw [List.countP_append, List.countP_cons, List.countP_nil, Nat.zero_add]
theorem cnt_w (E : List ev) (t s t' s' : Nat) : cnt (E ++ [eW t s]) t' s' = if t' = t ∧ s' = s then cnt E t' s' + 1 else cnt E t' s' := by
  rw [cnt_a]
  have e : isW t' s' (eW t s) = (t == t' && s == s') := rfl
  rw [e]
  by_cases h : t' = t ∧ s' = s
  · rw [if_pos h, h.1, h.2, if_pos (by rw [beq_self_eq_true, beq_self_eq_true]; rfl)]
  · rw [if_neg h, if_neg (fun q => h (by
      have := (Bool.and_eq_true _ _).mp q
      exact ⟨(beq_iff_eq.mp this.1).symm, (beq_iff_eq.mp this.2).symm⟩))]
    rfl
theorem cnt_n (E : List ev) (v : (Int32 × Nat) ⊕ (Option Nat)) (t s : Nat) : cnt (E ++ [.inr v]) t s = cnt E t s := by
  rw [cnt_a]
  rfl
theorem cnt_0 {E : List ev} {t s : Nat} : 0 < cnt E t s ↔ eW t s ∈ E := by
  unfold cnt
  rw [List.countP_pos_iff]
  refine ⟨fun ⟨v, hv, hp⟩ => ?_, fun h => ⟨_, h, by show (t == t && s == s) = true; rw [beq_self_eq_true, beq_self_eq_true]; rfl⟩⟩
  match v, hv, hp with
  | .inl (a, c), hv, hp =>
    have := (Bool.and_eq_true _ _).mp hp
    have e1 : a = t := beq_iff_eq.mp this.1
    have e2 : c = s := beq_iff_eq.mp this.2
    rw [e1, e2] at hv
    exact hv
  | .inr _, _, hp => exact absurd (show false = true from hp) Bool.false_ne_true
/-- what they do to the bits -/
def al (e : eS) : eS := if e.2.2 = 0 then e else ebs (nI (2 ^ (8 - e.2.2) - 1)) (8 - e.2.2) e
def em1 (cw cl : Nat → Nat → Nat) (v : ev) (e : eS) : eS := match v with
  | .inl p => ebs (nI (cw p.1 p.2)) (cl p.1 p.2) e
  | .inr (.inl p) => ebs p.1 p.2 e
  | .inr (.inr none) => al e
  | .inr (.inr (some c)) => (e.1 ++ [bt 255] ++ [bt (nI c)], e.2)
def emit (md : Nat) (cw cl : Nat → Nat → Nat) (E : List ev) (e : eS) : eS := if md = 1 then e else E.foldl (fun e v => em1 cw cl v e) e
theorem emit_1 {cw cl : Nat → Nat → Nat} {E : List ev} {e : eS} : emit 1 cw cl E e = e := if_pos rfl
theorem emit_0 {cw cl : Nat → Nat → Nat} {E : List ev} {e : eS} {v : ev} : emit 0 cw cl (E ++ [v]) e = em1 cw cl v (emit 0 cw cl E e) := by
  unfold emit
  rw [if_neg (by decide), if_neg (by decide), List.foldl_append]
  rfl
/-- sent, run, its bits, bits to come, predictions -/
abbrev aS : Type := List ev × Nat × List Nat × List Nat × (Nat → Int)
def ap (D : List ev) (a : aS) : aS := (a.1 ++ D, a.2)
def bts (l : List Nat) : List ev := l.map fun c => eV (nI c) 1
def aRun (t : Nat) (a : aS) : List ev := [eW t (16 * (sz a.2.1 - 1)), eV (nI a.2.1) (sz a.2.1 - 1)] ++ bts a.2.2.1
def aSend (t : Nat) (a : aS) : aS := if a.2.1 = 0 then a else (a.1 ++ aRun t a, 0, [], a.2.2.2)
def aCome (a : aS) : aS := (a.1 ++ bts a.2.2.2.1, a.2.1, a.2.2.1, [], a.2.2.2.2)
def aLong (a : aS) : aS := (a.1, a.2.1 + 1, a.2.2.1 ++ a.2.2.2.1, [], a.2.2.2.2)
def aPush (c : Nat) (a : aS) : aS := (a.1, a.2.1, a.2.2.1, a.2.2.2.1 ++ [c], a.2.2.2.2)
def aFull (t : Nat) (a : aS) : aS := if a.2.1 = 32767 ∨ 900 < a.2.2.1.length then aSend t a else a
def aPr (c : Nat) (z : Int) (a : aS) : aS := (a.1, a.2.1, a.2.2.1, a.2.2.2.1, fun j => if j = c then z else a.2.2.2.2 j)
def aDir (bf bits c : Nat) (v : Int) (a : aS) : aS := if 0 < bf then ap [eV (iI (v / 2 ^ bits)) 1] a else ap [eV (nv (v / 2 ^ bits - a.2.2.2.2 c)) (sz (v / 2 ^ bits - a.2.2.2.2 c).natAbs)] (ap [eW c (sz (v / 2 ^ bits - a.2.2.2.2 c).natAbs)] (aPr c (v / 2 ^ bits) a))
def am (bits : Nat) (v : Int) : Nat := v.natAbs / 2 ^ bits
def zc (bits : Nat) (v : Int) : Int := if v ≤ 0 then -(am bits v : Int) else am bits v
def a16 (t : Nat) : Nat → aS → aS
  | 0, a => a
  | n + 1, a => a16 t n (ap [eW t 240] a)
def oSt (t bits : Nat) (v : Int) (p : Nat × aS) : Nat × aS := if am bits v = 0 then (p.1 + 1, p.2) else (0, ap [eV (nv (zc bits v)) (sz (am bits v))] (ap [eW t (16 * (p.1 % 16) + sz (am bits v))] (a16 t (p.1 / 16) (aSend t p.2))))
def oLp (t bits : Nat) (Z : Nat → Int) (fr : Nat) (a : aS) : Nat → Nat × aS
  | 0 => (0, a)
  | n + 1 => oSt t bits (Z (fr + n)) (oLp t bits Z fr a n)
def oEnd (first t : Nat) (p : Nat × aS) : aS := if p.1 = 0 then p.2 else if first = 0 then ap [eW t 0] p.2 else aFull t (aLong p.2)
def aOth (first last bits t : Nat) (Z : Nat → Int) (a : aS) : aS := oEnd first t (oLp t bits Z (max 1 first) a (last + 1 - max 1 first))
/-- one more than the place of the last new one, or 0 -/
def lNw (bits : Nat) (Z : Nat → Int) (fr : Nat) : Nat → Nat
  | 0 => 0
  | n + 1 => if am bits (Z (fr + n)) = 1 then fr + n + 1 else lNw bits Z fr n
def m16 (t : Nat) : Nat → aS → aS
  | 0, a => a
  | n + 1, a => m16 t n (aCome (ap [eW t 240] (aSend t a)))
def mQ (t l k : Nat) (p : Nat × aS) : Nat × aS := if k < l then (p.1 % 16, m16 t (p.1 / 16) p.2) else p
def mSt (t bits l k : Nat) (v : Int) (p : Nat × aS) : Nat × aS := if am bits v = 0 then (p.1 + 1, p.2) else if am bits v = 1 then (0, aCome (ap [eV (if v < 0 then nI 0 else nI 1) 1] (ap [eW t (16 * (mQ t l k p).1 + 1)] (aSend t (mQ t l k p).2)))) else ((mQ t l k p).1, aPush (am bits v % 2) (mQ t l k p).2)
def mLp (t bits l : Nat) (Z : Nat → Int) (fr : Nat) (a : aS) : Nat → Nat × aS
  | 0 => (0, a)
  | n + 1 => mSt t bits l (fr + n) (Z (fr + n)) (mLp t bits l Z fr a n)
def mEnd (t : Nat) (p : Nat × aS) : aS := if p.1 = 0 ∧ p.2.2.2.2.1 = [] then p.2 else aFull t (aLong p.2)
def aMore (first last bits t : Nat) (Z : Nat → Int) (a : aS) : aS := mEnd t (mLp t bits (lNw bits Z first (last + 1 - first)) Z first a (last + 1 - first))
def aBlk (first last bf bits c : Nat) (Z : Nat → Int) (a : aS) : aS := if last = 0 then (if first = 0 then aDir bf bits c (Z 0) a else a) else if bf = 0 then aOth first last bits (4 + c) Z (if first = 0 then aDir bf bits c (Z 0) a else a) else aMore first last bits (4 + c) Z (if first = 0 then aDir bf bits c (Z 0) a else a)
/-! what was sent only grows -/
def gr (a a' : aS) : Prop := ∃ D, a'.1 = a.1 ++ D
theorem gr.rfl {a : aS} : gr a a := ⟨[], (List.append_nil _).symm⟩
theorem gr.trans {a b c : aS} (h : gr a b) (k : gr b c) : gr a c := by
  obtain ⟨D, hD⟩ := h
  obtain ⟨D', hD'⟩ := k
  exact ⟨D ++ D', by rw [hD', hD, List.append_assoc]⟩
theorem gr.m {a b : aS} (h : gr a b) {v : ev} (hv : v ∈ a.1) : v ∈ b.1 := by
  obtain ⟨D, hD⟩ := h
  rw [hD]
  exact List.mem_append_left _ hv
theorem gr_ap (D : List ev) (a : aS) : gr a (ap D a) := ⟨D, Eq.refl _⟩
theorem gr_send (t : Nat) (a : aS) : gr a (aSend t a) := by
  unfold aSend
  split
  · exact gr.rfl
  · exact ⟨_, Eq.refl _⟩
theorem gr_come (a : aS) : gr a (aCome a) := ⟨_, Eq.refl _⟩
theorem gr_long (a : aS) : gr a (aLong a) := ⟨[], (List.append_nil _).symm⟩
theorem gr_push (c : Nat) (a : aS) : gr a (aPush c a) := ⟨[], (List.append_nil _).symm⟩
theorem gr_pr (c : Nat) (z : Int) (a : aS) : gr a (aPr c z a) := ⟨[], (List.append_nil _).symm⟩
theorem gr_full (t : Nat) (a : aS) : gr a (aFull t a) := by
  unfold aFull
  split
  · exact gr_send t a
  · exact gr.rfl
theorem gr_dir (bf bits c : Nat) (v : Int) (a : aS) : gr a (aDir bf bits c v a) := by
  unfold aDir
  split
  · exact gr_ap _ _
  · exact (gr_pr _ _ _).trans ((gr_ap _ _).trans (gr_ap _ _))
theorem gr_16 (t : Nat) : ∀ (n : Nat) (a : aS), gr a (a16 t n a)
  | 0, _ => gr.rfl
  | n + 1, _ => (gr_ap _ _).trans (gr_16 t n _)
theorem gr_oSt (t bits : Nat) (v : Int) (p : Nat × aS) : gr p.2 (oSt t bits v p).2 := by
  unfold oSt
  split
  · exact gr.rfl
  · exact (gr_send t p.2).trans ((gr_16 t _ _).trans ((gr_ap _ _).trans (gr_ap _ _)))
theorem gr_oLp (t bits : Nat) (Z : Nat → Int) (fr : Nat) (a : aS) (i : Nat) : ∀ j, gr (oLp t bits Z fr a i).2 (oLp t bits Z fr a (i + j)).2
  | 0 => gr.rfl
  | j + 1 => (gr_oLp t bits Z fr a i j).trans (gr_oSt _ _ _ _)
theorem gr_oEnd (first t : Nat) (p : Nat × aS) : gr p.2 (oEnd first t p) := by
  unfold oEnd
  split
  · exact gr.rfl
  · split
    · exact gr_ap _ _
    · exact (gr_long _).trans (gr_full _ _)
theorem gr_oth (first last bits t : Nat) (Z : Nat → Int) (a : aS) : gr a (aOth first last bits t Z a) := by
  have h := gr_oLp t bits Z (max 1 first) a 0 (last + 1 - max 1 first)
  rw [Nat.zero_add] at h
  exact h.trans (gr_oEnd _ _ _)
theorem gr_m16 (t : Nat) : ∀ (n : Nat) (a : aS), gr a (m16 t n a)
  | 0, _ => gr.rfl
  | n + 1, _ => (gr_send t _).trans ((gr_ap _ _).trans ((gr_come _).trans (gr_m16 t n _)))
theorem gr_mQ (t l k : Nat) (p : Nat × aS) : gr p.2 (mQ t l k p).2 := by
  unfold mQ
  split
  · exact gr_m16 _ _ _
  · exact gr.rfl
theorem gr_mSt (t bits l k : Nat) (v : Int) (p : Nat × aS) : gr p.2 (mSt t bits l k v p).2 := by
  unfold mSt
  split
  · exact gr.rfl
  · split
    · exact (gr_mQ t l k p).trans ((gr_send t _).trans ((gr_ap _ _).trans ((gr_ap _ _).trans (gr_come _))))
    · exact (gr_mQ t l k p).trans (gr_push _ _)
theorem gr_mLp (t bits l : Nat) (Z : Nat → Int) (fr : Nat) (a : aS) (i : Nat) : ∀ j, gr (mLp t bits l Z fr a i).2 (mLp t bits l Z fr a (i + j)).2
  | 0 => gr.rfl
  | j + 1 => (gr_mLp t bits l Z fr a i j).trans (gr_mSt _ _ _ _ _ _)
theorem gr_mEnd (t : Nat) (p : Nat × aS) : gr p.2 (mEnd t p) := by
  unfold mEnd
  split
  · exact gr.rfl
  · exact (gr_long _).trans (gr_full _ _)
theorem gr_more (first last bits t : Nat) (Z : Nat → Int) (a : aS) : gr a (aMore first last bits t Z a) := by
  have h := gr_mLp t bits (lNw bits Z first (last + 1 - first)) Z first a 0 (last + 1 - first)
  rw [Nat.zero_add] at h
  exact h.trans (gr_mEnd _ _)
theorem gr_blk (first last bf bits c : Nat) (Z : Nat → Int) (a : aS) : gr a (aBlk first last bf bits c Z a) := by
  have h : gr a (if first = 0 then aDir bf bits c (Z 0) a else a) := by
    split
    · exact gr_dir _ _ _ _ _
    · exact gr.rfl
  unfold aBlk
  split
  · exact h
  · split
    · exact h.trans (gr_oth _ _ _ _ _ _)
    · exact h.trans (gr_more _ _ _ _ _ _)
