/-! THE PURE SIDE: worlds, checked reads and writes; every later part but 70..85 rests on this and on 03.df alone -/
abbrev px_C : Type := (Nat × vp_A) ⊕ (Nat × List Value)
abbrev px_W : Type := (Nat → Option px_C) × Nat × Nat
abbrev px_X : Type := Launch × va_G × (Nat → ClassId) × Nat × (Nat → Option (Nat × (Nat → Int32))) × (Nat → Nat)
/-- one cell is written -/
def px_set (w : px_W) (a : Nat) (e : px_C) : px_W := (fun q => if q = a then some e else w.1 q, w.2)
/-- one cell is new -/
def px_new (w : px_W) (e : px_C) (n : Nat) : px_W := (fun q => if q = w.2.1 then some e else w.1 q, w.2.1 + 1, w.2.2 + n)
/-- the JDK's Math -/
def mmax (x y : Int32) : Int32 := if x < y then y else x
def mmin (x y : Int32) : Int32 := if y < x then y else x
def mabs (x : Int32) : Int32 := if 0 ≤ x then x else 0 - x
def mmaxL (x y : Int64) : Int64 := if y < x then x else y
def mminL (x y : Int64) : Int64 := if y < x then y else x
def gV (w : px_W) (a ci k : Nat) : Option Value := match w.1 a with
  | some (.inr (c, fs)) => if c = ci then fs[k]? else none
  | _ => none
def gI (w : px_W) (a ci k : Nat) : Option Int32 := match gV w a ci k with
  | some (.int v) => some v
  | _ => none
def gR (w : px_W) (a ci k : Nat) : Option Nat := match gV w a ci k with
  | some (.ref v) => some v
  | _ => none
/-- a reference that may be null -/
def gQ (w : px_W) (a ci k : Nat) : Option (Option Nat) := match gV w a ci k with
  | some (.ref v) => some (some v)
  | some .null => some none
  | _ => none
def gO (w : px_W) (a ci : Nat) : Option (List Value) := match w.1 a with
  | some (.inr (c, fs)) => if c = ci then some fs else none
  | _ => none
def pV (w : px_W) (a ci k : Nat) (v : Value) : Option px_W := match w.1 a with
  | some (.inr (c, fs)) => if c = ci ∧ k < fs.length then some (px_set w a (.inr (ci, fs.set k v))) else none
  | _ => none
def pZ (w : px_W) (a ci k : Nat) (v : Int32) : Option px_W := if v = 0 ∨ v = 1 then pV w a ci k (.int v) else none
def aN (w : px_W) (t a : Nat) (i : Int32) : Option Int32 := match w.1 a with
  | some (.inl (t', n, .inl f)) => if t' = t ∧ 0 ≤ i ∧ i.toNatClampNeg < n then some (f i.toNatClampNeg) else none
  | _ => none
def aJ (w : px_W) (a : Nat) (i : Int32) : Option Int64 := match w.1 a with
  | some (.inl (t', n, .inr (.inl f))) => if t' = 3 ∧ 0 ≤ i ∧ i.toNatClampNeg < n then some (f i.toNatClampNeg) else none
  | _ => none
def aQ (w : px_W) (t a : Nat) (i : Int32) : Option Nat := match w.1 a with
  | some (.inl (t', n, .inr (.inr (.inr (.inr f))))) => if t' = t ∧ 0 ≤ i ∧ i.toNatClampNeg < n then f i.toNatClampNeg else none
  | _ => none
def aX (X : px_X) (a : Nat) (i : Int32) : Option Int32 := match X.2.2.2.2.1 a with
  | some (n, f) => if 0 ≤ i ∧ i.toNatClampNeg < n then some (f i.toNatClampNeg) else none
  | none => none
def aLX (X : px_X) (a : Nat) : Option Int32 := match X.2.2.2.2.1 a with
  | some (n, _) => some (Int32.ofNat n)
  | none => none
def aL (w : px_W) (t a : Nat) : Option Int32 := match w.1 a with
  | some (.inl (t', x)) => if t' = t then some (Int32.ofNat x.1) else none
  | _ => none
/-- a store into an array of ints (0), bytes (1), shorts (2) or booleans (4): nr is what the kind keeps of an int -/
def sN (nr : Int32 → Int32) (w : px_W) (t a : Nat) (i x : Int32) : Option px_W := match w.1 a with
  | some (.inl (t', n, .inl f)) => if t' = t ∧ 0 ≤ i ∧ i.toNatClampNeg < n then some (px_set w a (.inl (t, n, .inl (upd f i.toNatClampNeg (nr x))))) else none
  | _ => none
def sJ (w : px_W) (a : Nat) (i : Int32) (x : Int64) : Option px_W := match w.1 a with
  | some (.inl (t', n, .inr (.inl f))) => if t' = 3 ∧ 0 ≤ i ∧ i.toNatClampNeg < n then some (px_set w a (.inl (3, n, .inr (.inl (vp_updL f i.toNatClampNeg x))))) else none
  | _ => none
def sQ (w : px_W) (t ci a : Nat) (i : Int32) (v : Nat) : Option px_W := match w.1 a with
  | some (.inl (t', n, .inr (.inr (.inr (.inr f))))) => if t' = t ∧ 0 ≤ i ∧ i.toNatClampNeg < n ∧ (gO w v ci).isSome = true then some (px_set w a (.inl (t, n, .inr (.inr (.inr (.inr (va_up f i.toNatClampNeg (some v)))))))) else none
  | _ => none
def nA (w : px_W) (t : Nat) (n : Int32) (c : (Nat → Int32) ⊕ (Nat → Int64) ⊕ (Nat → UInt32) ⊕ (Nat → UInt64) ⊕ (Nat → Option Nat)) : Option (Nat × px_W) := if 0 ≤ n ∧ n.toNatClampNeg ≤ 60000000 then some (w.2.1, px_new w (.inl (t, n.toNatClampNeg, c)) n.toNatClampNeg) else none
def nO (w : px_W) (ci N : Nat) (fs : List Value) : Option (Nat × px_W) := some (w.2.1, px_new w (.inr (ci, fs)) N)
/-- System.arraycopy of numbers of kind t; ok: which contents the kind holds -/
def cpy (ok : Int32 → Bool) (w : px_W) (t a0 : Nat) (sp : Int32) (a : Nat) (dp n : Int32) : Option px_W := match w.1 a0, w.1 a with
  | some (.inl (t0, n0, .inl f)), some (.inl (t1, n1, .inl g)) => if t0 = t ∧ t1 = t ∧ 0 ≤ sp ∧ 0 ≤ dp ∧ 0 ≤ n ∧ sp.toNatClampNeg + n.toNatClampNeg ≤ n0 ∧ dp.toNatClampNeg + n.toNatClampNeg ≤ n1 ∧ (∀ i, i < n.toNatClampNeg → ok (f (sp.toNatClampNeg + i)) = true) then some (px_set w a (.inl (t, n1, .inl (va_cpy f g sp.toNatClampNeg dp.toNatClampNeg n.toNatClampNeg)))) else none
  | _, _ => none
def dI (x y : Int32) : Option Int32 := if y = 0 then none else some (x / y)
def rI (x y : Int32) : Option Int32 := if y = 0 then none else some (x - x / y * y)
def dJ (x y : Int64) : Option Int64 := if y = 0 then none else some (x / y)
/-- a boolean that is answered -/
def zR (v : Int32) (w : px_W) : Option (Int32 × px_W) := if v = 0 ∨ v = 1 then some (v, w) else none
/-- how often a loop goes round at most -/
def FU : Nat := 4000000
theorem px_bs {α β : Type} {o : Option α} {f : α → Option β} {q : β} (h : o.bind f = some q) : ∃ v, o = some v ∧ f v = some q := by
  cases o with
  | none => cases h
  | some v => exact ⟨v, rfl, h⟩
def sc_K : List Int32 := [8192, 8035, 7568, 6811, 5793, 4551, 3135, 1598, 0]
def sc_SCRIPT_TOGETHER : List Int32 := [0, 0, 63, 0, 0]
def sc_SCRIPT_ONE_BY_ONE : List Int32 := [1, 0, 63, 0, 0]
def sc_SCRIPT_PROGRESSIVE : List Int32 := [0, 0, 0, 0, 1, 1, 1, 5, 0, 2, 1, 6, 63, 0, 2, 1, 1, 63, 2, 1, 0, 0, 0, 1, 0, 1, 1, 63, 1, 0]
def sc_ZIGZAG : List Int32 := [0, 1, 8, 16, 9, 2, 3, 10, 17, 24, 32, 25, 18, 11, 4, 5, 12, 19, 26, 33, 40, 48, 41, 34, 27, 20, 13, 6, 7, 14, 21, 28, 35, 42, 49, 56, 57, 50, 43, 36, 29, 22, 15, 23, 30, 37, 44, 51, 58, 59, 52, 45, 38, 31, 39, 46, 53, 60, 61, 54, 47, 55, 62, 63]
def sc_TRANSPOSED : List Int32 := [0, 2, 1, 5, 4, 3, 9, 8, 7, 6, 14, 13, 12, 11, 10, 20, 19, 18, 17, 16, 15, 27, 26, 25, 24, 23, 22, 21, 35, 34, 33, 32, 31, 30, 29, 28, 42, 41, 40, 39, 38, 37, 36, 48, 47, 46, 45, 44, 43, 53, 52, 51, 50, 49, 57, 56, 55, 54, 60, 59, 58, 62, 61, 63]
def px_sc : List (List Int32) := [sc_K, sc_SCRIPT_TOGETHER, sc_SCRIPT_ONE_BY_ONE, sc_SCRIPT_PROGRESSIVE, sc_ZIGZAG, sc_TRANSPOSED]
/-- the statics point at arrays that hold the constants -/
def px_st (X : px_X) : Prop := ∀ (k : Nat) (l : List Int32), px_sc[k]? = some l → ∃ f : Nat → Int32, X.2.2.2.2.1 (X.2.2.2.2.2 k) = some (l.length, f) ∧ ∀ j, j < l.length → f j = l.getD j 0
