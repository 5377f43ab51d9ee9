/-! the segments of a file, pure -/
def uG {α : Type} (f : Nat → α) (i : Nat) (v : α) : Nat → α := fun j => if j = i then v else f j
theorem uG_s {α : Type} (f : Nat → α) (i : Nat) (v : α) : uG f i v i = v := if_pos rfl
theorem uG_n {α : Type} (f : Nat → α) {i j : Nat} (v : α) (h : j ≠ i) : uG f i v j = f j := if_neg h
abbrev sgF : Type := Nat × Nat
abbrev sgC : Type := (Nat → Nat) × Nat × Nat × Nat
abbrev sgW : Type := Nat → Option ((Nat → Nat) × List Nat)
abbrev sg4 : Type := Nat → Nat × Nat × Nat × Nat
abbrev sgS : Type := (Nat → Nat) × (Nat → Nat) × sgW × (Nat → Nat) × sg4 × sg4 × (Nat → Nat)
def sgB {α β : Type} (o : sgF ⊕ α) (k : α → sgF ⊕ β) : sgF ⊕ β := match o with
  | .inl f => .inl f
  | .inr a => k a
def sgN (c : sgC) (p : Nat) : sgF ⊕ (Nat × Nat) := if c.2.2.1 ≤ p then .inl (5, c.2.2.2) else if c.2.1 ≤ p then .inl (1, c.2.1) else .inr (c.1 p, p + 1)
def sgI (c : sgC) (lo hi p : Nat) : sgF ⊕ (Nat × Nat) := sgB (sgN c p) fun q => if q.1 < lo ∨ hi < q.1 then .inl (6, p) else .inr q
def sgT (c : sgC) (p : Nat) : sgF ⊕ (Nat × Nat) := sgB (sgN c p) fun a => sgB (sgN c a.2) fun d => .inr (256 * a.1 + d.1, d.2)
def sgU (c : sgC) (lo hi p : Nat) : sgF ⊕ (Nat × Nat) := sgB (sgT c p) fun q => if q.1 < lo ∨ hi < q.1 then .inl (6, p + 1) else .inr q
def sgE {α : Type} (c : sgC) (p : Nat) (a : α) : sgF ⊕ α := if p = c.2.2.1 then .inr a else .inl (5, c.2.2.2)
def sgQk (c : sgC) (t : Nat) : Nat → Nat → Nat → (Nat → Nat) → sgF ⊕ (Nat × (Nat → Nat))
  | 0, _, p, q => .inr (p, q)
  | r + 1, k, p, q => sgB (sgI c 1 255 p) fun v => sgQk c t r (k + 1) v.2 (uG q (64 * t + k) v.1)
def sgQs (c : sgC) : Nat → Nat → (Nat → Nat) → sgF ⊕ (Nat × (Nat → Nat))
  | 0, p, q => .inr (p, q)
  | r + 1, p, q => sgB (sgI c 0 3 p) fun t => sgB (sgQk c t.1 64 0 t.2 q) fun a => if a.1 < c.2.2.1 then sgQs c r a.1 a.2 else .inr a
def sgCk (c : sgC) : Nat → Nat → Nat → Nat → Nat → (Nat → Nat) → sgF ⊕ (Nat × Nat × (Nat → Nat))
  | 0, _, p, s, _, f => if s = 0 then .inl (6, p - 1) else .inr (p, s, f)
  | r + 1, l, p, s, w, f => sgB (sgN c p) fun v => if 256 < s + v.1 ∨ 2 ^ l ≤ 2 * w + v.1 then .inl (6, p) else sgCk c r (l + 1) v.2 (s + v.1) (2 * w + v.1) (uG f l v.1)
def sgSk (c : sgC) (most : Nat) : Nat → Nat → List Nat → sgF ⊕ (Nat × List Nat)
  | 0, p, S => .inr (p, S)
  | r + 1, p, S => sgB (sgI c 0 most p) fun v => if v.1 ∈ S then .inl (6, p) else sgSk c most r v.2 (S ++ [v.1])
def sgWs (c : sgC) : Nat → Nat → sgW → sgF ⊕ (Nat × sgW)
  | 0, p, T => .inr (p, T)
  | r + 1, p, T => sgB (sgI c 0 19 p) fun b => if 3 < b.1 ∧ b.1 < 16 then .inl (6, p) else
    sgB (sgCk c 16 1 b.2 0 0 (fun _ => 0)) fun a => sgB (sgSk c (if b.1 < 4 then 11 else 255) a.2.1 a.1 []) fun e =>
      if e.1 < c.2.2.1 then sgWs c r e.1 (fun t => if t = (if b.1 < 4 then b.1 else b.1 - 12) then some (a.2.2, e.2) else T t) else .inr (e.1, fun t => if t = (if b.1 < 4 then b.1 else b.1 - 12) then some (a.2.2, e.2) else T t)
def sgX (cs : sg4) (v : Nat) : Nat → Nat
  | 0 => 0
  | i + 1 => if (cs i).1 = v then i + 1 else sgX cs v i
def sgCm (c : sgC) : Nat → Nat → Nat → sg4 → sgF ⊕ (Nat × sg4)
  | 0, _, p, cs => .inr (p, cs)
  | r + 1, i, p, cs => sgB (sgN c p) fun a => if sgX cs a.1 i ≠ 0 then .inl (6, p) else sgB (sgN c a.2) fun b => if b.1 ≠ 17 ∧ b.1 ≠ 18 ∧ b.1 ≠ 33 ∧ b.1 ≠ 34 then .inl (6, a.2) else sgB (sgI c 0 3 b.2) fun d => sgCm c r (i + 1) d.2 (uG cs i (a.1, b.1 / 16, b.1 % 16, d.1))
def sgFr (c : sgC) (p : Nat) : sgF ⊕ (Nat × Nat × Nat × Nat × sg4) := sgB (sgI c 8 8 p) fun a => sgB (sgU c 0 64 a.2) fun h => sgB (sgU c 1 64 h.2) fun w => sgB (sgI c 1 4 w.2) fun n => sgB (sgCm c n.1 0 n.2 (fun _ => (0, 0, 0, 0))) fun m => sgE c m.1 (h.1, w.1, n.1, m)
def sgMb (c : sgC) (cs : sg4) (n : Nat) : Nat → Nat → Nat → Nat → Nat → sg4 → sgF ⊕ (Nat × sg4)
  | 0, _, _, _, p, mb => .inr (p, mb)
  | r + 1, i, pv, sm, p, mb => sgB (sgN c p) fun a => if sgX cs a.1 n ≤ pv then .inl (7, p) else if 10 < sm + (cs (sgX cs a.1 n - 1)).2.1 * (cs (sgX cs a.1 n - 1)).2.2.1 then .inl (6, p) else sgB (sgI c 0 51 a.2) fun t => if 3 < t.1 % 16 then .inl (6, a.2) else sgMb c cs n r (i + 1) (sgX cs a.1 n) (sm + (cs (sgX cs a.1 n - 1)).2.1 * (cs (sgX cs a.1 n - 1)).2.2.1) t.2 (uG mb i (sgX cs a.1 n - 1, t.1 / 16, t.1 % 16, p))
def sgBn (c : sgC) (kd sm p : Nat) : sgF ⊕ (Nat × Nat × Nat × Nat × Nat) := sgB (sgI c 0 (if kd = 194 ∧ sm = 1 then 63 else 0) p) fun f => sgB (sgI c (if kd = 194 then f.1 else 63) (if kd = 194 ∧ f.1 = 0 then 0 else 63) f.2) fun l => sgB (sgI c 0 (if kd = 194 then 255 else 0) l.2) fun b => if 13 < b.1 % 16 ∨ b.1 / 16 ≠ 0 ∧ b.1 / 16 ≠ b.1 % 16 + 1 then .inl (6, l.2) else .inr (f.1, l.1, b.1 / 16, b.1 % 16, b.2)
def sgFt (kd fi la bf : Nat) (lt : Nat → Nat) (mb : sg4) (pl : Nat) : Nat → Nat → sgF ⊕ Unit
  | 0, _ => .inr ()
  | r + 1, i => if (if kd = 192 then lt (64 * (mb i).1) ≠ 0 else 0 < fi ∧ lt (64 * (mb i).1) = 0) then .inl (7, (mb i).2.2.2) else if ∀ k, k < 64 → fi ≤ k → k ≤ la → lt (64 * (mb i).1 + k) = (if bf = 0 then 0 else bf + 1) then sgFt kd fi la bf lt mb pl r (i + 1) else .inl (6, pl)
def sgTb (fi la bf : Nat) (q : Nat → Nat) (T : sgW) (cs mb : sg4) : Nat → Nat → sgF ⊕ Unit
  | 0, _ => .inr ()
  | r + 1, i => if q (64 * (cs (mb i).1).2.2.2) = 0 then .inl (8, (mb i).2.2.2) else if ((fi = 0 ∧ bf = 0) ∧ (T (mb i).2.1).isNone) ∨ (0 < la ∧ (T (4 + (mb i).2.2.1)).isNone) then .inl (8, (mb i).2.2.2 + 1) else sgTb fi la bf q T cs mb r (i + 1)
def sgDt (D : Nat → Nat) (L iv : Nat) : Nat → Nat → Nat → sgF ⊕ Nat
  | 0, _, _ => .inl (1, L)
  | r + 1, p, t => if L ≤ p + 1 then .inl (1, L) else if D p ≠ 255 then sgDt D L iv r (p + 1) t else if D (p + 1) = 0 then sgDt D L iv r (p + 2) t else if 0 < iv ∧ D (p + 1) = 208 + t % 8 then sgDt D L iv r (p + 2) (t + 1) else .inr p
def sgSk2 (D : Nat → Nat) (L : Nat) : Nat → Nat → sgF ⊕ (Nat × Nat)
  | 0, _ => .inl (1, L)
  | r + 1, p => if L ≤ p then .inl (1, L) else if D p = 255 then sgSk2 D L r (p + 1) else .inr (D p, p + 1)
def sgMk (D : Nat → Nat) (L p : Nat) : sgF ⊕ (Nat × Nat) := if p < L ∧ D p ≠ 255 then .inl (3, p) else sgSk2 D L (L + 1) p
/-- the places of numbers in a state: 0 place, 1 interval, 2 segments, 3 kind, 4 width, 5 height, 6 components, 7 lines due, 8 scans, 9 without height, 10 members, 11 first, 12 last, 13 before, 14 bits, 15 data from, 16 data to -/
def sgP (s : sgS) (k v : Nat) : sgS := (uG s.1 k v, s.2)
abbrev sgCs (code : Nat) (s : sgS) : Prop := (s.1 7 ≠ 0 ∧ code = 220) ∨ (s.1 7 = 0 ∧ ((code = 192 ∨ code = 194) ∧ s.1 3 = 0 ∨ code = 218 ∧ s.1 3 ≠ 0 ∨ (code = 217 ∧ s.1 3 ≠ 0) ∧ (∀ c, c < s.1 6 → s.2.2.2.1 (64 * c) ≠ 0) ∨ (code = 196 ∨ code = 219 ∨ code = 221 ∨ code = 254) ∨ 224 ≤ code ∧ code ≤ 239))
/-- what a scan sends is noted -/
def sgNo (s : sgS) (fi la bb : Nat) (mb : sg4) : Nat → (Nat → Nat) × (Nat → Nat)
  | 0 => (s.2.2.2.1, s.2.2.2.2.2.2)
  | i + 1 => (fun j => if 64 * (mb i).1 + fi ≤ j ∧ j ≤ 64 * (mb i).1 + la then bb + 1 else (sgNo s fi la bb mb i).1 j, fun j => if (sgNo s fi la bb mb i).1 (64 * (mb i).1) = 0 ∧ 64 * (mb i).1 ≤ j ∧ j < 64 * (mb i).1 + 64 then s.2.1 (64 * (s.2.2.2.2.1 (mb i).1).2.2.2 + (j - 64 * (mb i).1)) else (sgNo s fi la bb mb i).2 j)
def sgSc (c : sgC) (s : sgS) (p : Nat) : sgF ⊕ sgS := sgB (sgI c 1 4 p) fun n => sgB (sgMb c s.2.2.2.2.1 (s.1 6) n.1 0 0 0 n.2 (fun _ => (0, 0, 0, 0))) fun m => sgB (sgBn c (s.1 3) n.1 m.1) fun b => sgB (sgFt (s.1 3) b.1 b.2.1 b.2.2.1 s.2.2.2.1 m.2 (b.2.2.2.2 - 1) n.1 0) fun _ => sgB (sgTb b.1 b.2.1 b.2.2.1 s.2.1 s.2.2.1 s.2.2.2.2.1 m.2 n.1 0) fun _ => sgE c b.2.2.2.2
  (fun k => if k = 0 then b.2.2.2.2 else if k = 7 then (if s.1 9 ≠ 0 ∧ s.1 8 = 0 then 1 else 0) else if k = 8 then s.1 8 + 1 else if k = 10 then n.1 else if k = 11 then b.1 else if k = 12 then b.2.1 else if k = 13 then b.2.2.1 else if k = 14 then b.2.2.2.1 else if k = 15 then b.2.2.2.2 else s.1 k, s.2.1, s.2.2.1, (sgNo s b.1 b.2.1 b.2.2.2.1 m.2 n.1).1, s.2.2.2.2.1, m.2, (sgNo s b.1 b.2.1 b.2.2.2.1 m.2 n.1).2)
/-- a segment's contents; a scan with its data -/
def sgSg (D : Nat → Nat) (L code : Nat) (s : sgS) : sgF ⊕ sgS := if L ≤ s.1 0 + 1 then .inl (1, L) else if 256 * D (s.1 0) + D (s.1 0 + 1) < 2 then .inl (5, s.1 0) else
  (fun (c : sgC) (s1 : sgS) (p : Nat) =>
    if code = 219 then sgB (sgQs c 16384 p s.2.1) fun a => .inr (uG s1.1 0 a.1, a.2, s1.2.2)
    else if code = 196 then sgB (sgWs c 16384 p s.2.2.1) fun a => .inr (uG s1.1 0 a.1, s1.2.1, a.2, s1.2.2.2)
    else if code = 221 then sgB (sgU c 0 65535 p) fun v => sgE c v.2 (uG (uG s1.1 0 v.2) 1 v.1, s1.2)
    else if code = 192 ∨ code = 194 then sgB (sgFr c p) fun f => .inr (fun k => if k = 0 then f.2.2.2.1 else if k = 3 then code else if k = 4 then f.2.1 else if k = 5 then f.1 else if k = 6 then f.2.2.1 else if k = 9 then (if f.1 = 0 then 1 else 0) else s1.1 k, s1.2.1, s1.2.2.1, s1.2.2.2.1, f.2.2.2.2, s1.2.2.2.2.2)
    else if code = 218 then sgB (sgSc c s1 p) fun s2 => sgB (sgDt D L (s1.1 1) (L + 1) (s2.1 0) 0) fun e => .inr (uG (uG s2.1 0 e) 16 e, s2.2)
    else if code = 220 then sgB (sgU c 1 64 p) fun v => sgE c v.2 (uG (uG (uG s1.1 0 v.2) 5 v.1) 7 0, s1.2)
    else if L < c.2.2.1 then .inl (1, L) else .inr (uG s1.1 0 c.2.2.1, s1.2)) (D, L, s.1 0 + (256 * D (s.1 0) + D (s.1 0 + 1)), s.1 0) (uG s.1 2 (s.1 2 + 1), s.2) (s.1 0 + 2)
/-- a restart that is not due ends the data: its marker can't stand there -/
def sgBad (D : Nat → Nat) (p : Nat) : Prop := 208 ≤ D (p + 1) ∧ D (p + 1) ≤ 215
/-- on to the end of the next scan (true), or to the file's end (false) -/
def sgNs (D : Nat → Nat) (L : Nat) : Nat → sgS → sgF ⊕ (Bool × sgS)
  | 0, _ => .inl (1, L)
  | r + 1, s => sgB (sgMk D L (s.1 0)) fun a => if sgCs a.1 s then (if a.1 = 217 then .inr (false, (uG s.1 0 a.2, s.2)) else sgB (sgSg D L a.1 (uG s.1 0 a.2, s.2)) fun s2 => if a.1 = 218 then .inr (true, s2) else sgNs D L r s2) else .inl (4, a.2 - 1)
