/-! THE PURE MACHINE. A world: which cell stands at an address (an array: its kind's number and contents; an object: its class' number and fields), the heap's size, the slots used.
A launch's frame of reference X: launch, class ids, array classes, base address, arrays that nobody writes, where the statics point. EV X M pc ls st w r w': the method M, at pc with locals ls and stack st in the world w, comes to its return with the answer r in the world w'. -/
def px_e (X : px_X) (e : px_C) : va_E := match e with
  | .inl a => .inl (X.2.2.1 a.1, a.2)
  | .inr q => .inr q
def px_ty : List FieldType := [.int, .byte, .short, .long, .boolean, .object "WavePictures$BestTable", .object "WavePictures$Plane", .object "WavePictures$Words"]
def px_sn : List String := ["K", "SCRIPT_TOGETHER", "SCRIPT_ONE_BY_ONE", "SCRIPT_PROGRESSIVE", "ZIGZAG", "TRANSPOSED"]
def px_isN (w : Cond) : Bool := match w with
  | .fieldLinkNest .. => true
  | .methodLinkNest .. => true
  | _ => false
def px_lg : List Cond := lw_tbl.filter goodWord
theorem px_lgi {w : Cond} (h : w ∈ lw_tbl) (hg : goodWord w = true) : w ∈ px_lg := List.mem_filter.mpr ⟨h, hg⟩
theorem px_lgt {w : Cond} (h : w ∈ tables_1) : w ∈ lw_tbl := List.mem_append_right _ h
def px_K (X : px_X) (U : State) : Prop := va_K X.2.1 vwCl [] U ∧ (∀ (t : Nat) (ty : FieldType), px_ty[t]? = some ty → ArrOfT U (X.2.2.1 t) ty ∧ va_RA U (X.2.2.1 t) ty) ∧ (∀ w ∈ tables_1, px_isN w = true → va_Nw w U) ∧ (∀ C, Cond.arrayOver (.object C) ∈ tables_1 → va_AO C U)
theorem px_K.warm {X : px_X} {s U : State} (hW : s.WarmedH U.vm) (h : px_K X s) : px_K X U := by
  obtain ⟨h1, h2, h3, h4⟩ := h
  refine ⟨va_K.moved hW.alike h1, fun t ty ht => ⟨arrOfT_moved hW.alike (h2 t ty ht).1, (h2 t ty ht).2.moved hW.alike⟩, fun w hw hn => ?_, fun C hC => va_AO.moved hW.alike (h4 C hC)⟩
  have h5 := h3 w hw hn
  cases w <;> first | (simp [px_isN] at hn; done) | exact va_Nw.warmF hW h5 | exact va_Nw.warmM hW h5
theorem px_K.ty {X : px_X} {s : State} (h : px_K X s) {t : Nat} {ty : FieldType} (ht : px_ty[t]? = some ty) : va_K X.2.1 vwCl [(X.2.2.1 t, ty)] s := by
  refine ⟨h.1.1, fun k q hk => ?_⟩
  cases k with
  | zero => cases hk; exact h.2.1 t ty ht
  | succ k => cases hk
def px_H (X : px_X) (w : px_W) (U : State) (H : Heap) : Prop :=
  H.size = w.2.1 ∧ X.2.2.2.1 ≤ w.2.1 ∧ (∀ (a : Nat) (e : px_C), w.1 a = some e → X.2.2.2.1 ≤ a ∧ va_at X.2.1 vwCl (a, px_e X e) H) ∧
  (∀ (a n : Nat) (f : Nat → Int32), X.2.2.2.2.1 a = some (n, f) → va_T .int a n (fun j => .int (f j)) (fun q => X.2.2.2.1 ≤ q) U H) ∧
  (∀ (k : Nat) (nm : String), px_sn[k]? = some nm → va_Z "WavePictures" nm "[I" (.ref (X.2.2.2.2.2 k)) (fun q => X.2.2.2.1 ≤ q) U H)
theorem px_H.moved {X : px_X} {w : px_W} {u U : State} {H : Heap} (hvm : u.vm.Alike U.vm) (h : px_H X w u H) : px_H X w U H :=
  ⟨h.1, h.2.1, h.2.2.1, fun a n f hf => va_T.moved hvm (h.2.2.2.1 a n f hf), fun k nm hk => va_Z.moved hvm (h.2.2.2.2 k nm hk)⟩
theorem px_H.put {X : px_X} {w : px_W} {U : State} {H H1 : Heap} {a : Nat} {e0 e : px_C} (h : px_H X w U H) (ha : w.1 a = some e0) (he : va_at X.2.1 vwCl (a, px_e X e) H1) (z : H1.size = H.size) (oq : ∀ q : Nat, q ≠ a → H1[q]? = H[q]?) : px_H X (px_set w a e) U H1 := by
  have hb := (h.2.2.1 a e0 ha).1
  have hk : ∀ q : Nat, q < H.size → ¬ X.2.2.2.1 ≤ q → H1[q]? = H[q]? := fun q _ hq => oq q (fun e => hq (by rw [e]; exact hb))
  refine ⟨z.trans h.1, h.2.1, fun q e' hq => ?_, fun q n f hf => va_T.kept (h.2.2.2.1 q n f hf) hk, fun k nm hn => va_Z.kept (h.2.2.2.2 k nm hn) hk⟩
  by_cases hqa : q = a
  · subst hqa
    simp only [px_set, if_pos] at hq
    cases hq
    exact ⟨hb, he⟩
  · simp only [px_set, if_neg hqa] at hq
    obtain ⟨g1, g2⟩ := h.2.2.1 q e' hq
    exact ⟨g1, g2.kept (oq q hqa)⟩
theorem px_H.push {X : px_X} {w : px_W} {U : State} {H H1 : Heap} {e : px_C} {n : Nat} (h : px_H X w U H) (he : va_at X.2.1 vwCl (H.size, px_e X e) H1) (z : H1.size = H.size + 1) (oq : ∀ q : Nat, q < H.size → H1[q]? = H[q]?) : px_H X (px_new w e n) U H1 := by
  have hk : ∀ q : Nat, q < H.size → ¬ X.2.2.2.1 ≤ q → H1[q]? = H[q]? := fun q h1 _ => oq q h1
  refine ⟨by rw [z, h.1]; rfl, Nat.le_trans h.2.1 (Nat.le_succ _), fun q e' hq => ?_, fun q n f hf => va_T.kept (h.2.2.2.1 q n f hf) hk, fun k nm hn => va_Z.kept (h.2.2.2.2 k nm hn) hk⟩
  by_cases hqa : q = w.2.1
  · subst hqa
    simp only [px_new, if_pos] at hq
    cases hq
    rw [h.1] at he
    exact ⟨h.2.1, he⟩
  · simp only [px_new, if_neg hqa] at hq
    obtain ⟨g1, g2⟩ := h.2.2.1 q e' hq
    exact ⟨g1, g2.kept (oq q g2.lt)⟩
def px_B (X : px_X) (M : px_M) (p : Program) (R : Room) (s : State) (m : MethodId) (args : Array Value) (meth : Method) (c : Code) : Prop :=
  p.tables.exec = Jvm.exec ∧ c.code = M.2.1 ∧ c.maxLocals = M.2.2.1 ∧ s.vm.findClass M.1.cls = some m.cls ∧ (∀ w ∈ px_lg, w.before args s = true) ∧ M.2.2.2.2.1 ≤ R.frames ∧ M.2.2.2.2.2 ≤ R.locals ∧ (M.1.name = "<init>" → meth.name = "<init>") ∧ px_K X s
def px_rt (cc : ByteArray) (pc : Nat) (r : Option Value) : Prop := match r with
  | none => decode cc pc = .ok (.return_, 1)
  | some (.int _) => decode cc pc = .ok (.ireturn, 1)
  | some (.long _) => decode cc pc = .ok (.lreturn, 1)
  | _ => False
def px_nar (rt : Option FieldType) (r : Option Value) : Prop := match rt, r with
  | none, none => True
  | some ty, some (.int v) => narrow ty (.int v) = .int v
  | some .long, some (.long _) => True
  | _, _ => False
def EV (X : px_X) (M : px_M) (pc : Nat) (ls : List (Nat × Value)) (st : List Value) (w : px_W) (r : Option Value) (w' : px_W) : Prop :=
  (px_nar M.2.2.2.1 r ∧ w.2.1 ≤ w'.2.1 ∧ w.2.2 ≤ w'.2.2) ∧
  ∀ (p : Program) (e : Env) (R : Room) (s : State) (m : MethodId) (args : Array Value) (below : List Frame) (meth : Method) (c : Code) (H : Heap) (locs : List Loc) (cells slots : Nat) (Q : State → Prop) (la : Array Slot),
    px_B X M p R s m args meth c → cells + (w'.2.1 - w.2.1) ≤ R.cells → slots + (w'.2.2 - w.2.2) ≤ R.slots → px_H X w s H → (∀ q ∈ locs, X.2.2.2.1 ≤ q.base) → lv_has la M.2.2.1 ls →
    (∀ (H' : Heap) (locs' : List Loc) (la' : Array Slot) (pc' : Nat), px_H X w' s H' → (∀ q ∈ locs', X.2.2.2.1 ≤ q.base) → px_rt M.2.1 pc' r →
      W p X.1 e R s m args below meth c H' locs' (cells + (w'.2.1 - w.2.1)) (slots + (w'.2.2 - w.2.2)) Q (F0 m pc' la' r.toList)) →
    W p X.1 e R s m args below meth c H locs cells slots Q (F0 m pc la st)
section EVR
variable {X : px_X} {M : px_M} {pc : Nat} {ls : List (Nat × Value)} {st rest : List Value} {w : px_W} {r : Option Value} {w' : px_W}
theorem EV.retR (hst : st = r.toList) (d : px_rt M.2.1 pc r) (hn : px_nar M.2.2.2.1 r) : EV X M pc ls st w r w := by
  subst hst
  refine ⟨⟨hn, Nat.le_refl _, Nat.le_refl _⟩, ?_⟩
  intro p e R s m args below meth c H locs cells slots Q la hB h1 h2 hH hl ha k
  have h3 := k H locs la pc hH hl d
  rw [Nat.sub_self, Nat.sub_self] at h3
  exact h3
theorem EV.ret0 (d : decode M.2.1 pc = .ok (.return_, 1)) (hn : px_nar M.2.2.2.1 none) : EV X M pc ls [] w none w := EV.retR rfl d hn
theorem EV.reti {v : Int32} (d : decode M.2.1 pc = .ok (.ireturn, 1)) (hn : px_nar M.2.2.2.1 (some (.int v))) : EV X M pc ls [.int v] w (some (.int v)) w := EV.retR rfl d hn
theorem EV.retl {v : Int64} (d : decode M.2.1 pc = .ok (.lreturn, 1)) (hn : px_nar M.2.2.2.1 (some (.long v))) : EV X M pc ls [.long v] w (some (.long v)) w := EV.retR rfl d hn
/-- an instruction that leaves the heap -/
theorem EV.go {pc' : Nat} {ls' : List (Nat × Value)} {st' : List Value}
    (hW : ∀ (p : Program) (e : Env) (R : Room) (s : State) (m : MethodId) (args : Array Value) (below : List Frame) (meth : Method) (c : Code) (H : Heap) (locs : List Loc) (cells slots : Nat) (Q : State → Prop) (la : Array Slot),
      px_B X M p R s m args meth c → px_H X w s H → lv_has la M.2.2.1 ls → (∀ la' : Array Slot, lv_has la' M.2.2.1 ls' → W p X.1 e R s m args below meth c H locs cells slots Q (F0 m pc' la' st')) → W p X.1 e R s m args below meth c H locs cells slots Q (F0 m pc la st))
    (h : EV X M pc' ls' st' w r w') : EV X M pc ls st w r w' := by
  refine ⟨h.1, ?_⟩
  intro p e R s m args below meth c H locs cells slots Q la hB h1 h2 hH hl ha k
  exact hW p e R s m args below meth c H locs cells slots Q la hB hH ha (fun la' ha' => h.2 p e R s m args below meth c H locs cells slots Q la' hB h1 h2 hH hl ha' k)
theorem EV.sub {ls' : List (Nat × Value)} (ks : List Nat) (hs : lv_pick ls ks = ls') (h : EV X M pc ls' st w r w') : EV X M pc ls st w r w' :=
  EV.go (fun _ _ _ _ _ _ _ _ _ _ _ _ _ _ _ _ _ ha k => k _ (lv_sub ha ks hs)) h
/-- a world's equal -/
theorem EV.we {w2 : px_W} (e : w = w2) (h : EV X M pc ls st w2 r w') : EV X M pc ls st w r w' := e ▸ h
theorem EV.re {w2 : px_W} {r2 : Option Value} (e : w2 = w') (er : r2 = r) (h : EV X M pc ls st w r2 w2) : EV X M pc ls st w r w' := by subst e; subst er; exact h
theorem EV.se {st2 : List Value} (e : st = st2) (h : EV X M pc ls st2 w r w') : EV X M pc ls st w r w' := e ▸ h
theorem EV.le {ls2 : List (Nat × Value)} (e : ls = ls2) (h : EV X M pc ls2 st w r w') : EV X M pc ls st w r w' := e ▸ h
theorem EV.iconst {n : Int} (v : Int32) (d : decode M.2.1 pc = .ok (.iconst n, 1)) (hv : Int32.ofInt n = v) (h : EV X M (pc + 1) ls (.int v :: rest) w r w') : EV X M pc ls rest w r w' :=
  EV.go (fun p e R s m args below meth c H locs cells slots Q la hB hH ha k => lv_iconst hB.1 hB.2.1 d hv (k la ha)) h
theorem EV.bipush {n : Int} (v : Int32) (d : decode M.2.1 pc = .ok (.bipush n, 2)) (hv : (Int8.ofInt n).toInt32 = v) (h : EV X M (pc + 2) ls (.int v :: rest) w r w') : EV X M pc ls rest w r w' :=
  EV.go (fun p e R s m args below meth c H locs cells slots Q la hB hH ha k => lv_bipush hB.1 hB.2.1 d hv (k la ha)) h
theorem EV.sipush {n : Int} (v : Int32) (d : decode M.2.1 pc = .ok (.sipush n, 3)) (hv : (Int16.ofInt n).toInt32 = v) (h : EV X M (pc + 3) ls (.int v :: rest) w r w') : EV X M pc ls rest w r w' :=
  EV.go (fun p e R s m args below meth c H locs cells slots Q la hB hH ha k => lv_sipush hB.1 hB.2.1 d hv (k la ha)) h
theorem EV.lconst {n : Fin 2} (v : Int64) (d : decode M.2.1 pc = .ok (.lconst n, 1)) (hv : Int64.ofNat (n : Nat) = v) (h : EV X M (pc + 1) ls (.long v :: rest) w r w') : EV X M pc ls rest w r w' :=
  EV.go (fun p e R s m args below meth c H locs cells slots Q la hB hH ha k => lv_lconst hB.1 hB.2.1 d hv (k la ha)) h
theorem EV.null (d : decode M.2.1 pc = .ok (.aconst_null, 1)) (h : EV X M (pc + 1) ls (.null :: rest) w r w') : EV X M pc ls rest w r w' :=
  EV.go (fun p e R s m args below meth c H locs cells slots Q la hB hH ha k => lv_null hB.1 hB.2.1 d (k la ha)) h
theorem EV.iload_n {n : Fin 4} {i : Nat} {x : Int32} (q : Nat) (d : decode M.2.1 pc = .ok (.iload_n n, 1)) (hq : ls[q]? = some (i, .int x)) (hi : (n : Nat) = i) (h : EV X M (pc + 1) ls (.int x :: rest) w r w') : EV X M pc ls rest w r w' :=
  EV.go (fun p e R s m args below meth c H locs cells slots Q la hB hH ha k => lv_iload_n hB.1 hB.2.1 d hi (lv_at ha q hq) (k la ha)) h
theorem EV.iload {i : Nat} {x : Int32} (q : Nat) (d : decode M.2.1 pc = .ok (.iload i, 2)) (hq : ls[q]? = some (i, .int x)) (h : EV X M (pc + 2) ls (.int x :: rest) w r w') : EV X M pc ls rest w r w' :=
  EV.go (fun p e R s m args below meth c H locs cells slots Q la hB hH ha k => lv_iload hB.1 hB.2.1 d (lv_at ha q hq) (k la ha)) h
theorem EV.lload_n {n : Fin 4} {i : Nat} {x : Int64} (q : Nat) (d : decode M.2.1 pc = .ok (.lload_n n, 1)) (hq : ls[q]? = some (i, .long x)) (hi : (n : Nat) = i) (h : EV X M (pc + 1) ls (.long x :: rest) w r w') : EV X M pc ls rest w r w' :=
  EV.go (fun p e R s m args below meth c H locs cells slots Q la hB hH ha k => lv_lload_n hB.1 hB.2.1 d hi (lv_at ha q hq) (k la ha)) h
theorem EV.lload {i : Nat} {x : Int64} (q : Nat) (d : decode M.2.1 pc = .ok (.lload i, 2)) (hq : ls[q]? = some (i, .long x)) (h : EV X M (pc + 2) ls (.long x :: rest) w r w') : EV X M pc ls rest w r w' :=
  EV.go (fun p e R s m args below meth c H locs cells slots Q la hB hH ha k => lv_lload hB.1 hB.2.1 d (lv_at ha q hq) (k la ha)) h
theorem EV.aload_n {n : Fin 4} {i : Nat} {x : Nat} (q : Nat) (d : decode M.2.1 pc = .ok (.aload_n n, 1)) (hq : ls[q]? = some (i, .ref x)) (hi : (n : Nat) = i) (h : EV X M (pc + 1) ls (.ref x :: rest) w r w') : EV X M pc ls rest w r w' :=
  EV.go (fun p e R s m args below meth c H locs cells slots Q la hB hH ha k => lv_aload_n hB.1 hB.2.1 d hi (lv_at ha q hq) (k la ha)) h
theorem EV.aload {i : Nat} {x : Nat} (q : Nat) (d : decode M.2.1 pc = .ok (.aload i, 2)) (hq : ls[q]? = some (i, .ref x)) (h : EV X M (pc + 2) ls (.ref x :: rest) w r w') : EV X M pc ls rest w r w' :=
  EV.go (fun p e R s m args below meth c H locs cells slots Q la hB hH ha k => lv_aload hB.1 hB.2.1 d (lv_at ha q hq) (k la ha)) h
theorem EV.aload_nN {n : Fin 4} {i : Nat} (q : Nat) (d : decode M.2.1 pc = .ok (.aload_n n, 1)) (hq : ls[q]? = some (i, .null)) (hi : (n : Nat) = i) (h : EV X M (pc + 1) ls (.null :: rest) w r w') : EV X M pc ls rest w r w' :=
  EV.go (fun p e R s m args below meth c H locs cells slots Q la hB hH ha k => lv_aload_nN hB.1 hB.2.1 d hi (lv_at ha q hq) (k la ha)) h
theorem EV.aloadN {i : Nat} (q : Nat) (d : decode M.2.1 pc = .ok (.aload i, 2)) (hq : ls[q]? = some (i, .null)) (h : EV X M (pc + 2) ls (.null :: rest) w r w') : EV X M pc ls rest w r w' :=
  EV.go (fun p e R s m args below meth c H locs cells slots Q la hB hH ha k => lv_aloadN hB.1 hB.2.1 d (lv_at ha q hq) (k la ha)) h
theorem EV.istore_n {n : Fin 4} {i : Nat} {x : Int32} (ls' : List (Nat × Value)) (d : decode M.2.1 pc = .ok (.istore_n n, 1)) (hi : (n : Nat) = i) (hn : i < M.2.2.1) (hl : (i, Value.int x) :: ls.filter (fun q => !(q.1 == i) && !(q.1 + 1 == i && q.2.category == 2)) = ls') (h : EV X M (pc + 1) ls' rest w r w') : EV X M pc ls (.int x :: rest) w r w' :=
  EV.go (fun p e R s m args below meth c H locs cells slots Q la hB hH ha k => lv_istore_n hB.1 hB.2.1 d hi ha hn hl k) h
theorem EV.istore {i : Nat} {x : Int32} (ls' : List (Nat × Value)) (d : decode M.2.1 pc = .ok (.istore i, 2)) (hn : i < M.2.2.1) (hl : (i, Value.int x) :: ls.filter (fun q => !(q.1 == i) && !(q.1 + 1 == i && q.2.category == 2)) = ls') (h : EV X M (pc + 2) ls' rest w r w') : EV X M pc ls (.int x :: rest) w r w' :=
  EV.go (fun p e R s m args below meth c H locs cells slots Q la hB hH ha k => lv_istore hB.1 hB.2.1 d ha hn hl k) h
theorem EV.lstore_n {n : Fin 4} {i : Nat} {x : Int64} (ls' : List (Nat × Value)) (d : decode M.2.1 pc = .ok (.lstore_n n, 1)) (hi : (n : Nat) = i) (hn : i + 1 < M.2.2.1) (hl : (i, Value.long x) :: ls.filter (fun q => !(q.1 == i) && (!(q.1 == i + 1) && !(q.1 + 1 == i && q.2.category == 2))) = ls') (h : EV X M (pc + 1) ls' rest w r w') : EV X M pc ls (.long x :: rest) w r w' :=
  EV.go (fun p e R s m args below meth c H locs cells slots Q la hB hH ha k => lv_lstore_n hB.1 hB.2.1 d hi ha hn hl k) h
theorem EV.lstore {i : Nat} {x : Int64} (ls' : List (Nat × Value)) (d : decode M.2.1 pc = .ok (.lstore i, 2)) (hn : i + 1 < M.2.2.1) (hl : (i, Value.long x) :: ls.filter (fun q => !(q.1 == i) && (!(q.1 == i + 1) && !(q.1 + 1 == i && q.2.category == 2))) = ls') (h : EV X M (pc + 2) ls' rest w r w') : EV X M pc ls (.long x :: rest) w r w' :=
  EV.go (fun p e R s m args below meth c H locs cells slots Q la hB hH ha k => lv_lstore hB.1 hB.2.1 d ha hn hl k) h
theorem EV.astore_n {n : Fin 4} {i : Nat} {x : Nat} (ls' : List (Nat × Value)) (d : decode M.2.1 pc = .ok (.astore_n n, 1)) (hi : (n : Nat) = i) (hn : i < M.2.2.1) (hl : (i, Value.ref x) :: ls.filter (fun q => !(q.1 == i) && !(q.1 + 1 == i && q.2.category == 2)) = ls') (h : EV X M (pc + 1) ls' rest w r w') : EV X M pc ls (.ref x :: rest) w r w' :=
  EV.go (fun p e R s m args below meth c H locs cells slots Q la hB hH ha k => lv_astore_n hB.1 hB.2.1 d hi ha hn hl k) h
theorem EV.astore {i : Nat} {x : Nat} (ls' : List (Nat × Value)) (d : decode M.2.1 pc = .ok (.astore i, 2)) (hn : i < M.2.2.1) (hl : (i, Value.ref x) :: ls.filter (fun q => !(q.1 == i) && !(q.1 + 1 == i && q.2.category == 2)) = ls') (h : EV X M (pc + 2) ls' rest w r w') : EV X M pc ls (.ref x :: rest) w r w' :=
  EV.go (fun p e R s m args below meth c H locs cells slots Q la hB hH ha k => lv_astore hB.1 hB.2.1 d ha hn hl k) h
theorem EV.astore_nN {n : Fin 4} {i : Nat} (ls' : List (Nat × Value)) (d : decode M.2.1 pc = .ok (.astore_n n, 1)) (hi : (n : Nat) = i) (hn : i < M.2.2.1) (hl : (i, Value.null) :: ls.filter (fun q => !(q.1 == i) && !(q.1 + 1 == i && q.2.category == 2)) = ls') (h : EV X M (pc + 1) ls' rest w r w') : EV X M pc ls (.null :: rest) w r w' :=
  EV.go (fun p e R s m args below meth c H locs cells slots Q la hB hH ha k => lv_astore_nN hB.1 hB.2.1 d hi ha hn hl k) h
theorem EV.astoreN {i : Nat} (ls' : List (Nat × Value)) (d : decode M.2.1 pc = .ok (.astore i, 2)) (hn : i < M.2.2.1) (hl : (i, Value.null) :: ls.filter (fun q => !(q.1 == i) && !(q.1 + 1 == i && q.2.category == 2)) = ls') (h : EV X M (pc + 2) ls' rest w r w') : EV X M pc ls (.null :: rest) w r w' :=
  EV.go (fun p e R s m args below meth c H locs cells slots Q la hB hH ha k => lv_astoreN hB.1 hB.2.1 d ha hn hl k) h
theorem EV.iinc {i : Nat} {n : Int} {x : Int32} (q : Nat) (v : Int32) (ls' : List (Nat × Value)) (d : decode M.2.1 pc = .ok (.iinc i n, 3)) (hq : ls[q]? = some (i, .int x)) (hv : x + Int32.ofInt n = v) (hn : i < M.2.2.1) (hl : (i, Value.int v) :: ls.filter (fun q => !(q.1 == i) && !(q.1 + 1 == i && q.2.category == 2)) = ls') (h : EV X M (pc + 3) ls' rest w r w') : EV X M pc ls rest w r w' :=
  EV.go (fun p e R s m args below meth c H locs cells slots Q la hB hH ha k => lv_iinc hB.1 hB.2.1 d ha hq hv hn hl k) h
theorem EV.iadd {x y : Int32} (d : decode M.2.1 pc = .ok (.iadd, 1)) (h : EV X M (pc + 1) ls (.int (x + y) :: rest) w r w') : EV X M pc ls (.int y :: .int x :: rest) w r w' :=
  EV.go (fun p e R s m args below meth c H locs cells slots Q la hB hH ha k => lv_iadd hB.1 hB.2.1 d (k la ha)) h
theorem EV.isub {x y : Int32} (d : decode M.2.1 pc = .ok (.isub, 1)) (h : EV X M (pc + 1) ls (.int (x - y) :: rest) w r w') : EV X M pc ls (.int y :: .int x :: rest) w r w' :=
  EV.go (fun p e R s m args below meth c H locs cells slots Q la hB hH ha k => lv_isub hB.1 hB.2.1 d (k la ha)) h
theorem EV.imul {x y : Int32} (d : decode M.2.1 pc = .ok (.imul, 1)) (h : EV X M (pc + 1) ls (.int (x * y) :: rest) w r w') : EV X M pc ls (.int y :: .int x :: rest) w r w' :=
  EV.go (fun p e R s m args below meth c H locs cells slots Q la hB hH ha k => lv_imul hB.1 hB.2.1 d (k la ha)) h
theorem EV.iand {x y : Int32} (d : decode M.2.1 pc = .ok (.iand, 1)) (h : EV X M (pc + 1) ls (.int (x &&& y) :: rest) w r w') : EV X M pc ls (.int y :: .int x :: rest) w r w' :=
  EV.go (fun p e R s m args below meth c H locs cells slots Q la hB hH ha k => lv_iand hB.1 hB.2.1 d (k la ha)) h
theorem EV.ior {x y : Int32} (d : decode M.2.1 pc = .ok (.ior, 1)) (h : EV X M (pc + 1) ls (.int (x ||| y) :: rest) w r w') : EV X M pc ls (.int y :: .int x :: rest) w r w' :=
  EV.go (fun p e R s m args below meth c H locs cells slots Q la hB hH ha k => lv_ior hB.1 hB.2.1 d (k la ha)) h
theorem EV.ixor {x y : Int32} (d : decode M.2.1 pc = .ok (.ixor, 1)) (h : EV X M (pc + 1) ls (.int (x ^^^ y) :: rest) w r w') : EV X M pc ls (.int y :: .int x :: rest) w r w' :=
  EV.go (fun p e R s m args below meth c H locs cells slots Q la hB hH ha k => lv_ixor hB.1 hB.2.1 d (k la ha)) h
theorem EV.ishl {x y : Int32} (d : decode M.2.1 pc = .ok (.ishl, 1)) (h : EV X M (pc + 1) ls (.int (x <<< (y &&& 31)) :: rest) w r w') : EV X M pc ls (.int y :: .int x :: rest) w r w' :=
  EV.go (fun p e R s m args below meth c H locs cells slots Q la hB hH ha k => lv_ishl hB.1 hB.2.1 d (k la ha)) h
theorem EV.ishr {x y : Int32} (d : decode M.2.1 pc = .ok (.ishr, 1)) (h : EV X M (pc + 1) ls (.int (x >>> (y &&& 31)) :: rest) w r w') : EV X M pc ls (.int y :: .int x :: rest) w r w' :=
  EV.go (fun p e R s m args below meth c H locs cells slots Q la hB hH ha k => lv_ishr hB.1 hB.2.1 d (k la ha)) h
theorem EV.idiv {x y : Int32} (d : decode M.2.1 pc = .ok (.idiv, 1)) (hne : ¬ y = 0) (h : EV X M (pc + 1) ls (.int (x / y) :: rest) w r w') : EV X M pc ls (.int y :: .int x :: rest) w r w' :=
  EV.go (fun p e R s m args below meth c H locs cells slots Q la hB hH ha k => lv_idiv hB.1 hB.2.1 d hne (k la ha)) h
theorem EV.irem {x y : Int32} (d : decode M.2.1 pc = .ok (.irem, 1)) (hne : ¬ y = 0) (h : EV X M (pc + 1) ls (.int (x - x / y * y) :: rest) w r w') : EV X M pc ls (.int y :: .int x :: rest) w r w' :=
  EV.go (fun p e R s m args below meth c H locs cells slots Q la hB hH ha k => lv_irem hB.1 hB.2.1 d hne (k la ha)) h
theorem EV.iushr {x y : Int32} (d : decode M.2.1 pc = .ok (.iushr, 1)) (h : EV X M (pc + 1) ls (.int ((x.toUInt32 >>> (y.toUInt32 &&& Int32.toUInt32 31)).toInt32) :: rest) w r w') : EV X M pc ls (.int y :: .int x :: rest) w r w' :=
  EV.go (fun p e R s m args below meth c H locs cells slots Q la hB hH ha k => lv_iushr hB.1 hB.2.1 d rfl (k la ha)) h
theorem EV.ineg {x : Int32} (d : decode M.2.1 pc = .ok (.ineg, 1)) (h : EV X M (pc + 1) ls (.int (-x) :: rest) w r w') : EV X M pc ls (.int x :: rest) w r w' :=
  EV.go (fun p e R s m args below meth c H locs cells slots Q la hB hH ha k => lv_ineg hB.1 hB.2.1 d (k la ha)) h
theorem EV.ladd {x y : Int64} (d : decode M.2.1 pc = .ok (.ladd, 1)) (h : EV X M (pc + 1) ls (.long (x + y) :: rest) w r w') : EV X M pc ls (.long y :: .long x :: rest) w r w' :=
  EV.go (fun p e R s m args below meth c H locs cells slots Q la hB hH ha k => lv_ladd hB.1 hB.2.1 d (k la ha)) h
theorem EV.lsub {x y : Int64} (d : decode M.2.1 pc = .ok (.lsub, 1)) (h : EV X M (pc + 1) ls (.long (x - y) :: rest) w r w') : EV X M pc ls (.long y :: .long x :: rest) w r w' :=
  EV.go (fun p e R s m args below meth c H locs cells slots Q la hB hH ha k => lv_lsub hB.1 hB.2.1 d (k la ha)) h
theorem EV.lmul {x y : Int64} (d : decode M.2.1 pc = .ok (.lmul, 1)) (h : EV X M (pc + 1) ls (.long (x * y) :: rest) w r w') : EV X M pc ls (.long y :: .long x :: rest) w r w' :=
  EV.go (fun p e R s m args below meth c H locs cells slots Q la hB hH ha k => lv_lmul hB.1 hB.2.1 d (k la ha)) h
theorem EV.land {x y : Int64} (d : decode M.2.1 pc = .ok (.land, 1)) (h : EV X M (pc + 1) ls (.long (x &&& y) :: rest) w r w') : EV X M pc ls (.long y :: .long x :: rest) w r w' :=
  EV.go (fun p e R s m args below meth c H locs cells slots Q la hB hH ha k => lv_land hB.1 hB.2.1 d (k la ha)) h
theorem EV.lor {x y : Int64} (d : decode M.2.1 pc = .ok (.lor, 1)) (h : EV X M (pc + 1) ls (.long (x ||| y) :: rest) w r w') : EV X M pc ls (.long y :: .long x :: rest) w r w' :=
  EV.go (fun p e R s m args below meth c H locs cells slots Q la hB hH ha k => lv_lor hB.1 hB.2.1 d (k la ha)) h
theorem EV.lxor {x y : Int64} (d : decode M.2.1 pc = .ok (.lxor, 1)) (h : EV X M (pc + 1) ls (.long (x ^^^ y) :: rest) w r w') : EV X M pc ls (.long y :: .long x :: rest) w r w' :=
  EV.go (fun p e R s m args below meth c H locs cells slots Q la hB hH ha k => lv_lxor hB.1 hB.2.1 d (k la ha)) h
theorem EV.ldiv {x y : Int64} (d : decode M.2.1 pc = .ok (.ldiv, 1)) (hne : ¬ y = 0) (h : EV X M (pc + 1) ls (.long (x / y) :: rest) w r w') : EV X M pc ls (.long y :: .long x :: rest) w r w' :=
  EV.go (fun p e R s m args below meth c H locs cells slots Q la hB hH ha k => lv_ldiv hB.1 hB.2.1 d hne (k la ha)) h
theorem EV.lneg {x : Int64} (d : decode M.2.1 pc = .ok (.lneg, 1)) (h : EV X M (pc + 1) ls (.long (-x) :: rest) w r w') : EV X M pc ls (.long x :: rest) w r w' :=
  EV.go (fun p e R s m args below meth c H locs cells slots Q la hB hH ha k => lv_lneg hB.1 hB.2.1 d (k la ha)) h
theorem EV.lshl {x : Int64} {y : Int32} (d : decode M.2.1 pc = .ok (.lshl, 1)) (h : EV X M (pc + 1) ls (.long (x <<< (y.toInt64 &&& 63)) :: rest) w r w') : EV X M pc ls (.int y :: .long x :: rest) w r w' :=
  EV.go (fun p e R s m args below meth c H locs cells slots Q la hB hH ha k => lv_lshl hB.1 hB.2.1 d rfl (k la ha)) h
theorem EV.lshr {x : Int64} {y : Int32} (d : decode M.2.1 pc = .ok (.lshr, 1)) (h : EV X M (pc + 1) ls (.long (x >>> (y.toInt64 &&& 63)) :: rest) w r w') : EV X M pc ls (.int y :: .long x :: rest) w r w' :=
  EV.go (fun p e R s m args below meth c H locs cells slots Q la hB hH ha k => lv_lshr hB.1 hB.2.1 d rfl (k la ha)) h
theorem EV.lcmp {x y : Int64} (d : decode M.2.1 pc = .ok (.lcmp, 1)) (h : EV X M (pc + 1) ls (.int (lg_cmp x y) :: rest) w r w') : EV X M pc ls (.long y :: .long x :: rest) w r w' :=
  EV.go (fun p e R s m args below meth c H locs cells slots Q la hB hH ha k => W.lcmp hB.1 hB.2.1 d (k la ha)) h
theorem EV.i2l {x : Int32} (d : decode M.2.1 pc = .ok (.i2l, 1)) (h : EV X M (pc + 1) ls (.long x.toInt64 :: rest) w r w') : EV X M pc ls (.int x :: rest) w r w' :=
  EV.go (fun p e R s m args below meth c H locs cells slots Q la hB hH ha k => lv_i2l hB.1 hB.2.1 d rfl (k la ha)) h
theorem EV.l2i {x : Int64} (d : decode M.2.1 pc = .ok (.l2i, 1)) (h : EV X M (pc + 1) ls (.int x.toInt32 :: rest) w r w') : EV X M pc ls (.long x :: rest) w r w' :=
  EV.go (fun p e R s m args below meth c H locs cells slots Q la hB hH ha k => lv_l2i hB.1 hB.2.1 d rfl (k la ha)) h
theorem EV.i2b {x : Int32} (d : decode M.2.1 pc = .ok (.i2b, 1)) (h : EV X M (pc + 1) ls (.int x.toInt8.toInt32 :: rest) w r w') : EV X M pc ls (.int x :: rest) w r w' :=
  EV.go (fun p e R s m args below meth c H locs cells slots Q la hB hH ha k => lv_i2b hB.1 hB.2.1 d rfl (k la ha)) h
theorem EV.i2s {x : Int32} (d : decode M.2.1 pc = .ok (.i2s, 1)) (h : EV X M (pc + 1) ls (.int x.toInt16.toInt32 :: rest) w r w') : EV X M pc ls (.int x :: rest) w r w' :=
  EV.go (fun p e R s m args below meth c H locs cells slots Q la hB hH ha k => lv_i2s hB.1 hB.2.1 d rfl (k la ha)) h
theorem EV.dup {va : Value} (d : decode M.2.1 pc = .ok (.dup, 1)) (hva : va.category = 1) (h : EV X M (pc + 1) ls (va :: va :: rest) w r w') : EV X M pc ls (va :: rest) w r w' :=
  EV.go (fun p e R s m args below meth c H locs cells slots Q la hB hH ha k => lv_dup hB.1 hB.2.1 d hva (k la ha)) h
theorem EV.pop {va : Value} (d : decode M.2.1 pc = .ok (.pop, 1)) (hva : va.category = 1) (h : EV X M (pc + 1) ls rest w r w') : EV X M pc ls (va :: rest) w r w' :=
  EV.go (fun p e R s m args below meth c H locs cells slots Q la hB hH ha k => lv_pop hB.1 hB.2.1 d hva (k la ha)) h
theorem EV.dup2 {va vb : Value} (d : decode M.2.1 pc = .ok (.dup2, 1)) (hva : va.category = 1) (hvb : vb.category = 1) (h : EV X M (pc + 1) ls (va :: vb :: va :: vb :: rest) w r w') : EV X M pc ls (va :: vb :: rest) w r w' :=
  EV.go (fun p e R s m args below meth c H locs cells slots Q la hB hH ha k => lv_dup2_11 hB.1 hB.2.1 d hva hvb (k la ha)) h
theorem EV.dup2L {va : Value} (d : decode M.2.1 pc = .ok (.dup2, 1)) (hva : va.category = 2) (h : EV X M (pc + 1) ls (va :: va :: rest) w r w') : EV X M pc ls (va :: rest) w r w' :=
  EV.go (fun p e R s m args below meth c H locs cells slots Q la hB hH ha k => lv_dup2_2 hB.1 hB.2.1 d hva (k la ha)) h
theorem EV.goto {off : Int} (tgt : Nat) (d : decode M.2.1 pc = .ok (.goto off, 3)) (ht : (pc : Int) + off = (tgt : Int)) (h : EV X M tgt ls rest w r w') : EV X M pc ls rest w r w' :=
  EV.go (fun p e R s m args below meth c H locs cells slots Q la hB hH ha k => lv_goto hB.1 hB.2.1 d ht (k la ha)) h
theorem EV.ifnullR {x : Nat} {off : Int} (d : decode M.2.1 pc = .ok (.ifnull off, 3)) (h : EV X M (pc + 3) ls rest w r w') : EV X M pc ls (.ref x :: rest) w r w' :=
  EV.go (fun p e R s m args below meth c H locs cells slots Q la hB hH ha k => lv_ifnull hB.1 hB.2.1 d (k la ha)) h
theorem EV.ifnullN {off : Int} (tgt : Nat) (d : decode M.2.1 pc = .ok (.ifnull off, 3)) (ht : (pc : Int) + off = (tgt : Int)) (h : EV X M tgt ls rest w r w') : EV X M pc ls (.null :: rest) w r w' :=
  EV.go (fun p e R s m args below meth c H locs cells slots Q la hB hH ha k => lv_ifnullN hB.1 hB.2.1 d ht (k la ha)) h
theorem EV.if_ne {x : Int32} {off : Int} (tgt : Nat) (d : decode M.2.1 pc = .ok (.ifCond .ne off, 3)) (ht : (pc : Int) + off = (tgt : Int)) (kt : ¬ (x = 0) → EV X M tgt ls rest w r w') (kf : (x = 0) → EV X M (pc + 3) ls rest w r w') : EV X M pc ls (.int x :: rest) w r w' := by
  by_cases hc : (x = 0)
  · exact EV.go (fun p e R s m args below meth c H locs cells slots Q la hB hH ha k => lv_if_ne hB.1 hB.2.1 d ht (fun h => absurd hc h) (fun _ => k la ha)) (kf hc)
  · exact EV.go (fun p e R s m args below meth c H locs cells slots Q la hB hH ha k => lv_if_ne hB.1 hB.2.1 d ht (fun _ => k la ha) (fun h => absurd h hc)) (kt hc)
theorem EV.if_neT {x : Int32} {off : Int} (tgt : Nat) (d : decode M.2.1 pc = .ok (.ifCond .ne off, 3)) (ht : (pc : Int) + off = (tgt : Int)) (hc : ¬ (x = 0)) (kt : EV X M tgt ls rest w r w') : EV X M pc ls (.int x :: rest) w r w' := EV.go (fun p e R s m args below meth c H locs cells slots Q la hB hH ha k => lv_if_ne hB.1 hB.2.1 d ht (fun _ => k la ha) (fun h => absurd h hc)) kt
theorem EV.if_neF {x : Int32} {off : Int} (d : decode M.2.1 pc = .ok (.ifCond .ne off, 3)) (tgt : Nat) (ht : (pc : Int) + off = (tgt : Int)) (hc : (x = 0)) (kf : EV X M (pc + 3) ls rest w r w') : EV X M pc ls (.int x :: rest) w r w' := EV.go (fun p e R s m args below meth c H locs cells slots Q la hB hH ha k => lv_if_ne hB.1 hB.2.1 d ht (fun h => absurd hc h) (fun _ => k la ha)) kf
theorem EV.icmp_ne {x y : Int32} {off : Int} (tgt : Nat) (d : decode M.2.1 pc = .ok (.if_icmp .ne off, 3)) (ht : (pc : Int) + off = (tgt : Int)) (kt : ¬ (x = y) → EV X M tgt ls rest w r w') (kf : (x = y) → EV X M (pc + 3) ls rest w r w') : EV X M pc ls (.int y :: .int x :: rest) w r w' := by
  by_cases hc : (x = y)
  · exact EV.go (fun p e R s m args below meth c H locs cells slots Q la hB hH ha k => lv_icmp_ne hB.1 hB.2.1 d ht (fun h => absurd hc h) (fun _ => k la ha)) (kf hc)
  · exact EV.go (fun p e R s m args below meth c H locs cells slots Q la hB hH ha k => lv_icmp_ne hB.1 hB.2.1 d ht (fun _ => k la ha) (fun h => absurd h hc)) (kt hc)
theorem EV.icmp_neT {x y : Int32} {off : Int} (tgt : Nat) (d : decode M.2.1 pc = .ok (.if_icmp .ne off, 3)) (ht : (pc : Int) + off = (tgt : Int)) (hc : ¬ (x = y)) (kt : EV X M tgt ls rest w r w') : EV X M pc ls (.int y :: .int x :: rest) w r w' := EV.go (fun p e R s m args below meth c H locs cells slots Q la hB hH ha k => lv_icmp_ne hB.1 hB.2.1 d ht (fun _ => k la ha) (fun h => absurd h hc)) kt
theorem EV.icmp_neF {x y : Int32} {off : Int} (d : decode M.2.1 pc = .ok (.if_icmp .ne off, 3)) (tgt : Nat) (ht : (pc : Int) + off = (tgt : Int)) (hc : (x = y)) (kf : EV X M (pc + 3) ls rest w r w') : EV X M pc ls (.int y :: .int x :: rest) w r w' := EV.go (fun p e R s m args below meth c H locs cells slots Q la hB hH ha k => lv_icmp_ne hB.1 hB.2.1 d ht (fun h => absurd hc h) (fun _ => k la ha)) kf
theorem EV.if_eq {x : Int32} {off : Int} (tgt : Nat) (d : decode M.2.1 pc = .ok (.ifCond .eq off, 3)) (ht : (pc : Int) + off = (tgt : Int)) (kt : (x = 0) → EV X M tgt ls rest w r w') (kf : ¬ (x = 0) → EV X M (pc + 3) ls rest w r w') : EV X M pc ls (.int x :: rest) w r w' := by
  by_cases hc : (x = 0)
  · exact EV.go (fun p e R s m args below meth c H locs cells slots Q la hB hH ha k => lv_if_eq hB.1 hB.2.1 d ht (fun _ => k la ha) (fun h => absurd hc h)) (kt hc)
  · exact EV.go (fun p e R s m args below meth c H locs cells slots Q la hB hH ha k => lv_if_eq hB.1 hB.2.1 d ht (fun h => absurd h hc) (fun _ => k la ha)) (kf hc)
theorem EV.if_eqT {x : Int32} {off : Int} (tgt : Nat) (d : decode M.2.1 pc = .ok (.ifCond .eq off, 3)) (ht : (pc : Int) + off = (tgt : Int)) (hc : (x = 0)) (kt : EV X M tgt ls rest w r w') : EV X M pc ls (.int x :: rest) w r w' := EV.go (fun p e R s m args below meth c H locs cells slots Q la hB hH ha k => lv_if_eq hB.1 hB.2.1 d ht (fun _ => k la ha) (fun h => absurd hc h)) kt
theorem EV.if_eqF {x : Int32} {off : Int} (d : decode M.2.1 pc = .ok (.ifCond .eq off, 3)) (tgt : Nat) (ht : (pc : Int) + off = (tgt : Int)) (hc : ¬ (x = 0)) (kf : EV X M (pc + 3) ls rest w r w') : EV X M pc ls (.int x :: rest) w r w' := EV.go (fun p e R s m args below meth c H locs cells slots Q la hB hH ha k => lv_if_eq hB.1 hB.2.1 d ht (fun h => absurd h hc) (fun _ => k la ha)) kf
theorem EV.icmp_eq {x y : Int32} {off : Int} (tgt : Nat) (d : decode M.2.1 pc = .ok (.if_icmp .eq off, 3)) (ht : (pc : Int) + off = (tgt : Int)) (kt : (x = y) → EV X M tgt ls rest w r w') (kf : ¬ (x = y) → EV X M (pc + 3) ls rest w r w') : EV X M pc ls (.int y :: .int x :: rest) w r w' := by
  by_cases hc : (x = y)
  · exact EV.go (fun p e R s m args below meth c H locs cells slots Q la hB hH ha k => lv_icmp_eq hB.1 hB.2.1 d ht (fun _ => k la ha) (fun h => absurd hc h)) (kt hc)
  · exact EV.go (fun p e R s m args below meth c H locs cells slots Q la hB hH ha k => lv_icmp_eq hB.1 hB.2.1 d ht (fun h => absurd h hc) (fun _ => k la ha)) (kf hc)
theorem EV.icmp_eqT {x y : Int32} {off : Int} (tgt : Nat) (d : decode M.2.1 pc = .ok (.if_icmp .eq off, 3)) (ht : (pc : Int) + off = (tgt : Int)) (hc : (x = y)) (kt : EV X M tgt ls rest w r w') : EV X M pc ls (.int y :: .int x :: rest) w r w' := EV.go (fun p e R s m args below meth c H locs cells slots Q la hB hH ha k => lv_icmp_eq hB.1 hB.2.1 d ht (fun _ => k la ha) (fun h => absurd hc h)) kt
theorem EV.icmp_eqF {x y : Int32} {off : Int} (d : decode M.2.1 pc = .ok (.if_icmp .eq off, 3)) (tgt : Nat) (ht : (pc : Int) + off = (tgt : Int)) (hc : ¬ (x = y)) (kf : EV X M (pc + 3) ls rest w r w') : EV X M pc ls (.int y :: .int x :: rest) w r w' := EV.go (fun p e R s m args below meth c H locs cells slots Q la hB hH ha k => lv_icmp_eq hB.1 hB.2.1 d ht (fun h => absurd h hc) (fun _ => k la ha)) kf
theorem EV.if_lt {x : Int32} {off : Int} (tgt : Nat) (d : decode M.2.1 pc = .ok (.ifCond .lt off, 3)) (ht : (pc : Int) + off = (tgt : Int)) (kt : (x < 0) → EV X M tgt ls rest w r w') (kf : ¬ (x < 0) → EV X M (pc + 3) ls rest w r w') : EV X M pc ls (.int x :: rest) w r w' := by
  by_cases hc : (x < 0)
  · exact EV.go (fun p e R s m args below meth c H locs cells slots Q la hB hH ha k => lv_if_lt hB.1 hB.2.1 d ht (fun _ => k la ha) (fun h => absurd hc h)) (kt hc)
  · exact EV.go (fun p e R s m args below meth c H locs cells slots Q la hB hH ha k => lv_if_lt hB.1 hB.2.1 d ht (fun h => absurd h hc) (fun _ => k la ha)) (kf hc)
theorem EV.if_ltT {x : Int32} {off : Int} (tgt : Nat) (d : decode M.2.1 pc = .ok (.ifCond .lt off, 3)) (ht : (pc : Int) + off = (tgt : Int)) (hc : (x < 0)) (kt : EV X M tgt ls rest w r w') : EV X M pc ls (.int x :: rest) w r w' := EV.go (fun p e R s m args below meth c H locs cells slots Q la hB hH ha k => lv_if_lt hB.1 hB.2.1 d ht (fun _ => k la ha) (fun h => absurd hc h)) kt
theorem EV.if_ltF {x : Int32} {off : Int} (d : decode M.2.1 pc = .ok (.ifCond .lt off, 3)) (tgt : Nat) (ht : (pc : Int) + off = (tgt : Int)) (hc : ¬ (x < 0)) (kf : EV X M (pc + 3) ls rest w r w') : EV X M pc ls (.int x :: rest) w r w' := EV.go (fun p e R s m args below meth c H locs cells slots Q la hB hH ha k => lv_if_lt hB.1 hB.2.1 d ht (fun h => absurd h hc) (fun _ => k la ha)) kf
theorem EV.icmp_lt {x y : Int32} {off : Int} (tgt : Nat) (d : decode M.2.1 pc = .ok (.if_icmp .lt off, 3)) (ht : (pc : Int) + off = (tgt : Int)) (kt : (x < y) → EV X M tgt ls rest w r w') (kf : ¬ (x < y) → EV X M (pc + 3) ls rest w r w') : EV X M pc ls (.int y :: .int x :: rest) w r w' := by
  by_cases hc : (x < y)
  · exact EV.go (fun p e R s m args below meth c H locs cells slots Q la hB hH ha k => lv_icmp_lt hB.1 hB.2.1 d ht (fun _ => k la ha) (fun h => absurd hc h)) (kt hc)
  · exact EV.go (fun p e R s m args below meth c H locs cells slots Q la hB hH ha k => lv_icmp_lt hB.1 hB.2.1 d ht (fun h => absurd h hc) (fun _ => k la ha)) (kf hc)
theorem EV.icmp_ltT {x y : Int32} {off : Int} (tgt : Nat) (d : decode M.2.1 pc = .ok (.if_icmp .lt off, 3)) (ht : (pc : Int) + off = (tgt : Int)) (hc : (x < y)) (kt : EV X M tgt ls rest w r w') : EV X M pc ls (.int y :: .int x :: rest) w r w' := EV.go (fun p e R s m args below meth c H locs cells slots Q la hB hH ha k => lv_icmp_lt hB.1 hB.2.1 d ht (fun _ => k la ha) (fun h => absurd hc h)) kt
theorem EV.icmp_ltF {x y : Int32} {off : Int} (d : decode M.2.1 pc = .ok (.if_icmp .lt off, 3)) (tgt : Nat) (ht : (pc : Int) + off = (tgt : Int)) (hc : ¬ (x < y)) (kf : EV X M (pc + 3) ls rest w r w') : EV X M pc ls (.int y :: .int x :: rest) w r w' := EV.go (fun p e R s m args below meth c H locs cells slots Q la hB hH ha k => lv_icmp_lt hB.1 hB.2.1 d ht (fun h => absurd h hc) (fun _ => k la ha)) kf
theorem EV.if_ge {x : Int32} {off : Int} (tgt : Nat) (d : decode M.2.1 pc = .ok (.ifCond .ge off, 3)) (ht : (pc : Int) + off = (tgt : Int)) (kt : (0 ≤ x) → EV X M tgt ls rest w r w') (kf : ¬ (0 ≤ x) → EV X M (pc + 3) ls rest w r w') : EV X M pc ls (.int x :: rest) w r w' := by
  by_cases hc : (0 ≤ x)
  · exact EV.go (fun p e R s m args below meth c H locs cells slots Q la hB hH ha k => lv_if_ge hB.1 hB.2.1 d ht (fun _ => k la ha) (fun h => absurd hc h)) (kt hc)
  · exact EV.go (fun p e R s m args below meth c H locs cells slots Q la hB hH ha k => lv_if_ge hB.1 hB.2.1 d ht (fun h => absurd h hc) (fun _ => k la ha)) (kf hc)
theorem EV.if_geT {x : Int32} {off : Int} (tgt : Nat) (d : decode M.2.1 pc = .ok (.ifCond .ge off, 3)) (ht : (pc : Int) + off = (tgt : Int)) (hc : (0 ≤ x)) (kt : EV X M tgt ls rest w r w') : EV X M pc ls (.int x :: rest) w r w' := EV.go (fun p e R s m args below meth c H locs cells slots Q la hB hH ha k => lv_if_ge hB.1 hB.2.1 d ht (fun _ => k la ha) (fun h => absurd hc h)) kt
theorem EV.if_geF {x : Int32} {off : Int} (d : decode M.2.1 pc = .ok (.ifCond .ge off, 3)) (tgt : Nat) (ht : (pc : Int) + off = (tgt : Int)) (hc : ¬ (0 ≤ x)) (kf : EV X M (pc + 3) ls rest w r w') : EV X M pc ls (.int x :: rest) w r w' := EV.go (fun p e R s m args below meth c H locs cells slots Q la hB hH ha k => lv_if_ge hB.1 hB.2.1 d ht (fun h => absurd h hc) (fun _ => k la ha)) kf
theorem EV.icmp_ge {x y : Int32} {off : Int} (tgt : Nat) (d : decode M.2.1 pc = .ok (.if_icmp .ge off, 3)) (ht : (pc : Int) + off = (tgt : Int)) (kt : (y ≤ x) → EV X M tgt ls rest w r w') (kf : ¬ (y ≤ x) → EV X M (pc + 3) ls rest w r w') : EV X M pc ls (.int y :: .int x :: rest) w r w' := by
  by_cases hc : (y ≤ x)
  · exact EV.go (fun p e R s m args below meth c H locs cells slots Q la hB hH ha k => lv_icmp_ge hB.1 hB.2.1 d ht (fun _ => k la ha) (fun h => absurd hc h)) (kt hc)
  · exact EV.go (fun p e R s m args below meth c H locs cells slots Q la hB hH ha k => lv_icmp_ge hB.1 hB.2.1 d ht (fun h => absurd h hc) (fun _ => k la ha)) (kf hc)
theorem EV.icmp_geT {x y : Int32} {off : Int} (tgt : Nat) (d : decode M.2.1 pc = .ok (.if_icmp .ge off, 3)) (ht : (pc : Int) + off = (tgt : Int)) (hc : (y ≤ x)) (kt : EV X M tgt ls rest w r w') : EV X M pc ls (.int y :: .int x :: rest) w r w' := EV.go (fun p e R s m args below meth c H locs cells slots Q la hB hH ha k => lv_icmp_ge hB.1 hB.2.1 d ht (fun _ => k la ha) (fun h => absurd hc h)) kt
theorem EV.icmp_geF {x y : Int32} {off : Int} (d : decode M.2.1 pc = .ok (.if_icmp .ge off, 3)) (tgt : Nat) (ht : (pc : Int) + off = (tgt : Int)) (hc : ¬ (y ≤ x)) (kf : EV X M (pc + 3) ls rest w r w') : EV X M pc ls (.int y :: .int x :: rest) w r w' := EV.go (fun p e R s m args below meth c H locs cells slots Q la hB hH ha k => lv_icmp_ge hB.1 hB.2.1 d ht (fun h => absurd h hc) (fun _ => k la ha)) kf
theorem EV.if_gt {x : Int32} {off : Int} (tgt : Nat) (d : decode M.2.1 pc = .ok (.ifCond .gt off, 3)) (ht : (pc : Int) + off = (tgt : Int)) (kt : (0 < x) → EV X M tgt ls rest w r w') (kf : ¬ (0 < x) → EV X M (pc + 3) ls rest w r w') : EV X M pc ls (.int x :: rest) w r w' := by
  by_cases hc : (0 < x)
  · exact EV.go (fun p e R s m args below meth c H locs cells slots Q la hB hH ha k => lv_if_gt hB.1 hB.2.1 d ht (fun _ => k la ha) (fun h => absurd hc h)) (kt hc)
  · exact EV.go (fun p e R s m args below meth c H locs cells slots Q la hB hH ha k => lv_if_gt hB.1 hB.2.1 d ht (fun h => absurd h hc) (fun _ => k la ha)) (kf hc)
theorem EV.if_gtT {x : Int32} {off : Int} (tgt : Nat) (d : decode M.2.1 pc = .ok (.ifCond .gt off, 3)) (ht : (pc : Int) + off = (tgt : Int)) (hc : (0 < x)) (kt : EV X M tgt ls rest w r w') : EV X M pc ls (.int x :: rest) w r w' := EV.go (fun p e R s m args below meth c H locs cells slots Q la hB hH ha k => lv_if_gt hB.1 hB.2.1 d ht (fun _ => k la ha) (fun h => absurd hc h)) kt
theorem EV.if_gtF {x : Int32} {off : Int} (d : decode M.2.1 pc = .ok (.ifCond .gt off, 3)) (tgt : Nat) (ht : (pc : Int) + off = (tgt : Int)) (hc : ¬ (0 < x)) (kf : EV X M (pc + 3) ls rest w r w') : EV X M pc ls (.int x :: rest) w r w' := EV.go (fun p e R s m args below meth c H locs cells slots Q la hB hH ha k => lv_if_gt hB.1 hB.2.1 d ht (fun h => absurd h hc) (fun _ => k la ha)) kf
theorem EV.icmp_gt {x y : Int32} {off : Int} (tgt : Nat) (d : decode M.2.1 pc = .ok (.if_icmp .gt off, 3)) (ht : (pc : Int) + off = (tgt : Int)) (kt : (y < x) → EV X M tgt ls rest w r w') (kf : ¬ (y < x) → EV X M (pc + 3) ls rest w r w') : EV X M pc ls (.int y :: .int x :: rest) w r w' := by
  by_cases hc : (y < x)
  · exact EV.go (fun p e R s m args below meth c H locs cells slots Q la hB hH ha k => lv_icmp_gt hB.1 hB.2.1 d ht (fun _ => k la ha) (fun h => absurd hc h)) (kt hc)
  · exact EV.go (fun p e R s m args below meth c H locs cells slots Q la hB hH ha k => lv_icmp_gt hB.1 hB.2.1 d ht (fun h => absurd h hc) (fun _ => k la ha)) (kf hc)
theorem EV.icmp_gtT {x y : Int32} {off : Int} (tgt : Nat) (d : decode M.2.1 pc = .ok (.if_icmp .gt off, 3)) (ht : (pc : Int) + off = (tgt : Int)) (hc : (y < x)) (kt : EV X M tgt ls rest w r w') : EV X M pc ls (.int y :: .int x :: rest) w r w' := EV.go (fun p e R s m args below meth c H locs cells slots Q la hB hH ha k => lv_icmp_gt hB.1 hB.2.1 d ht (fun _ => k la ha) (fun h => absurd hc h)) kt
theorem EV.icmp_gtF {x y : Int32} {off : Int} (d : decode M.2.1 pc = .ok (.if_icmp .gt off, 3)) (tgt : Nat) (ht : (pc : Int) + off = (tgt : Int)) (hc : ¬ (y < x)) (kf : EV X M (pc + 3) ls rest w r w') : EV X M pc ls (.int y :: .int x :: rest) w r w' := EV.go (fun p e R s m args below meth c H locs cells slots Q la hB hH ha k => lv_icmp_gt hB.1 hB.2.1 d ht (fun h => absurd h hc) (fun _ => k la ha)) kf
theorem EV.if_le {x : Int32} {off : Int} (tgt : Nat) (d : decode M.2.1 pc = .ok (.ifCond .le off, 3)) (ht : (pc : Int) + off = (tgt : Int)) (kt : (x ≤ 0) → EV X M tgt ls rest w r w') (kf : ¬ (x ≤ 0) → EV X M (pc + 3) ls rest w r w') : EV X M pc ls (.int x :: rest) w r w' := by
  by_cases hc : (x ≤ 0)
  · exact EV.go (fun p e R s m args below meth c H locs cells slots Q la hB hH ha k => lv_if_le hB.1 hB.2.1 d ht (fun _ => k la ha) (fun h => absurd hc h)) (kt hc)
  · exact EV.go (fun p e R s m args below meth c H locs cells slots Q la hB hH ha k => lv_if_le hB.1 hB.2.1 d ht (fun h => absurd h hc) (fun _ => k la ha)) (kf hc)
theorem EV.if_leT {x : Int32} {off : Int} (tgt : Nat) (d : decode M.2.1 pc = .ok (.ifCond .le off, 3)) (ht : (pc : Int) + off = (tgt : Int)) (hc : (x ≤ 0)) (kt : EV X M tgt ls rest w r w') : EV X M pc ls (.int x :: rest) w r w' := EV.go (fun p e R s m args below meth c H locs cells slots Q la hB hH ha k => lv_if_le hB.1 hB.2.1 d ht (fun _ => k la ha) (fun h => absurd hc h)) kt
theorem EV.if_leF {x : Int32} {off : Int} (d : decode M.2.1 pc = .ok (.ifCond .le off, 3)) (tgt : Nat) (ht : (pc : Int) + off = (tgt : Int)) (hc : ¬ (x ≤ 0)) (kf : EV X M (pc + 3) ls rest w r w') : EV X M pc ls (.int x :: rest) w r w' := EV.go (fun p e R s m args below meth c H locs cells slots Q la hB hH ha k => lv_if_le hB.1 hB.2.1 d ht (fun h => absurd h hc) (fun _ => k la ha)) kf
theorem EV.icmp_le {x y : Int32} {off : Int} (tgt : Nat) (d : decode M.2.1 pc = .ok (.if_icmp .le off, 3)) (ht : (pc : Int) + off = (tgt : Int)) (kt : (x ≤ y) → EV X M tgt ls rest w r w') (kf : ¬ (x ≤ y) → EV X M (pc + 3) ls rest w r w') : EV X M pc ls (.int y :: .int x :: rest) w r w' := by
  by_cases hc : (x ≤ y)
  · exact EV.go (fun p e R s m args below meth c H locs cells slots Q la hB hH ha k => lv_icmp_le hB.1 hB.2.1 d ht (fun _ => k la ha) (fun h => absurd hc h)) (kt hc)
  · exact EV.go (fun p e R s m args below meth c H locs cells slots Q la hB hH ha k => lv_icmp_le hB.1 hB.2.1 d ht (fun h => absurd h hc) (fun _ => k la ha)) (kf hc)
theorem EV.icmp_leT {x y : Int32} {off : Int} (tgt : Nat) (d : decode M.2.1 pc = .ok (.if_icmp .le off, 3)) (ht : (pc : Int) + off = (tgt : Int)) (hc : (x ≤ y)) (kt : EV X M tgt ls rest w r w') : EV X M pc ls (.int y :: .int x :: rest) w r w' := EV.go (fun p e R s m args below meth c H locs cells slots Q la hB hH ha k => lv_icmp_le hB.1 hB.2.1 d ht (fun _ => k la ha) (fun h => absurd hc h)) kt
theorem EV.icmp_leF {x y : Int32} {off : Int} (d : decode M.2.1 pc = .ok (.if_icmp .le off, 3)) (tgt : Nat) (ht : (pc : Int) + off = (tgt : Int)) (hc : ¬ (x ≤ y)) (kf : EV X M (pc + 3) ls rest w r w') : EV X M pc ls (.int y :: .int x :: rest) w r w' := EV.go (fun p e R s m args below meth c H locs cells slots Q la hB hH ha k => lv_icmp_le hB.1 hB.2.1 d ht (fun h => absurd h hc) (fun _ => k la ha)) kf
theorem EV.tableIn {dflt lo hi : Int} {offs : Array Int} {len : Nat} {x : Int32} {off : Int} (tgt : Nat) (d : decode M.2.1 pc = .ok (.tableswitch dflt lo hi offs, len)) (h1 : ¬ x.toInt < lo) (h2 : ¬ hi < x.toInt) (ho : offs[(x.toInt - lo).toNat]? = some off) (ht : (pc : Int) + off = (tgt : Int)) (h : EV X M tgt ls rest w r w') : EV X M pc ls (.int x :: rest) w r w' :=
  EV.go (fun p e R s m args below meth c H locs cells slots Q la hB hH ha k => lv_tableIn hB.1 hB.2.1 d h1 h2 ho ht (k la ha)) h
theorem EV.tableOut {dflt lo hi : Int} {offs : Array Int} {len : Nat} {x : Int32} (tgt : Nat) (d : decode M.2.1 pc = .ok (.tableswitch dflt lo hi offs, len)) (h0 : x.toInt < lo ∨ hi < x.toInt) (ht : (pc : Int) + dflt = (tgt : Int)) (h : EV X M tgt ls rest w r w') : EV X M pc ls (.int x :: rest) w r w' :=
  EV.go (fun p e R s m args below meth c H locs cells slots Q la hB hH ha k => lv_tableOut hB.1 hB.2.1 d h0 ht (k la ha)) h
theorem EV.lookup {dflt : Int} {ps : Array (Int × Int)} {len : Nat} {x : Int32} {off : Int} (tgt : Nat) (d : decode M.2.1 pc = .ok (.lookupswitch dflt ps, len)) (hp : (ps.toList.zip (ps.toList.drop 1)).all (fun (a, next) => a.1 < next.1) = true) (ho : Op.lookupswitch.offset ps.toList dflt x.toInt = off) (ht : (pc : Int) + off = (tgt : Int)) (h : EV X M tgt ls rest w r w') : EV X M pc ls (.int x :: rest) w r w' :=
  EV.go (fun p e R s m args below meth c H locs cells slots Q la hB hH ha k => lv_lookup hB.1 hB.2.1 d hp ho ht (k la ha)) h
theorem EV.ldc {idx : Nat} {v : Int32} (d : decode M.2.1 pc = .ok (.ldc idx, 2)) (hw : Cond.constant M.1.cls idx v ∈ lw_tbl) (h : EV X M (pc + 2) ls (.int v :: rest) w r w') : EV X M pc ls rest w r w' :=
  EV.go (fun p e R s m args below meth c H locs cells slots Q la hB hH ha k => lv_ldc hB.1 hB.2.1 hB.2.2.2.1 (hB.2.2.2.2.1 _ (px_lgi hw rfl)) d (k la ha)) h
theorem EV.ldcw {idx : Nat} {v : Int32} (d : decode M.2.1 pc = .ok (.ldc_w idx, 3)) (hw : Cond.constant M.1.cls idx v ∈ lw_tbl) (h : EV X M (pc + 3) ls (.int v :: rest) w r w') : EV X M pc ls rest w r w' :=
  EV.go (fun p e R s m args below meth c H locs cells slots Q la hB hH ha k => lv_ldcw hB.1 hB.2.1 hB.2.2.2.1 (hB.2.2.2.2.1 _ (px_lgi hw rfl)) d (k la ha)) h
theorem EV.ldc2 {idx : Nat} {v : Int64} (d : decode M.2.1 pc = .ok (.ldc2_w idx, 3)) (hw : Cond.constantLong M.1.cls idx v ∈ lw_tbl) (h : EV X M (pc + 3) ls (.long v :: rest) w r w') : EV X M pc ls rest w r w' :=
  EV.go (fun p e R s m args below meth c H locs cells slots Q la hB hH ha k => lv_ldc2 hB.1 hB.2.1 hB.2.2.2.1 (hB.2.2.2.2.1 _ (px_lgi hw rfl)) d (k la ha)) h
end EVR
