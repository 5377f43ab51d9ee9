/-! THE CLAIM OUT OF ONE WALK OF THE LAW'S BODY. Your part is whole_start (and what it stands on); all else here is the same for every law, but numbers. -/
def R_law : String := "WavePicturesLaw"
def lw_P (b : Addr) (xs : List Int32) (args : Array Value) (s : State) : Prop := args = #[.ref b] ∧ s.IntsAt b xs ∧ xs.length ≤ 3072 ∧ (Jvm.Cond.and given_1 narrow_1).before args s = true
def lw_Q (_ : Array Value) (s : State) (o : Outcome) (t : State) : Prop := o = .returned (some (.int 1)) ∧ Framed s o t [] 600000 7302249
def lw_Z (below : List Frame) (a : Array Value) (s : State) : State → Prop := fun t => ∃ o, t.status = .running ∧ Ended t below o ∧ lw_Q a s o t
/-- the law's own end, with 1 on the stack, nothing written that was there before, its room as the claim has it -/
theorem lw_ret {p : Program} {l : Launch} {e : Env} {s : State} {m : MethodId} {below : List Frame} {meth : Method} {c : Code} {b : Nat} (hx : p.tables.exec = Jvm.exec) (hb : c.code = code) (hr : meth.sig.returnType = ret) (hlocks : meth.locks = false) {pc : Nat} {H : Heap} {ls : Array Slot} (hdg : decode code pc = .ok (.ireturn, 1)) : W p l e room_1 s m #[Value.ref b] below meth c H [] 600000 7302249 (lw_Z below #[Value.ref b] s) (F0 m pc ls [.int 1]) := by
  intro T hT X
  obtain ⟨fs, hret, hrun, hended, hW, hframe⟩ := X.leave (v := some (.int 1)) (hlocks := hlocks) (fun h => by rw [hr] at h; cases h)
  have hmeth' : T.vm.method? m = some meth := X.method'
  refine ⟨T.setFrames fs, ?_, .returned (some (.int 1)), hrun, hended, rfl, ⟨_, rfl⟩, hW, hframe⟩
  jvm_step X.here [X.here.top, hx, hb, hdg, hmeth', hr, ret, narrow_b1]
  (try refine ⟨rfl, ?_⟩); (try refine ⟨rfl, ?_⟩)
  first | (intro acts; rw [hret _ acts rfl rfl rfl]) | rw [hret _ _ rfl rfl rfl]
  exact Steps.refl _
/-- what holds at the law's entry: the machine, the code, the tables' words (any of lw_tbl by 'hts w (by decide +kernel)'), the script of L ints xs at the cell b, what the Statement gives of the start (any of its parts by flat_of_before) -/
def lw_At (p : Program) (s : State) (m : MethodId) (meth : Method) (c : Code) (b L : Nat) (xs : Nat → Int32) : Prop :=
  p.tables.exec = Jvm.exec ∧ c.code = code ∧ meth.sig.returnType = ret ∧ c.maxLocals = 4 ∧ s.vm.findClass R_law = some m.cls ∧ (∀ w ∈ lw_tbl, w.before #[Value.ref b] s = true) ∧ va_X b L xs s s.heap ∧ b < s.heap.size ∧ meth.locks = false ∧ (Jvm.Cond.and given_1 narrow_1).before #[Value.ref b] s = true
/-! FROM THE START TO THE PURE MACHINE -/
theorem px_insA : ∀ (ci : Nat) (q : vw_C), vwCl[ci]? = some q → Cond.instantiable q.1 q.2.2 ∈ tables_1 := fun ci q h => match ci, q, h with
  | 0, q, h => by cases h; exact tT2 (List.mem_of_getElem? (i := 171) rfl)
  | 1, q, h => by cases h; exact tT1 (List.mem_of_getElem? (i := 30) rfl)
  | 2, q, h => by cases h; exact tT1 (List.mem_of_getElem? (i := 51) rfl)
  | 3, q, h => by cases h; exact tT1 (List.mem_of_getElem? (i := 131) rfl)
  | 4, q, h => by cases h; exact tT2 (List.mem_of_getElem? (i := 162) rfl)
  | 5, q, h => by cases h; exact tT1 (List.mem_of_getElem? (i := 179) rfl)
  | 6, q, h => by cases h; exact tT2 (List.mem_of_getElem? (i := 126) rfl)
  | 7, q, h => by cases h; exact tT2 (List.mem_of_getElem? (i := 214) rfl)
  | 8, q, h => by cases h; exact tT1 (List.mem_of_getElem? (i := 173) rfl)
  | 9, q, h => by cases h; exact tT1 (List.mem_of_getElem? (i := 151) rfl)
  | 10, q, h => by cases h; exact tT2 (List.mem_of_getElem? (i := 30) rfl)
  | 11, q, h => by cases h; exact tT1 (List.mem_of_getElem? (i := 22) rfl)
  | 12, q, h => by cases h; exact tT7 (List.mem_of_getElem? (i := 163) rfl)
  | 13, q, h => by cases h; exact tT7 (List.mem_of_getElem? (i := 4) rfl)
  | 14, q, h => by cases h; exact tT6 (List.mem_of_getElem? (i := 93) rfl)
  | 15, q, h => by cases h; exact tT6 (List.mem_of_getElem? (i := 87) rfl)
  | n + 16, q, h => by simp [vwCl] at h
theorem px_sK {args : Array Value} {s : State} (hts : ∀ w ∈ lw_tbl, w.before args s = true) : ∃ D : va_G, va_K D vwCl [] s := by
  have h : ∀ ci : Nat, ∃ P : ClassId × (Nat → Nat), ∀ q : vw_C, vwCl[ci]? = some q → u_Kn s q.1 q.2.1 q.2.2 P.1 P.2 := by
    intro ci
    cases hq : vwCl[ci]? with
    | none => exact ⟨(0, fun _ => 0), fun q h => by cases h⟩
    | some q =>
      obtain ⟨c, iS, hK⟩ := u_known (C := q.1) (T := q.2.1) (N := q.2.2) (n := q.2.2) hts (fun w hw => by
        obtain ⟨k, hk, rfl⟩ := List.mem_map.mp hw
        exact px_lgt (px_layA ci q hq k (List.mem_range.mp hk))) (hts _ (px_lgt (px_insA ci q hq)))
      exact ⟨(c, iS), fun q' h => by cases h; exact hK⟩
  obtain ⟨P, hP⟩ := Classical.axiomOfChoice h
  exact ⟨(fun ci => (P ci).1, fun ci => (P ci).2), fun ci q hq => hP ci q hq, fun k q h => by simp at h⟩
theorem px_sA {args : Array Value} {s : State} (hts : ∀ w ∈ lw_tbl, w.before args s = true) : ∃ cA : Nat → ClassId, ∀ (t : Nat) (ty : FieldType), px_ty[t]? = some ty → ArrOfT s (cA t) ty ∧ va_RA s (cA t) ty := by
  have prim : ∀ ty : FieldType, Cond.arrayClass ty ∈ tables_1 → ∃ c, ArrOfT s c ty ∧ s.vm.findClass ("[" ++ ty.toString) = some c := by
    intro ty h
    obtain ⟨c, k, comp, h1, h2, h3⟩ := Cond.arrayClass_spec (hts _ (px_lgt h))
    exact ⟨c, fun n z => ⟨fun k h => (by cases h), k, h2, comp, h3⟩, h1⟩
  have obj : ∀ C : String, Cond.arrayOver (.object C) ∈ tables_1 → ∃ c, ArrOfT s c (.object C) ∧ va_RA s c (.object C) := by
    intro C h
    obtain ⟨comp, c, k, h1, -, h2, h3, h4⟩ := Cond.arrayOver_spec (hts _ (px_lgt h))
    exact ⟨c, fun n z => ⟨fun k h => (by cases h), k, h2, comp, h3⟩, k, comp, h2, h3, h1, h4⟩
  have h : ∀ t : Nat, ∃ c : ClassId, ∀ ty : FieldType, px_ty[t]? = some ty → ArrOfT s c ty ∧ va_RA s c ty := by
    intro t
    match t with
    | 0 => obtain ⟨c, h1, h2⟩ := prim .int (px_acT _ List.mem_cons_self); exact ⟨c, fun ty h => by cases h; exact ⟨h1, h2⟩⟩
    | 1 => obtain ⟨c, h1, h2⟩ := prim .byte (px_acT _ (by decide)); exact ⟨c, fun ty h => by cases h; exact ⟨h1, h2⟩⟩
    | 2 => obtain ⟨c, h1, h2⟩ := prim .short (px_acT _ (by decide)); exact ⟨c, fun ty h => by cases h; exact ⟨h1, h2⟩⟩
    | 3 => obtain ⟨c, h1, h2⟩ := prim .long (px_acT _ (by decide)); exact ⟨c, fun ty h => by cases h; exact ⟨h1, h2⟩⟩
    | 4 => obtain ⟨c, h1, h2⟩ := prim .boolean (px_acT _ (by decide)); exact ⟨c, fun ty h => by cases h; exact ⟨h1, h2⟩⟩
    | 5 => obtain ⟨c, h1⟩ := obj "WavePictures$BestTable" (tT2 (List.mem_of_getElem? (i := 170) rfl)); exact ⟨c, fun ty h => by cases h; exact h1⟩
    | 6 => obtain ⟨c, h1⟩ := obj "WavePictures$Plane" (tT1 (List.mem_of_getElem? (i := 130) rfl)); exact ⟨c, fun ty h => by cases h; exact h1⟩
    | 7 => obtain ⟨c, h1⟩ := obj "WavePictures$Words" (tT2 (List.mem_of_getElem? (i := 29) rfl)); exact ⟨c, fun ty h => by cases h; exact h1⟩
    | t + 8 => exact ⟨0, fun ty h => by simp [px_ty] at h⟩
  obtain ⟨cA, h2⟩ := Classical.axiomOfChoice h
  exact ⟨cA, h2⟩
theorem va_T_one {U : State} {H : Heap} {A A' : Nat → Prop} {a n n' : Nat} {f f' : Nat → Int32} (hn : n < 2 ^ 31) (hn' : n' < 2 ^ 31) (h : va_T .int a n (fun j => .int (f j)) A U H) (h' : va_T .int a n' (fun j => .int (f' j)) A' U H) : n = n' ∧ ∀ j, j < n → f j = f' j := by
  obtain ⟨cell, h1, h2, h3, h4, h5, h6, h7⟩ := h
  obtain ⟨cell', g1, g2, g3, g4, g5, g6, g7⟩ := h'
  cases h1.symm.trans g1
  have e : n = n' := (nI_eq hn hn').mp (h5.symm.trans g5)
  subst e
  refine ⟨rfl, fun j hj => ?_⟩
  have := (h6 j hj).symm.trans (g6 j hj)
  simpa using this
theorem px_sZ {args : Array Value} {s : State} (hts : ∀ w ∈ lw_tbl, w.before args s = true) (hgv : (Jvm.Cond.and given_1 narrow_1).before args s = true) : ∃ z : Nat → Nat, (∀ (k : Nat) (nm : String), px_sn[k]? = some nm → va_Z "WavePictures" nm "[I" (.ref (z k)) (fun q => s.heap.size ≤ q) s s.heap) ∧ (∀ (k : Nat) (l : List Int32), px_sc[k]? = some l → va_T .int (z k) l.length (fun j => .int (l.getD j 0)) (fun q => s.heap.size ≤ q) s s.heap) := by
  have hs := flat_of_before _ hgv
  have hA : ∀ a : Nat, a < s.heap.size → ¬ s.heap.size ≤ a := fun a h => Nat.not_le.mpr h
  have key : ∀ (nm : String) (l : List Int32), l.length < 2 ^ 31 → Cond.arrayOf (.static "WavePictures" nm "[I") .int ∈ flatC (Jvm.Cond.and given_1 narrow_1) → Cond.eq (.length (.static "WavePictures" nm "[I")) (.int (Int32.ofNat l.length)) ∈ flatC (Jvm.Cond.and given_1 narrow_1) → ((List.range l.length).all fun j => decide (Cond.eq (.elem (.static "WavePictures" nm "[I") (.int (Int32.ofNat j))) (.int (l.getD j 0)) ∈ flatC (Jvm.Cond.and given_1 narrow_1))) = true → Cond.laysStatic "WavePictures" nm "[I" ∈ lw_tbl → Cond.initialized "WavePictures" ∈ lw_tbl →
      ∃ t : Nat, va_Z "WavePictures" nm "[I" (.ref t) (fun q => s.heap.size ≤ q) s s.heap ∧ va_T .int t l.length (fun j => .int (l.getD j 0)) (fun q => s.heap.size ≤ q) s s.heap := by
    intro nm l h0 h1 h2 h3 h4 h5
    obtain ⟨t, ht, hT⟩ := va_Tof (f := fun j => .int (l.getD j 0)) (A := fun q => s.heap.size ≤ q) h0 (hs _ h1) (va_eqt (hs _ h2)) (fun j hj => va_eqt (hs _ (of_decide_eq_true (List.all_eq_true.mp h3 j (List.mem_range.mpr hj))))) hA
    exact ⟨t, va_Zof (hts _ h4) (hts _ h5) ht hA, hT⟩
  have h : ∀ k : Nat, ∃ t : Nat, (∀ nm : String, px_sn[k]? = some nm → va_Z "WavePictures" nm "[I" (.ref t) (fun q => s.heap.size ≤ q) s s.heap) ∧ (∀ l : List Int32, px_sc[k]? = some l → va_T .int t l.length (fun j => .int (l.getD j 0)) (fun q => s.heap.size ≤ q) s s.heap) := by
    intro k
    match k with
    | 0 => obtain ⟨t, h1, h2⟩ := key "K" sc_K (by decide) (by decide +kernel) (by decide +kernel) (by decide +kernel) (tb1 (List.mem_of_getElem? (i := 157) rfl)) (tb1 (List.mem_of_getElem? (i := 1) rfl)); exact ⟨t, fun nm h => by cases h; exact h1, fun l h => by cases h; exact h2⟩
    | 1 => obtain ⟨t, h1, h2⟩ := key "SCRIPT_TOGETHER" sc_SCRIPT_TOGETHER (by decide) (by decide +kernel) (by decide +kernel) (by decide +kernel) (tb4 (List.mem_of_getElem? (i := 177) rfl)) (tb1 (List.mem_of_getElem? (i := 1) rfl)); exact ⟨t, fun nm h => by cases h; exact h1, fun l h => by cases h; exact h2⟩
    | 2 => obtain ⟨t, h1, h2⟩ := key "SCRIPT_ONE_BY_ONE" sc_SCRIPT_ONE_BY_ONE (by decide) (by decide +kernel) (by decide +kernel) (by decide +kernel) (tb4 (List.mem_of_getElem? (i := 179) rfl)) (tb1 (List.mem_of_getElem? (i := 1) rfl)); exact ⟨t, fun nm h => by cases h; exact h1, fun l h => by cases h; exact h2⟩
    | 3 => obtain ⟨t, h1, h2⟩ := key "SCRIPT_PROGRESSIVE" sc_SCRIPT_PROGRESSIVE (by decide) (by decide +kernel) (by decide +kernel) (by decide +kernel) (tb4 (List.mem_of_getElem? (i := 181) rfl)) (tb1 (List.mem_of_getElem? (i := 1) rfl)); exact ⟨t, fun nm h => by cases h; exact h1, fun l h => by cases h; exact h2⟩
    | 4 => obtain ⟨t, h1, h2⟩ := key "ZIGZAG" sc_ZIGZAG (by decide) (by decide +kernel) (by decide +kernel) (by decide +kernel) (tb5 (List.mem_of_getElem? (i := 116) rfl)) (tb1 (List.mem_of_getElem? (i := 1) rfl)); exact ⟨t, fun nm h => by cases h; exact h1, fun l h => by cases h; exact h2⟩
    | 5 => obtain ⟨t, h1, h2⟩ := key "TRANSPOSED" sc_TRANSPOSED (by decide) (by decide +kernel) (by decide +kernel) (by decide +kernel) (tb5 (List.mem_of_getElem? (i := 203) rfl)) (tb1 (List.mem_of_getElem? (i := 1) rfl)); exact ⟨t, fun nm h => by cases h; exact h1, fun l h => by cases h; exact h2⟩
    | k + 6 => exact ⟨0, fun nm h => by simp [px_sn] at h, fun l h => by simp [px_sc] at h⟩
  obtain ⟨z, hz⟩ := Classical.axiomOfChoice h
  exact ⟨z, fun k nm hk => (hz k).1 nm hk, fun k l hk => (hz k).2 l hk⟩
set_option maxHeartbeats 4000000 in
set_option maxRecDepth 100000 in
theorem px_whole (hO : px_owed) {p : Program} {e : Env} {s : State} {m : MethodId} {below : List Frame} {meth : Method} {c : Code} (l : Launch) {b L : Nat} {xs : Nat → Int32} (hL : L ≤ 3072) (C0 : lw_At p s m meth c b L xs) : W p l e room_1 s m #[Value.ref b] below meth c s.heap [] 0 0 (lw_Z below #[Value.ref b] s) (entryFrame m ([Value.ref b] : List Value).toArray 4) := by
  obtain ⟨hx, hb, hr, hml, hown, hts, hX, hbl, hlocks, hgv⟩ := id C0
  obtain ⟨D, hD⟩ := px_sK hts
  obtain ⟨cA, hcA⟩ := px_sA hts
  obtain ⟨z, hz1, hz2⟩ := px_sZ hts hgv
  obtain ⟨scr, g1, g2, g3, g4, g5⟩ := hX
  have hT : va_T .int b L (fun j => .int (xs j)) (fun q => s.heap.size ≤ q) s s.heap := ⟨scr, g1, g2, g3, Nat.le_of_eq g4.symm, by rw [g4] <;> rfl, g5, Nat.not_le.mpr hbl⟩
  have ex : ∀ a : Nat, ∃ r : Option (Nat × (Nat → Int32)), (∀ (n : Nat) (f : Nat → Int32), r = some (n, f) → n < 2 ^ 31 ∧ va_T .int a n (fun j => .int (f j)) (fun q => s.heap.size ≤ q) s s.heap) ∧ ((∃ (n : Nat) (f : Nat → Int32), n < 2 ^ 31 ∧ va_T .int a n (fun j => .int (f j)) (fun q => s.heap.size ≤ q) s s.heap) → r ≠ none) := by
    intro a
    by_cases h : ∃ (n : Nat) (f : Nat → Int32), n < 2 ^ 31 ∧ va_T .int a n (fun j => .int (f j)) (fun q => s.heap.size ≤ q) s s.heap
    · obtain ⟨n, f, h1, h2⟩ := h
      exact ⟨some (n, f), fun n' f' h => by cases h; exact ⟨h1, h2⟩, fun _ h => by cases h⟩
    · exact ⟨none, fun n f h => (by cases h), fun h2 => absurd h2 h⟩
  obtain ⟨ro, hro⟩ := Classical.axiomOfChoice ex
  have find : ∀ (a n : Nat) (f : Nat → Int32), n < 2 ^ 31 → va_T .int a n (fun j => .int (f j)) (fun q => s.heap.size ≤ q) s s.heap → ∃ f', ro a = some (n, f') ∧ ∀ j, j < n → f' j = f j := by
    intro a n f hn hT
    cases hr : ro a with
    | none => exact absurd hr ((hro a).2 ⟨n, f, hn, hT⟩)
    | some q =>
      obtain ⟨n', f'⟩ := q
      obtain ⟨hn', hT'⟩ := (hro a).1 n' f' hr
      obtain ⟨e1, e2⟩ := va_T_one hn hn' hT hT'
      subst e1
      exact ⟨f', rfl, fun j hj => (e2 j hj).symm⟩
  let X : px_X := (l, D, cA, s.heap.size, ro, z)
  obtain ⟨xs', hb1, -⟩ := find b L xs (by omega) hT
  have hst : px_st X := by
    intro k lst hk
    have hl : lst.length < 2 ^ 31 := by
      have : lst ∈ px_sc := List.mem_of_getElem? hk
      have h64 : ∀ l ∈ px_sc, l.length ≤ 64 := by decide
      have := h64 lst this
      omega
    exact find (z k) lst.length (fun j => lst.getD j 0) hl (hz2 k lst hk)
  obtain ⟨w', hf, hc, hsl⟩ := hO X b L xs' hL hst hb1
  have hE := eL_law hf
  have hK : px_K X s := ⟨hD, hcA, fun w hw hn => va_Nw.of (by cases w <;> first | rfl | (simp [px_isN] at hn; done)) (hts w (px_lgt hw)), fun C hC => va_AO.of (hts _ (px_lgt hC))⟩
  have hH : px_H X (fun _ => none, s.heap.size, 0) s s.heap := ⟨rfl, Nat.le_refl _, fun a e h => (by cases h), fun a n f h => ((hro a).1 n f h).2, fun k nm hk => hz1 k nm hk⟩
  have hl := lv_entry ([.ref b]) (n := 4) (Nat.le_of_ble_eq_true rfl)
  rw [lg_entry_eq]
  have hm1 := hE.1.2.1
  have hm2 := hE.1.2.2
  refine hE.2 p e room_1 s m #[Value.ref b] below meth c s.heap [] 0 0 _ _ ⟨hx, hb, hml, hown, fun w hw => hts w (List.mem_filter.mp hw).1, by decide, by decide, fun h => absurd h (by decide), hK⟩ ?_ ?_ hH (fun q hq => by cases hq) hl ?_
  · show 0 + (w'.2.1 - s.heap.size) ≤ 600000
    have : w'.2.1 ≤ s.heap.size + 600000 := hc
    omega
  · show 0 + (w'.2.2 - 0) ≤ 7302249
    omega
  · intro H' locs' la' pc' hH' hl' hrt
    refine va_forget (fun q hq => hl' q hq) ?_
    refine W.widen (k := 600000) (n := 7302249) ?_ ?_ ?_
    · show 0 + (w'.2.1 - s.heap.size) ≤ 600000
      have : w'.2.1 ≤ s.heap.size + 600000 := hc
      omega
    · show 0 + (w'.2.2 - 0) ≤ 7302249
      omega
    · exact lw_ret hx hb hr hlocks hrt
