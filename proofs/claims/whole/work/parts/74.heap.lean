/-! the tables of fields: every class' words are in lw_tbl, descriptors parse, names differ -/
theorem px_lay {ci : Nat} {q : vw_C} (hc : vwCl[ci]? = some q) : ∀ w ∈ u_ws q.1 q.2.1 q.2.2, w ∈ px_lg := by
  intro w hw
  obtain ⟨k, hk, rfl⟩ := List.mem_map.mp hw
  exact px_lgi (px_lgt (px_layA ci q hc k (List.mem_range.mp hk))) (px_layG _ _ _)
def px_fty (q : vw_C) (k : Nat) : FieldType := (parseFieldDescriptor (q.2.1 k).2.2.1).getD .int
theorem px_ftyT : vwCl.all (fun q => (List.range q.2.2).all (fun k => (parseFieldDescriptor (q.2.1 k).2.2.1).isSome)) = true := by decide +kernel
theorem px_fty_ok {ci : Nat} {q : vw_C} (hc : vwCl[ci]? = some q) : ∀ k, k < q.2.2 → parseFieldDescriptor (q.2.1 k).2.2.1 = some (px_fty q k) := by
  have h := List.all_eq_true.mp px_ftyT q (List.mem_of_getElem? hc)
  intro k hk
  have h2 := List.all_eq_true.mp h k (List.mem_range.mpr hk)
  obtain ⟨t, ht⟩ := Option.isSome_iff_exists.mp h2
  rw [px_fty, ht]; rfl
theorem px_nmT : vwCl.all (fun q => (List.range q.2.2).all (fun a => (List.range q.2.2).all (fun b => decide (a = b) || decide ((q.2.1 a).2.1 ≠ (q.2.1 b).2.1)))) = true := by decide +kernel
theorem px_nm {ci : Nat} {q : vw_C} (hc : vwCl[ci]? = some q) : ∀ a, a < q.2.2 → ∀ b, b < q.2.2 → a ≠ b → (q.2.1 a).2.1 ≠ (q.2.1 b).2.1 := by
  have h := List.all_eq_true.mp px_nmT q (List.mem_of_getElem? hc)
  intro a ha b hb hab
  have h2 := List.all_eq_true.mp (List.all_eq_true.mp h a (List.mem_range.mpr ha)) b (List.mem_range.mpr hb)
  simp only [Bool.or_eq_true, decide_eq_true_eq] at h2
  exact h2.resolve_left hab
/-- entry idx of own's pool is field k of class ci -/
def px_f (own : String) (idx ci k : Nat) : Prop := ∃ q : vw_C, vwCl[ci]? = some q ∧ k < q.2.2 ∧ (Cond.fieldLink own idx (q.2.1 k).1 (q.2.1 k).2.1 (q.2.1 k).2.2.1 ∈ lw_tbl ∨ ∃ host, Cond.fieldLinkNest own idx (q.2.1 k).1 (q.2.1 k).2.1 (q.2.1 k).2.2.1 host ∈ tables_1)
theorem px_sing {X : px_X} {w : px_W} {s : State} {H : Heap} {a : Nat} {e : px_C} (hH : px_H X w s H) (ha : w.1 a = some e) : va_P X.2.1 vwCl [(a, px_e X e)] H := by
  intro k q hk
  cases k with
  | zero => cases hk; exact (hH.2.2.1 a e ha).2
  | succ k => cases hk
theorem px_acT : ∀ ty ∈ ([.int, .byte, .short, .long, .boolean] : List FieldType), Cond.arrayClass ty ∈ tables_1 := by
  intro ty h
  simp only [List.mem_cons, List.not_mem_nil, or_false] at h
  rcases h with rfl | rfl | rfl | rfl | rfl
  · exact List.mem_of_getElem? (i := 128) (by decide +kernel)
  · exact List.mem_of_getElem? (i := 49) (by decide +kernel)
  · exact List.mem_of_getElem? (i := 1601) (by decide +kernel)
  · exact List.mem_of_getElem? (i := 171) (by decide +kernel)
  · exact List.mem_of_getElem? (i := 1442) (by decide +kernel)
section EVH
variable {X : px_X} {M : px_M} {pc : Nat} {ls : List (Nat × Value)} {st rest : List Value} {w : px_W} {r : Option Value} {w' : px_W}
/-- an instruction that may write or make cells -/
theorem EV.goW {pc' : Nat} {ls' : List (Nat × Value)} {st' : List Value} {w1 : px_W} (hle : w.2.1 ≤ w1.2.1 ∧ w.2.2 ≤ w1.2.2)
    (hW : ∀ (p : Program) (e : Env) (R : Room) (s : State) (m : MethodId) (args : Array Value) (below : List Frame) (meth : Method) (c : Code) (H : Heap) (locs : List Loc) (cells slots : Nat) (Q : State → Prop) (la : Array Slot),
      px_B X M p R s m args meth c → cells + (w1.2.1 - w.2.1) ≤ R.cells → slots + (w1.2.2 - w.2.2) ≤ R.slots → px_H X w s H → (∀ q ∈ locs, X.2.2.2.1 ≤ q.base) → lv_has la M.2.2.1 ls →
      (∀ (H' : Heap) (locs' : List Loc) (la' : Array Slot), px_H X w1 s H' → (∀ q ∈ locs', X.2.2.2.1 ≤ q.base) → lv_has la' M.2.2.1 ls' → W p X.1 e R s m args below meth c H' locs' (cells + (w1.2.1 - w.2.1)) (slots + (w1.2.2 - w.2.2)) Q (F0 m pc' la' st')) →
      W p X.1 e R s m args below meth c H locs cells slots Q (F0 m pc la st))
    (h : EV X M pc' ls' st' w1 r w') : EV X M pc ls st w r w' := by
  obtain ⟨⟨g0, g1, g2⟩, h⟩ := h
  refine ⟨⟨g0, Nat.le_trans hle.1 g1, Nat.le_trans hle.2 g2⟩, ?_⟩
  intro p e R s m args below meth c H locs cells slots Q la hB h1 h2 hH hl ha k
  obtain ⟨l1, l2⟩ := hle
  have e1 : cells + (w1.2.1 - w.2.1) + (w'.2.1 - w1.2.1) = cells + (w'.2.1 - w.2.1) := by omega
  have e2 : slots + (w1.2.2 - w.2.2) + (w'.2.2 - w1.2.2) = slots + (w'.2.2 - w.2.2) := by omega
  refine hW p e R s m args below meth c H locs cells slots Q la hB (by omega) (by omega) hH hl ha (fun H' locs' la' hH' hl' ha' => ?_)
  refine h p e R s m args below meth c H' locs' (cells + (w1.2.1 - w.2.1)) (slots + (w1.2.2 - w.2.2)) Q la' hB (by omega) (by omega) hH' hl' ha' ?_
  rw [e1, e2]
  exact k
/-- an instruction that writes one cell -/
theorem EV.goS {pc' : Nat} {st' : List Value} {a : Nat} {e1 : px_C}
    (hW : ∀ (p : Program) (e : Env) (R : Room) (s : State) (m : MethodId) (args : Array Value) (below : List Frame) (meth : Method) (c : Code) (H : Heap) (locs : List Loc) (cells slots : Nat) (Q : State → Prop) (la : Array Slot),
      px_B X M p R s m args meth c → px_H X w s H → (∀ q ∈ locs, X.2.2.2.1 ≤ q.base) → lv_has la M.2.2.1 ls →
      (∀ (H' : Heap) (locs' : List Loc), px_H X (px_set w a e1) s H' → (∀ q ∈ locs', X.2.2.2.1 ≤ q.base) → W p X.1 e R s m args below meth c H' locs' cells slots Q (F0 m pc' la st')) →
      W p X.1 e R s m args below meth c H locs cells slots Q (F0 m pc la st))
    (h : EV X M pc' ls st' (px_set w a e1) r w') : EV X M pc ls st w r w' := by
  refine EV.goW (w1 := px_set w a e1) ⟨Nat.le_refl _, Nat.le_refl _⟩ ?_ h
  intro p e R s m args below meth c H locs cells slots Q la hB h1 h2 hH hl ha k
  refine hW p e R s m args below meth c H locs cells slots Q la hB hH hl ha (fun H' locs' hH' hl' => ?_)
  have h3 := k H' locs' la hH' hl' ha
  rw [show (px_set w a e1).2.1 - w.2.1 = 0 from Nat.sub_self _, show (px_set w a e1).2.2 - w.2.2 = 0 from Nat.sub_self _] at h3
  exact h3
theorem px_locs {locs : List Loc} {b a k : Nat} (h : ∀ q ∈ locs, b ≤ q.base) (ha : b ≤ a) : ∀ q ∈ locs ++ [(⟨a, k⟩ : Loc)], b ≤ q.base := by
  intro q hq
  rcases List.mem_append.mp hq with h1 | h1
  · exact h q h1
  · rw [List.mem_singleton.mp h1]; exact ha
theorem EV.getf {idx a ci : Nat} {fs : List Value} (k : Nat) {v : Value} (d : decode M.2.1 pc = .ok (.getfield idx, 3)) (hf : px_f M.1.cls idx ci k) (hw : w.1 a = some (.inr (ci, fs))) (hv : fs[k]? = some v) (h : EV X M (pc + 3) ls (v :: rest) w r w') : EV X M pc ls (.ref a :: rest) w r w' := by
  obtain ⟨⟨C, T, N⟩, hc, hk, hl⟩ := hf
  refine EV.go (fun p e R s m args below meth c H locs cells slots Q la hB hH ha kk => ?_) h
  obtain ⟨hx, hb, hml, hown, hts, hfr, hlo, hnm, hK⟩ := hB
  rcases hl with hl | ⟨host, hl⟩
  · exact va_get hx hb hts (px_lay hc) hown hK.1 (px_sing hH hw) 0 rfl hc k hk (hts _ (px_lgi hl rfl)) (fun _ z => z) hv d (kk la ha)
  · exact va_getN hx hb hts (px_lay hc) hown hK.1 (px_sing hH hw) 0 rfl hc k hk (va_Nw.use rfl (hK.2.2.1 _ hl rfl)) (fun _ z => z) hv d (kk la ha)
theorem EV.putf {idx a ci : Nat} {fs : List Value} (k : Nat) {v : Value} (d : decode M.2.1 pc = .ok (.putfield idx, 3)) (hf : px_f M.1.cls idx ci k) {q : vw_C} (hq : vwCl[ci]? = some q) (hw : w.1 a = some (.inr (ci, fs))) (hfin : (q.2.1 k).2.2.2 = false) (hn : narrow (px_fty q k) v = v) (hfit : fits (px_fty q k) v = true) (hlen : k < fs.length)
    (h : EV X M (pc + 3) ls rest (px_set w a (.inr (ci, fs.set k v))) r w') : EV X M pc ls (v :: .ref a :: rest) w r w' := by
  obtain ⟨⟨C, T, N⟩, hc, hk, hl⟩ := hf
  cases hc.symm.trans hq
  refine EV.goS (fun p e R s m args below meth c H locs cells slots Q la hB hH hloc ha kk => ?_) h
  obtain ⟨hx, hb, hml, hown, hts, hfr, hlo, hnm, hK⟩ := hB
  have hin := px_lay hc
  have hty := px_fty_ok hc
  have hap := va_apart (own := M.1.cls) hts hin _ hty (px_nm hc) hK.1 hc
  obtain ⟨hba, rr, h1, cell, q1, q2, q3, q4⟩ := hH.2.2.1 a _ hw
  have hr : rr = (C, T, N) := Option.some.inj (h1.symm.trans hc)
  subst hr
  obtain ⟨hS, hfc, kC, hkC, hkind⟩ := hK.1.1 ci _ hc
  obtain ⟨cf, kf, fi, f, hi, hsl⟩ := hS k hk
  have hlay := hts _ (hin _ (u_in_lay hk))
  unfold u_lay at hlay
  rw [if_neg (by rw [hfin]; decide)] at hlay
  have hst := (u_facts hfc hkC (u_lays hts hin hk) hi).1
  have h6 := u_store hfc hkC hkind hlay hi (hty k hk) hn hfit
  rcases hl with hl | ⟨host, hl⟩
  · refine W.putK hx hb (f := f) ⟨hown, hts _ (px_lgi hl rfl), ⟨_, _, _, hi⟩, hst⟩ (by rw [q2]; exact h6) q1 q3 (by rw [hsl]; exact k2_hasslot (q4 k hk)) rfl rfl d fun H' e1 e2 e3 => ?_
    rw [hsl] at e1 ⊢
    exact kk H' _ (hH.put hw ⟨_, hc, t_OB.to (V := updV (vp_V fs) k v) ⟨_, e1, q2, q3, t_set q4 hap hk v⟩ (fun j _ => vp_updV_set hlen v j)⟩ e2 e3) (px_locs hloc hba)
  · refine va_WputK hx hb (f := f) hown (va_Nw.use rfl (hK.2.2.1 _ hl rfl)) hi hst (by rw [q2]; exact h6) q1 q3 (by rw [hsl]; exact k2_hasslot (q4 k hk)) rfl rfl d fun H' e1 e2 e3 => ?_
    rw [hsl] at e1 ⊢
    exact kk H' _ (hH.put hw ⟨_, hc, t_OB.to (V := updV (vp_V fs) k v) ⟨_, e1, q2, q3, t_set q4 hap hk v⟩ (fun j _ => vp_updV_set hlen v j)⟩ e2 e3) (px_locs hloc hba)
theorem EV.putF {idx a ci : Nat} {fs : List Value} (k : Nat) {v : Value} (d : decode M.2.1 pc = .ok (.putfield idx, 3)) {q : vw_C} (hq : vwCl[ci]? = some q) (hk : k < q.2.2) (hl : Cond.fieldLink M.1.cls idx (q.2.1 k).1 (q.2.1 k).2.1 (q.2.1 k).2.2.1 ∈ lw_tbl) (hin2 : M.1.name = "<init>") (hdecl : (q.2.1 k).1 = M.1.cls) (hw : w.1 a = some (.inr (ci, fs))) (hfin : (q.2.1 k).2.2.2 = true) (hn : narrow (px_fty q k) v = v) (hfit : fits (px_fty q k) v = true) (hlen : k < fs.length)
    (h : EV X M (pc + 3) ls rest (px_set w a (.inr (ci, fs.set k v))) r w') : EV X M pc ls (v :: .ref a :: rest) w r w' := by
  obtain ⟨C, T, N⟩ := q
  refine EV.goS (fun p e R s m args below meth c H locs cells slots Q la hB hH hloc ha kk => ?_) h
  obtain ⟨hx, hb, hml, hown, hts, hfr, hlo, hnm, hK⟩ := hB
  have hin := px_lay hq
  have hty := px_fty_ok hq
  have hap := va_apart (own := M.1.cls) hts hin _ hty (px_nm hq) hK.1 hq
  obtain ⟨hba, rr, h1, cell, q1, q2, q3, q4⟩ := hH.2.2.1 a _ hw
  have hr : rr = (C, T, N) := Option.some.inj (h1.symm.trans hq)
  subst hr
  obtain ⟨hS, hfc, kC, hkC, hkind⟩ := hK.1.1 ci _ hq
  obtain ⟨cf, kf, fi, f, hi, hsl⟩ := hS k hk
  have hlay := hts _ (hin _ (u_in_lay hk))
  unfold u_lay at hlay
  rw [if_pos hfin] at hlay
  have hst := (u_facts hfc hkC (u_lays hts hin hk) hi).1
  have hcf : m.cls = cf := by
    obtain ⟨_, _, c', _, _, _, -, -, hf', -, -, -, hown2, -⟩ := Cond.laysFinal_spec hlay
    have e1 : c' = cf := by have := hi.symm.trans hf'; simp at this; exact this.1.symm
    rw [show (T k).1 = M.1.cls from hdecl] at hown2
    rw [← e1]; exact Option.some.inj (hown.symm.trans hown2)
  have h6 := u_fits hfc hkC hkind (Or.inr hlay) hi (hty k hk) hn hfit
  refine W.putFinK hx hb hown (hts _ (px_lgi hl rfl)) hi hst hcf (hnm hin2) (by rw [q2]; exact h6) q1 q3 (by rw [hsl]; exact k2_hasslot (q4 k hk)) rfl rfl d fun H' e1 e2 e3 => ?_
  rw [hsl] at e1 ⊢
  exact kk H' _ (hH.put hw ⟨_, hq, t_OB.to (V := updV (vp_V fs) k v) ⟨_, e1, q2, q3, t_set q4 hap hk v⟩ (fun j _ => vp_updV_set hlen v j)⟩ e2 e3) (px_locs hloc hba)
theorem EV.iald {a n : Nat} {f : Nat → Int32} {i : Int32} (d : decode M.2.1 pc = .ok (.iaload, 1)) (hw : w.1 a = some (.inl (0, n, .inl f))) (hi : vp_in i n) (h : EV X M (pc + 1) ls (.int (f i.toNatClampNeg) :: rest) w r w') : EV X M pc ls (.int i :: .ref a :: rest) w r w' :=
  EV.go (fun p e R s m args below meth c H locs cells slots Q la hB hH ha k => va_iald hB.1 hB.2.1 (hB.2.2.2.2.2.2.2.2.ty (t := 0) rfl) (px_sing hH hw) 0 0 rfl rfl hi d (k la ha)) h
theorem EV.bald {a n : Nat} {f : Nat → Int32} {i : Int32} (d : decode M.2.1 pc = .ok (.baload, 1)) (hw : w.1 a = some (.inl (1, n, .inl f))) (hi : vp_in i n) (h : EV X M (pc + 1) ls (.int (f i.toNatClampNeg) :: rest) w r w') : EV X M pc ls (.int i :: .ref a :: rest) w r w' :=
  EV.go (fun p e R s m args below meth c H locs cells slots Q la hB hH ha k => va_bald hB.1 hB.2.1 (hB.2.2.2.2.2.2.2.2.ty (t := 1) rfl) (px_sing hH hw) 0 0 rfl rfl hi d (k la ha)) h
theorem EV.sald {a n : Nat} {f : Nat → Int32} {i : Int32} (d : decode M.2.1 pc = .ok (.saload, 1)) (hw : w.1 a = some (.inl (2, n, .inl f))) (hi : vp_in i n) (h : EV X M (pc + 1) ls (.int (f i.toNatClampNeg) :: rest) w r w') : EV X M pc ls (.int i :: .ref a :: rest) w r w' :=
  EV.go (fun p e R s m args below meth c H locs cells slots Q la hB hH ha k => va_sald hB.1 hB.2.1 (hB.2.2.2.2.2.2.2.2.ty (t := 2) rfl) (px_sing hH hw) 0 0 rfl rfl hi d (k la ha)) h
theorem EV.lald {a n : Nat} {f : Nat → Int64} {i : Int32} (d : decode M.2.1 pc = .ok (.laload, 1)) (hw : w.1 a = some (.inl (3, n, .inr (.inl f)))) (hi : vp_in i n) (h : EV X M (pc + 1) ls (.long (f i.toNatClampNeg) :: rest) w r w') : EV X M pc ls (.int i :: .ref a :: rest) w r w' :=
  EV.go (fun p e R s m args below meth c H locs cells slots Q la hB hH ha k => va_lald hB.1 hB.2.1 (hB.2.2.2.2.2.2.2.2.ty (t := 3) rfl) (px_sing hH hw) 0 0 rfl rfl hi d (k la ha)) h
theorem EV.zald {a n : Nat} {f : Nat → Int32} {i : Int32} (d : decode M.2.1 pc = .ok (.baload, 1)) (hw : w.1 a = some (.inl (4, n, .inl f))) (hi : vp_in i n) (h : EV X M (pc + 1) ls (.int (f i.toNatClampNeg) :: rest) w r w') : EV X M pc ls (.int i :: .ref a :: rest) w r w' :=
  EV.go (fun p e R s m args below meth c H locs cells slots Q la hB hH ha k => va_zald hB.1 hB.2.1 (hB.2.2.2.2.2.2.2.2.ty (t := 4) rfl) (px_sing hH hw) 0 0 rfl rfl hi d (k la ha)) h
theorem EV.ialdR {a n : Nat} {f : Nat → Int32} {i : Int32} (d : decode M.2.1 pc = .ok (.iaload, 1)) (hw : X.2.2.2.2.1 a = some (n, f)) (hi : vp_in i n) (h : EV X M (pc + 1) ls (.int (f i.toNatClampNeg) :: rest) w r w') : EV X M pc ls (.int i :: .ref a :: rest) w r w' := by
  refine EV.go (fun p e R s m args below meth c H locs cells slots Q la hB hH ha k => ?_) h
  obtain ⟨cell, h1, h2, h3, h4, h5, h6, h7⟩ := hH.2.2.2.1 a n f hw
  have hlt : i.toNatClampNeg < n := Nat.not_le.mp fun q => hi (Or.inr q)
  exact W.iald (v := .int (f i.toNatClampNeg)) hB.1 hB.2.1 h1 h2 h3 (fun q => hi (q.imp id (fun z => Nat.le_trans h4 z))) (h6 _ hlt) rfl rfl d (k la ha)
theorem EV.alen {a t : Nat} {x : vp_A} {ty : FieldType} (d : decode M.2.1 pc = .ok (.arraylength, 1)) (hw : w.1 a = some (.inl (t, x))) (ht : px_ty[t]? = some ty) (h : EV X M (pc + 1) ls (.int (Int32.ofNat x.1) :: rest) w r w') : EV X M pc ls (.ref a :: rest) w r w' :=
  EV.go (fun p e R s m args below meth c H locs cells slots Q la hB hH ha k => va_alen hB.1 hB.2.1 (hB.2.2.2.2.2.2.2.2.ty ht) (px_sing hH hw) 0 0 rfl rfl rfl d (k la ha)) h
theorem EV.alenR {a n : Nat} {f : Nat → Int32} (d : decode M.2.1 pc = .ok (.arraylength, 1)) (hw : X.2.2.2.2.1 a = some (n, f)) (h : EV X M (pc + 1) ls (.int (Int32.ofNat n) :: rest) w r w') : EV X M pc ls (.ref a :: rest) w r w' := by
  refine EV.go (fun p e R s m args below meth c H locs cells slots Q la hB hH ha k => ?_) h
  obtain ⟨cell, h1, h2, h3, h4, h5, h6, h7⟩ := hH.2.2.2.1 a n f hw
  exact W.alen (n := Int32.ofNat n) hB.1 hB.2.1 h1 h2 h5 rfl rfl d (k la ha)
theorem EV.aald {a n t b : Nat} {C : String} {f : Nat → Option Nat} {i : Int32} (d : decode M.2.1 pc = .ok (.aaload, 1)) (hw : w.1 a = some (.inl (t, n, .inr (.inr (.inr (.inr f)))))) (ht : px_ty[t]? = some (.object C)) (hi : vp_in i n) (hb : f i.toNatClampNeg = some b) (h : EV X M (pc + 1) ls (.ref b :: rest) w r w') : EV X M pc ls (.int i :: .ref a :: rest) w r w' := by
  refine EV.go (fun p e R s m args below meth c H locs cells slots Q la hB hH ha k => ?_) h
  refine va_aldq hB.1 hB.2.1 (hB.2.2.2.2.2.2.2.2.ty ht) (px_sing hH hw) 0 0 rfl rfl hi d ?_
  rw [hb]
  exact k la ha
theorem EV.iast {a n : Nat} {f : Nat → Int32} {i : Int32} {x : Int32} (d : decode M.2.1 pc = .ok (.iastore, 1)) (hw : w.1 a = some (.inl (0, n, .inl f))) (hi : vp_in i n) (h : EV X M (pc + 1) ls rest (px_set w a (.inl (0, n, .inl (upd f i.toNatClampNeg x)))) r w') : EV X M pc ls (.int x :: .int i :: .ref a :: rest) w r w' := by
  refine EV.goS (fun p e R s m args below meth c H locs cells slots Q la hB hH hloc ha kk => ?_) h
  obtain ⟨hba, hat⟩ := hH.2.2.1 a _ hw
  refine W.iast hB.1 hB.2.1 hat ((hB.2.2.2.2.2.2.2.2.2.1 0 _ rfl).1 n _) (fun q => by cases q) (by show ¬ (i < 0 ∨ (arrV _ _ _).slots.size ≤ _); rw [arrV_size]; exact hi) rfl rfl d fun H1 e1 z oq => ?_
  refine kk H1 _ (hH.put hw ?_ z oq) (px_locs hloc hba)
  have e2 : H1[a]? = some ((arrV (X.2.2.1 0) n (fun j => .int (f j))).setSlot i.toNatClampNeg (.int x)) := e1
  show H1[a]? = some (arrV (X.2.2.1 0) n (fun j => .int (upd f i.toNatClampNeg x j)))
  rw [e2, arrV_store]
  congr 2
  funext q
  by_cases hq : q = i.toNatClampNeg
  · subst hq
    simp [updV, upd]
  · simp [updV, upd, hq]
theorem EV.bast {a n : Nat} {f : Nat → Int32} {i : Int32} {x : Int32} (d : decode M.2.1 pc = .ok (.bastore, 1)) (hw : w.1 a = some (.inl (1, n, .inl f))) (hi : vp_in i n) (h : EV X M (pc + 1) ls rest (px_set w a (.inl (1, n, .inl (upd f i.toNatClampNeg (vp_nar .byte x))))) r w') : EV X M pc ls (.int x :: .int i :: .ref a :: rest) w r w' := by
  refine EV.goS (fun p e R s m args below meth c H locs cells slots Q la hB hH hloc ha kk => ?_) h
  obtain ⟨hba, hat⟩ := hH.2.2.1 a _ hw
  refine W.bast hB.1 hB.2.1 hat ((hB.2.2.2.2.2.2.2.2.2.1 1 _ rfl).1 n _) (fun q => by cases q) (by show ¬ (i < 0 ∨ (arrV _ _ _).slots.size ≤ _); rw [arrV_size]; exact hi) rfl rfl d fun H1 e1 z oq => ?_
  refine kk H1 _ (hH.put hw ?_ z oq) (px_locs hloc hba)
  have e2 : H1[a]? = some ((arrV (X.2.2.1 1) n (fun j => .int (f j))).setSlot i.toNatClampNeg (narrow .byte (.int x))) := e1
  show H1[a]? = some (arrV (X.2.2.1 1) n (fun j => .int (upd f i.toNatClampNeg (vp_nar .byte x) j)))
  rw [e2, arrV_store]
  congr 2
  funext q
  by_cases hq : q = i.toNatClampNeg
  · subst hq
    simp [updV, upd]
    try rfl
  · simp [updV, upd, hq]
theorem EV.sast {a n : Nat} {f : Nat → Int32} {i : Int32} {x : Int32} (d : decode M.2.1 pc = .ok (.sastore, 1)) (hw : w.1 a = some (.inl (2, n, .inl f))) (hi : vp_in i n) (h : EV X M (pc + 1) ls rest (px_set w a (.inl (2, n, .inl (upd f i.toNatClampNeg (vp_nar .short x))))) r w') : EV X M pc ls (.int x :: .int i :: .ref a :: rest) w r w' := by
  refine EV.goS (fun p e R s m args below meth c H locs cells slots Q la hB hH hloc ha kk => ?_) h
  obtain ⟨hba, hat⟩ := hH.2.2.1 a _ hw
  refine W.sast hB.1 hB.2.1 hat ((hB.2.2.2.2.2.2.2.2.2.1 2 _ rfl).1 n _) (fun q => by cases q) (by show ¬ (i < 0 ∨ (arrV _ _ _).slots.size ≤ _); rw [arrV_size]; exact hi) rfl rfl d fun H1 e1 z oq => ?_
  refine kk H1 _ (hH.put hw ?_ z oq) (px_locs hloc hba)
  have e2 : H1[a]? = some ((arrV (X.2.2.1 2) n (fun j => .int (f j))).setSlot i.toNatClampNeg (narrow .short (.int x))) := e1
  show H1[a]? = some (arrV (X.2.2.1 2) n (fun j => .int (upd f i.toNatClampNeg (vp_nar .short x) j)))
  rw [e2, arrV_store]
  congr 2
  funext q
  by_cases hq : q = i.toNatClampNeg
  · subst hq
    simp [updV, upd]
    try rfl
  · simp [updV, upd, hq]
theorem EV.last {a n : Nat} {f : Nat → Int64} {i : Int32} {x : Int64} (d : decode M.2.1 pc = .ok (.lastore, 1)) (hw : w.1 a = some (.inl (3, n, .inr (.inl f)))) (hi : vp_in i n) (h : EV X M (pc + 1) ls rest (px_set w a (.inl (3, n, .inr (.inl (vp_updL f i.toNatClampNeg x))))) r w') : EV X M pc ls (.long x :: .int i :: .ref a :: rest) w r w' := by
  refine EV.goS (fun p e R s m args below meth c H locs cells slots Q la hB hH hloc ha kk => ?_) h
  obtain ⟨hba, hat⟩ := hH.2.2.1 a _ hw
  refine W.last hB.1 hB.2.1 hat ((hB.2.2.2.2.2.2.2.2.2.1 3 _ rfl).1 n _) (fun q => by cases q) (by show ¬ (i < 0 ∨ (arrV _ _ _).slots.size ≤ _); rw [arrV_size]; exact hi) rfl rfl d fun H1 e1 z oq => ?_
  refine kk H1 _ (hH.put hw ?_ z oq) (px_locs hloc hba)
  have e2 : H1[a]? = some ((arrV (X.2.2.1 3) n (fun j => .long (f j))).setSlot i.toNatClampNeg (.long x)) := e1
  show H1[a]? = some (arrV (X.2.2.1 3) n (fun j => .long (vp_updL f i.toNatClampNeg x j)))
  rw [e2, arrV_store]
  congr 2
  funext q
  by_cases hq : q = i.toNatClampNeg
  · subst hq
    simp [updV, vp_updL]
  · simp [updV, vp_updL, hq]
theorem EV.zast {a n : Nat} {f : Nat → Int32} {i : Int32} {x : Int32} (d : decode M.2.1 pc = .ok (.bastore, 1)) (hw : w.1 a = some (.inl (4, n, .inl f))) (hi : vp_in i n) (h : EV X M (pc + 1) ls rest (px_set w a (.inl (4, n, .inl (upd f i.toNatClampNeg (vp_nar .boolean x))))) r w') : EV X M pc ls (.int x :: .int i :: .ref a :: rest) w r w' := by
  refine EV.goS (fun p e R s m args below meth c H locs cells slots Q la hB hH hloc ha kk => ?_) h
  obtain ⟨hba, hat⟩ := hH.2.2.1 a _ hw
  refine W.zast hB.1 hB.2.1 hat ((hB.2.2.2.2.2.2.2.2.2.1 4 _ rfl).1 n _) (fun q => by cases q) (by show ¬ (i < 0 ∨ (arrV _ _ _).slots.size ≤ _); rw [arrV_size]; exact hi) rfl rfl d fun H1 e1 z oq => ?_
  refine kk H1 _ (hH.put hw ?_ z oq) (px_locs hloc hba)
  have e2 : H1[a]? = some ((arrV (X.2.2.1 4) n (fun j => .int (f j))).setSlot i.toNatClampNeg (narrow .boolean (.int x))) := e1
  show H1[a]? = some (arrV (X.2.2.1 4) n (fun j => .int (upd f i.toNatClampNeg (vp_nar .boolean x) j)))
  rw [e2, arrV_store]
  congr 2
  funext q
  by_cases hq : q = i.toNatClampNeg
  · subst hq
    simp [updV, upd]
    try rfl
  · simp [updV, upd, hq]
theorem EV.aast {a n t v ci : Nat} {q : vw_C} {vs : List Value} {f : Nat → Option Nat} {i : Int32} (d : decode M.2.1 pc = .ok (.aastore, 1)) (hw : w.1 a = some (.inl (t, n, .inr (.inr (.inr (.inr f)))))) (hv : w.1 v = some (.inr (ci, vs))) (hc : vwCl[ci]? = some q) (ht : px_ty[t]? = some (.object q.1)) (hi : vp_in i n) (h : EV X M (pc + 1) ls rest (px_set w a (.inl (t, n, .inr (.inr (.inr (.inr (va_up f i.toNatClampNeg (some v)))))))) r w') : EV X M pc ls (.ref v :: .int i :: .ref a :: rest) w r w' := by
  refine EV.goS (fun p e R s m args below meth c H locs cells slots Q la hB hH hloc ha kk => ?_) h
  have hK := hB.2.2.2.2.2.2.2.2
  have hlt : i.toNatClampNeg < n := Nat.not_le.mp fun z => hi (Or.inr z)
  have h0 : ¬ i < 0 := fun z => hi (Or.inl z)
  obtain ⟨hba, hat⟩ := hH.2.2.1 a _ hw
  obtain ⟨hbv, r', hr', cellV, g1, g2, g3, -⟩ := hH.2.2.1 v _ hv
  have hcls := (hK.1.1 ci q hc).2
  obtain ⟨kA, comp, k1, k2, k3, -⟩ := (hK.2.1 t _ ht).2
  have hcomp : comp = X.2.1.1 ci := Option.some.inj (k3.symm.trans hcls.1)
  subst hcomp
  obtain ⟨kC, hkC, -⟩ := hcls.2
  refine W.aast hB.1 hB.2.1 hat (fun z h => by cases h) (fun h => by cases h) k1 k2 rfl hkC ⟨h0, by show _ < (arrV _ _ _).slots.size; rw [arrV_size]; exact hlt⟩ g1 (fun z h => by rw [g3] at h; cases h) (by rw [g2]; exact hkC) (by rw [g2]; exact va_assign hcls) rfl rfl d fun H1 e1 z oq => ?_
  refine kk H1 _ (hH.put hw ?_ z oq) (px_locs hloc hba)
  have e2 : H1[a]? = some ((arrV (X.2.2.1 t) n (fun j => va_rf (f j))).setSlot i.toNatClampNeg (.ref v)) := e1
  show H1[a]? = some (arrV (X.2.2.1 t) n (fun j => va_rf (va_up f i.toNatClampNeg (some v) j)))
  rw [e2, arrV_store]
  congr 2
  funext q
  by_cases hq : q = i.toNatClampNeg
  · subst hq
    simp [updV, va_up, va_rf]
  · simp [updV, va_up, hq]
theorem EV.gets {idx k : Nat} {nm : String} (d : decode M.2.1 pc = .ok (.getstatic idx, 3)) (hk : px_sn[k]? = some nm) (hl : Cond.fieldLink M.1.cls idx "WavePictures" nm "[I" ∈ lw_tbl) (h : EV X M (pc + 3) ls (.ref (X.2.2.2.2.2 k) :: rest) w r w') : EV X M pc ls rest w r w' := by
  refine EV.go (fun p e R s m args below meth c H locs cells slots Q la hB hH ha kk => ?_) h
  obtain ⟨cf, kf, fi, f, a, cell, h1, h2, h3, h4, h5, h6, h7, h8⟩ := hH.2.2.2.2 k nm hk
  exact W.gets hB.1 hB.2.1 hB.2.2.2.1 (hB.2.2.2.2.1 _ (px_lgi hl rfl)) h1 h2 h3 h4 h5 (fun z => by rw [z] at h6; cases h6) h7 rfl d (kk la ha)
theorem EV.getsN {idx k : Nat} {nm host : String} (d : decode M.2.1 pc = .ok (.getstatic idx, 3)) (hk : px_sn[k]? = some nm) (hl : Cond.fieldLinkNest M.1.cls idx "WavePictures" nm "[I" host ∈ tables_1) (h : EV X M (pc + 3) ls (.ref (X.2.2.2.2.2 k) :: rest) w r w') : EV X M pc ls rest w r w' := by
  refine EV.go (fun p e R s m args below meth c H locs cells slots Q la hB hH ha kk => ?_) h
  obtain ⟨cf, kf, fi, f, a, cell, h1, h2, h3, h4, h5, h6, h7, h8⟩ := hH.2.2.2.2 k nm hk
  exact va_WgetsN hB.1 hB.2.1 hB.2.2.2.1 (va_Nw.use rfl (hB.2.2.2.2.2.2.2.2.2.2.1 _ hl rfl)) h1 h2 h3 h4 h5 (fun z => by rw [z] at h6; cases h6) h7 rfl d (kk la ha)
theorem EV.newI {n : Int32} (N : Nat) (d : decode M.2.1 pc = .ok (.newarray .int, 2)) (hn : n = nI N) (hN : N ≤ 60000000) (h : EV X M (pc + 2) ls (.ref w.2.1 :: rest) (px_new w (.inl (0, N, .inl (fun _ => 0))) N) r w') : EV X M pc ls (.int n :: rest) w r w' := by
  refine EV.goW (w1 := px_new w (.inl (0, N, .inl (fun _ => 0))) N) ⟨Nat.le_succ _, Nat.le_add_right _ _⟩ ?_ h
  intro p e R s m args below meth c H locs cells slots Q la hB h1 h2 hH hl ha kk
  have hK := hB.2.2.2.2.2.2.2.2
  have hNc : n.toNatClampNeg = N := by rw [hn]; exact nI_clamp (by omega)
  have e1 : (px_new w (.inl (0, N, .inl (fun _ => 0))) N).2.1 - w.2.1 = 1 := Nat.add_sub_cancel_left _ _
  have e2 : (px_new w (.inl (0, N, .inl (fun _ => 0))) N).2.2 - w.2.2 = N := Nat.add_sub_cancel_left _ _
  rw [e1] at h1
  rw [e2] at h2
  refine va_newaK hB.1 hB.2.1 (atype := .int) (hB.2.2.2.2.1 _ (px_lgi (px_lgt (px_acT _ List.mem_cons_self)) rfl)) rfl d rfl (by rw [hn]; exact nI_pos (by omega)) hNc (by show N * 4 ≤ 536870912; omega) h1 h2 hH.1 (fun H1 cA g1 g2 g3 g4 g5 => ?_)
  have hcA : cA = X.2.2.1 0 := Option.some.inj (g5.symm.trans (hK.2.1 0 _ rfl).2)
  subst hcA
  have hh := kk H1 locs la (hH.push (e := .inl (0, N, .inl (fun _ => 0))) (n := N) (by rw [hH.1]; exact g1) (by rw [hH.1]; exact g2) (fun q hq => g3 q (by rw [← hH.1]; exact hq))) hl ha
  rw [e1, e2] at hh
  exact hh
theorem EV.newB {n : Int32} (N : Nat) (d : decode M.2.1 pc = .ok (.newarray .byte, 2)) (hn : n = nI N) (hN : N ≤ 60000000) (h : EV X M (pc + 2) ls (.ref w.2.1 :: rest) (px_new w (.inl (1, N, .inl (fun _ => 0))) N) r w') : EV X M pc ls (.int n :: rest) w r w' := by
  refine EV.goW (w1 := px_new w (.inl (1, N, .inl (fun _ => 0))) N) ⟨Nat.le_succ _, Nat.le_add_right _ _⟩ ?_ h
  intro p e R s m args below meth c H locs cells slots Q la hB h1 h2 hH hl ha kk
  have hK := hB.2.2.2.2.2.2.2.2
  have hNc : n.toNatClampNeg = N := by rw [hn]; exact nI_clamp (by omega)
  have e1 : (px_new w (.inl (1, N, .inl (fun _ => 0))) N).2.1 - w.2.1 = 1 := Nat.add_sub_cancel_left _ _
  have e2 : (px_new w (.inl (1, N, .inl (fun _ => 0))) N).2.2 - w.2.2 = N := Nat.add_sub_cancel_left _ _
  rw [e1] at h1
  rw [e2] at h2
  refine va_newaK hB.1 hB.2.1 (atype := .byte) (hB.2.2.2.2.1 _ (px_lgi (px_lgt (px_acT _ (by decide))) rfl)) rfl d rfl (by rw [hn]; exact nI_pos (by omega)) hNc (by show N * 1 ≤ 536870912; omega) h1 h2 hH.1 (fun H1 cA g1 g2 g3 g4 g5 => ?_)
  have hcA : cA = X.2.2.1 1 := Option.some.inj (g5.symm.trans (hK.2.1 1 _ rfl).2)
  subst hcA
  have hh := kk H1 locs la (hH.push (e := .inl (1, N, .inl (fun _ => 0))) (n := N) (by rw [hH.1]; exact g1) (by rw [hH.1]; exact g2) (fun q hq => g3 q (by rw [← hH.1]; exact hq))) hl ha
  rw [e1, e2] at hh
  exact hh
theorem EV.newS {n : Int32} (N : Nat) (d : decode M.2.1 pc = .ok (.newarray .short, 2)) (hn : n = nI N) (hN : N ≤ 60000000) (h : EV X M (pc + 2) ls (.ref w.2.1 :: rest) (px_new w (.inl (2, N, .inl (fun _ => 0))) N) r w') : EV X M pc ls (.int n :: rest) w r w' := by
  refine EV.goW (w1 := px_new w (.inl (2, N, .inl (fun _ => 0))) N) ⟨Nat.le_succ _, Nat.le_add_right _ _⟩ ?_ h
  intro p e R s m args below meth c H locs cells slots Q la hB h1 h2 hH hl ha kk
  have hK := hB.2.2.2.2.2.2.2.2
  have hNc : n.toNatClampNeg = N := by rw [hn]; exact nI_clamp (by omega)
  have e1 : (px_new w (.inl (2, N, .inl (fun _ => 0))) N).2.1 - w.2.1 = 1 := Nat.add_sub_cancel_left _ _
  have e2 : (px_new w (.inl (2, N, .inl (fun _ => 0))) N).2.2 - w.2.2 = N := Nat.add_sub_cancel_left _ _
  rw [e1] at h1
  rw [e2] at h2
  refine va_newaK hB.1 hB.2.1 (atype := .short) (hB.2.2.2.2.1 _ (px_lgi (px_lgt (px_acT _ (by decide))) rfl)) rfl d rfl (by rw [hn]; exact nI_pos (by omega)) hNc (by show N * 2 ≤ 536870912; omega) h1 h2 hH.1 (fun H1 cA g1 g2 g3 g4 g5 => ?_)
  have hcA : cA = X.2.2.1 2 := Option.some.inj (g5.symm.trans (hK.2.1 2 _ rfl).2)
  subst hcA
  have hh := kk H1 locs la (hH.push (e := .inl (2, N, .inl (fun _ => 0))) (n := N) (by rw [hH.1]; exact g1) (by rw [hH.1]; exact g2) (fun q hq => g3 q (by rw [← hH.1]; exact hq))) hl ha
  rw [e1, e2] at hh
  exact hh
theorem EV.newJ {n : Int32} (N : Nat) (d : decode M.2.1 pc = .ok (.newarray .long, 2)) (hn : n = nI N) (hN : N ≤ 60000000) (h : EV X M (pc + 2) ls (.ref w.2.1 :: rest) (px_new w (.inl (3, N, .inr (.inl (fun _ => 0)))) N) r w') : EV X M pc ls (.int n :: rest) w r w' := by
  refine EV.goW (w1 := px_new w (.inl (3, N, .inr (.inl (fun _ => 0)))) N) ⟨Nat.le_succ _, Nat.le_add_right _ _⟩ ?_ h
  intro p e R s m args below meth c H locs cells slots Q la hB h1 h2 hH hl ha kk
  have hK := hB.2.2.2.2.2.2.2.2
  have hNc : n.toNatClampNeg = N := by rw [hn]; exact nI_clamp (by omega)
  have e1 : (px_new w (.inl (3, N, .inr (.inl (fun _ => 0)))) N).2.1 - w.2.1 = 1 := Nat.add_sub_cancel_left _ _
  have e2 : (px_new w (.inl (3, N, .inr (.inl (fun _ => 0)))) N).2.2 - w.2.2 = N := Nat.add_sub_cancel_left _ _
  rw [e1] at h1
  rw [e2] at h2
  refine va_newaK hB.1 hB.2.1 (atype := .long) (hB.2.2.2.2.1 _ (px_lgi (px_lgt (px_acT _ (by decide))) rfl)) rfl d rfl (by rw [hn]; exact nI_pos (by omega)) hNc (by show N * 8 ≤ 536870912; omega) h1 h2 hH.1 (fun H1 cA g1 g2 g3 g4 g5 => ?_)
  have hcA : cA = X.2.2.1 3 := Option.some.inj (g5.symm.trans (hK.2.1 3 _ rfl).2)
  subst hcA
  have hh := kk H1 locs la (hH.push (e := .inl (3, N, .inr (.inl (fun _ => 0)))) (n := N) (by rw [hH.1]; exact g1) (by rw [hH.1]; exact g2) (fun q hq => g3 q (by rw [← hH.1]; exact hq))) hl ha
  rw [e1, e2] at hh
  exact hh
theorem EV.newZ {n : Int32} (N : Nat) (d : decode M.2.1 pc = .ok (.newarray .boolean, 2)) (hn : n = nI N) (hN : N ≤ 60000000) (h : EV X M (pc + 2) ls (.ref w.2.1 :: rest) (px_new w (.inl (4, N, .inl (fun _ => 0))) N) r w') : EV X M pc ls (.int n :: rest) w r w' := by
  refine EV.goW (w1 := px_new w (.inl (4, N, .inl (fun _ => 0))) N) ⟨Nat.le_succ _, Nat.le_add_right _ _⟩ ?_ h
  intro p e R s m args below meth c H locs cells slots Q la hB h1 h2 hH hl ha kk
  have hK := hB.2.2.2.2.2.2.2.2
  have hNc : n.toNatClampNeg = N := by rw [hn]; exact nI_clamp (by omega)
  have e1 : (px_new w (.inl (4, N, .inl (fun _ => 0))) N).2.1 - w.2.1 = 1 := Nat.add_sub_cancel_left _ _
  have e2 : (px_new w (.inl (4, N, .inl (fun _ => 0))) N).2.2 - w.2.2 = N := Nat.add_sub_cancel_left _ _
  rw [e1] at h1
  rw [e2] at h2
  refine va_newaK hB.1 hB.2.1 (atype := .boolean) (hB.2.2.2.2.1 _ (px_lgi (px_lgt (px_acT _ (by decide))) rfl)) rfl d rfl (by rw [hn]; exact nI_pos (by omega)) hNc (by show N * 1 ≤ 536870912; omega) h1 h2 hH.1 (fun H1 cA g1 g2 g3 g4 g5 => ?_)
  have hcA : cA = X.2.2.1 4 := Option.some.inj (g5.symm.trans (hK.2.1 4 _ rfl).2)
  subst hcA
  have hh := kk H1 locs la (hH.push (e := .inl (4, N, .inl (fun _ => 0))) (n := N) (by rw [hH.1]; exact g1) (by rw [hH.1]; exact g2) (fun q hq => g3 q (by rw [← hH.1]; exact hq))) hl ha
  rw [e1, e2] at hh
  exact hh
end EVH
