section EVC
variable {X : px_X} {M : px_M} {pc : Nat} {ls : List (Nat × Value)} {st rest : List Value} {w : px_W} {r : Option Value} {w' : px_W}
theorem EV.new {idx ci : Nat} {q : vw_C} (fs : List Value) (d : decode M.2.1 pc = .ok (.new idx, 3)) (hq : vwCl[ci]? = some q) (hl : Cond.classLink M.1.cls idx q.1 ∈ lw_tbl) (hi : Cond.instantiable q.1 q.2.2 ∈ lw_tbl) (hn : Cond.initialized q.1 ∈ lw_tbl) (hfs : ∀ j, j < q.2.2 → defaultValue (px_fty q j) = vp_V fs j) (h : EV X M (pc + 3) ls (.ref w.2.1 :: rest) (px_new w (.inr (ci, fs)) q.2.2) r w') : EV X M pc ls rest w r w' := by
  refine EV.goW (w1 := px_new w (.inr (ci, fs)) q.2.2) ⟨Nat.le_succ _, Nat.le_add_right _ _⟩ ?_ h
  intro p e R s m args below meth c H locs cells slots Q la hB h1 h2 hH hloc ha kk
  obtain ⟨hx, hb, hml, hown, hts, hfr, hlo, hnm, hK⟩ := hB
  have e1 : (px_new w (.inr (ci, fs)) q.2.2).2.1 - w.2.1 = 1 := Nat.add_sub_cancel_left _ _
  have e2 : (px_new w (.inr (ci, fs)) q.2.2).2.2 - w.2.2 = q.2.2 := Nat.add_sub_cancel_left _ _
  rw [e1] at h1
  rw [e2] at h2
  have hKn := hK.1.1 ci _ hq
  refine W.newcK hx hb hown (hts _ (px_lgi hl rfl)) (hts _ (px_lgi hi rfl)) (hts _ (px_lgi hn rfl)) rfl d h1 h2 hKn.2.1 rfl fun H1 kC hkC g1 z1 o1 => ?_
  have hh := kk H1 locs la (hH.push (e := .inr (ci, fs)) (n := q.2.2) ⟨_, hq, (u_born _ hts (px_lay hq) hKn hkC g1 (px_fty_ok hq)).to hfs⟩ z1 o1) hloc ha
  rw [e1, e2] at hh
  rw [hH.1]
  exact hh
theorem EV.anew {idx t : Nat} {C : String} {n : Int32} (N : Nat) (d : decode M.2.1 pc = .ok (.anewarray idx, 3)) (ht : px_ty[t]? = some (.object C)) (hl : Cond.classLink M.1.cls idx C ∈ lw_tbl) (hov : Cond.arrayOver (.object C) ∈ tables_1) (hn : n = nI N) (hN : N ≤ 60000000) (h : EV X M (pc + 3) ls (.ref w.2.1 :: rest) (px_new w (.inl (t, N, .inr (.inr (.inr (.inr (fun _ => none)))))) N) r w') : EV X M pc ls (.int n :: rest) w r w' := by
  refine EV.goW (w1 := px_new w (.inl (t, N, .inr (.inr (.inr (.inr (fun _ => none)))))) N) ⟨Nat.le_succ _, Nat.le_add_right _ _⟩ ?_ h
  intro p e R s m args below meth c H locs cells slots Q la hB h1 h2 hH hloc ha kk
  obtain ⟨hx, hb, hml, hown, hts, hfr, hlo, hnm, hK⟩ := hB
  have hNc : n.toNatClampNeg = N := by rw [hn]; exact nI_clamp (by omega)
  have e1 : (px_new w (.inl (t, N, .inr (.inr (.inr (.inr (fun _ => none)))))) N).2.1 - w.2.1 = 1 := Nat.add_sub_cancel_left _ _
  have e2 : (px_new w (.inl (t, N, .inr (.inr (.inr (.inr (fun _ => none)))))) N).2.2 - w.2.2 = N := Nat.add_sub_cancel_left _ _
  rw [e1] at h1
  rw [e2] at h2
  subst hNc
  refine W.anew hx hb hown (hts _ (px_lgi hl rfl)) (va_AO.use (hK.2.2.2 C hov)) rfl d rfl (by rw [hn]; exact nI_pos (by omega)) (by omega) h1 h2 fun cA kA comp f1 f2 f3 f4 => ?_
  have hcA : cA = X.2.2.1 t := by
    obtain ⟨_, _, _, _, _, g5⟩ := (hK.2.1 t _ ht).2
    exact Option.some.inj (f1.symm.trans g5)
  subst hcA
  have hh := kk (H.push { cls := X.2.2.1 t, slots := Array.replicate n.toNatClampNeg .null, vm := .none }) locs la (hH.push (e := .inl (t, n.toNatClampNeg, .inr (.inr (.inr (.inr (fun _ => none)))))) (n := n.toNatClampNeg) (by show _ = some (arrV (X.2.2.1 t) _ (fun _ => .null)); rw [Array.getElem?_push_size, ← arrV_new]) (by rw [Array.size_push]) (fun q hq => by rw [Array.getElem?_push, if_neg (Nat.ne_of_lt hq)])) hloc ha
  rw [e1, e2] at hh
  rw [hH.1]
  exact hh
theorem EV.objI {idx a : Nat} (d : decode M.2.1 pc = .ok (.invokespecial idx, 3)) (hl : Cond.methodLink M.1.cls idx objectInit ∈ lw_tbl) (hF : 1 ≤ M.2.2.2.2.1) (hL : 20 ≤ M.2.2.2.2.2) (hr : (rest.map fun v => v.category).sum ≤ 8) (h : EV X M (pc + 3) ls rest w r w') : EV X M pc ls (.ref a :: rest) w r w' := by
  refine EV.go (fun p e R s m args below meth c H locs cells slots Q la hB hH ha kk => ?_) h
  obtain ⟨hx, hb, hml, hown, hts, hfr, hlo, hnm, hK⟩ := hB
  exact W.objInit hx hb hown (hts _ (px_lgi hl rfl)) (hts _ (px_lgi (px_lgt (List.mem_of_getElem? (i := 27) (by decide +kernel))) rfl)) (hts _ (px_lgi (px_lgt (List.mem_of_getElem? (i := 28) (by decide +kernel))) rfl)) rfl (ha.1.trans hml.symm) rfl d (Nat.le_trans hF hfr) (by have h9 := lv_room (m := m) (pc := pc) (ls := la) (rest := .ref a :: rest) hr; omega) (kk la ha)
/-- a method's start and end, over the pure machine -/
def px_P (X : px_X) (av : List Value) (w : px_W) : Array Value → State → Prop := fun v U => v = av.toArray ∧ px_H X w U U.heap ∧ px_K X U
def px_Q (X : px_X) (r : Option Value) (w1 : px_W) : Array Value → State → Outcome → State → Prop := fun _ _ oc t => oc = .returned r ∧ px_H X w1 t t.heap
theorem px_blind (av : List Value) (w : px_W) : FrameBlind (px_P X av w) := fun a U g mk h => ⟨h.1, px_H.moved (u := U) (U := U.calling g mk a) (Vm.Alike.refl U.vm) h.2.1, px_K.warm (s := U) (U := U.calling g mk a) (State.WarmedH.refl U) h.2.2⟩
theorem EV.met {M2 : px_M} {av : List Value} {r1 : Option Value} {w1 : px_W} (hy : plainName M2.1.cls = true) (hav : (lg_sl av).length ≤ M2.2.2.1) (h : EV X M2 0 (lv_args 0 av) [] w r1 w1) :
    Met X.1 M2.1 (Cond.code M2.1 M2.2.1 M2.2.2.1 M2.2.2.2.1 :: px_lg) { frames := M2.2.2.2.2.1, cells := w1.2.1 - w.2.1, slots := w1.2.2 - w.2.2, locals := M2.2.2.2.2.2 } (px_P X av w) (px_Q X r1 w1) (w1.2.1 - w.2.1) (w1.2.2 - w.2.2) (fun q => X.2.2.2.1 ≤ q) := by
  have hn := h.1.1
  refine Met.ofW (cc := M2.2.1) (maxL := M2.2.2.1) (ret := M2.2.2.2.1) hy rfl ?_
  intro p e s m args below meth c s₁ B hml hv
  obtain ⟨rfl, hH, hK⟩ := hv
  have hts := atoms_spec (ws := Cond.code M2.1 M2.2.1 M2.2.2.1 M2.2.2.2.1 :: px_lg) B.pre
  have hx := B.exec
  have hb := B.bytes
  have hr := B.returns
  have hlocks := B.notSynchronized
  rw [lg_entry_eq]
  have hl := lv_entry av (n := M2.2.2.1) hav
  refine h.2 p e _ s m av.toArray below meth c s.heap [] 0 0 _ _ ⟨hx, hb, hml, findClass_of_methodNamed B.named, fun w hw => hts w (List.mem_cons_of_mem _ hw), Nat.le_refl _, Nat.le_refl _, (fun h => (name_of_methodNamed B.named B.method).1.trans h), hK⟩ (by rw [Nat.zero_add]; exact Nat.le_refl _) (by rw [Nat.zero_add]; exact Nat.le_refl _) hH (fun q hq => by cases hq) hl ?_
  intro H' locs' la' pc' hH' hl' hrt
  rw [Nat.zero_add, Nat.zero_add]
  have hq : ∀ t : State, t.heap = H' → s.WarmedH t.vm → px_H X w1 t t.heap := fun t ht hW => by rw [ht]; exact hH'.moved hW.alike
  match r1, hrt, hn, hq with
  | none, hrt, hn, hq =>
    have hr2 : meth.sig.returnType = none := by
      cases hm : M2.2.2.2.1 with
      | none => exact hr.trans hm
      | some ty => rw [hm] at hn; exact absurd hn id
    exact W.vret hx hb hr2 (fun t ht hW => ⟨rfl, hq t ht hW⟩) hl' hrt hlocks
  | some (.int v), hrt, hn, hq =>
    cases hm : M2.2.2.2.1 with
    | none => rw [hm] at hn; exact absurd hn id
    | some ty =>
      rw [hm] at hn
      have hn2 : narrow ty (.int v) = .int v := by cases ty <;> exact hn
      exact W.zret hx hb (hr.trans hm) hn2 (fun t ht hW => ⟨rfl, hq t ht hW⟩) hl' hrt hlocks
  | some (.long v), hrt, hn, hq =>
    have hr2 : meth.sig.returnType = some .long := by
      cases hm : M2.2.2.2.1 with
      | none => rw [hm] at hn; exact absurd hn id
      | some ty => rw [hm] at hn; cases ty <;> first | exact hr.trans hm | exact absurd hn id
    exact W.lret hx hb hr2 (fun t ht hW => ⟨rfl, hq t ht hW⟩) hl' hrt hlocks
theorem px_run {p : Program} {e : Env} {R : Room} {s : State} {m : MethodId} {args a : Array Value} {below : List Frame} {meth : Method} {c : Code} {H : Heap} {locs : List Loc} {cells slots mc ms : Nat} {Q : State → Prop} {la : Array Slot} {st0 : List Value} {r1 : Option Value} {w1 : px_W}
    (hr : va_Run p X.1 e R s m args below meth c H locs cells slots mc ms (F0 m pc la st0) rest (px_Q X r1 w1 a) (fun q => X.2.2.2.1 ≤ q)) (hloc : ∀ q ∈ locs, X.2.2.2.1 ≤ q.base)
    (kk : ∀ (H1 : Heap) (locs1 : List Loc), px_H X w1 s H1 → (∀ q ∈ locs1, X.2.2.2.1 ≤ q.base) → W p X.1 e R s m args below meth c H1 locs1 (cells + mc) (slots + ms) Q (F0 m (pc + 3) la (r1.toList ++ rest))) : W p X.1 e R s m args below meth c H locs cells slots Q (F0 m pc la st0) := by
  intro T hT X0
  obtain ⟨v, st₀, t, T', L, h0, X', hL, e1, e2, ⟨hv, hH⟩, st⟩ := hr T hT X0
  cases hv
  obtain ⟨t2, a1, b1⟩ := kk T'.heap (locs ++ L) (by rw [e1]; exact hH.moved (by rw [← e2]; exact X'.warmed.alike.symm)) (fun q hq => by
    rcases List.mem_append.mp hq with h1 | h1
    · exact hloc q h1
    · exact hL q h1) T' rfl X'
  exact ⟨t2, st t2 a1, b1⟩
/-- what a call of M2 by M asks of the tables -/
def px_mB (M2 : px_M) (n : Nat) : Prop := Cond.code M2.1 M2.2.1 M2.2.2.1 M2.2.2.2.1 ∈ lw_tbl ∧ plainName M2.1.cls = true ∧ Cond.initialized M2.1.cls ∈ lw_tbl ∧ (M2.1.cls ≠ "java/lang/invoke/MethodHandle" ∧ M2.1.cls ≠ "java/lang/invoke/VarHandle") ∧ (parseMethodDescriptor M2.1.desc).map (fun d => d.parameters.length) = some n
def px_vB (M2 : px_M) : Prop := Cond.instanceMethod M2.1 ∈ lw_tbl ∧ Cond.selects M2.1.cls M2.1 M2.1 ∈ lw_tbl
def px_cB (M M2 : px_M) (n : Nat) : Prop := px_mB M2 n ∧ M2.2.2.2.2.1 + 1 ≤ M.2.2.2.2.1 ∧ 8 + (M2.2.2.1 + 11) + M2.2.2.2.2.2 ≤ M.2.2.2.2.2
def px_cL (M : px_M) (idx : Nat) (M2 : px_M) : Prop := Cond.methodLink M.1.cls idx M2.1 ∈ lw_tbl ∨ ∃ host, Cond.methodLinkNest M.1.cls idx M2.1 host ∈ tables_1
def px_cV (M : px_M) (idx : Nat) (M2 : px_M) (n : Nat) : Prop := px_cB M M2 n ∧ px_cL M idx M2 ∧ px_vB M2
def px_cS (M : px_M) (idx : Nat) (M2 : px_M) (n : Nat) : Prop := px_cB M M2 n ∧ px_cL M idx M2 ∧ Cond.static M2.1 ∈ lw_tbl
def px_cI (M : px_M) (idx : Nat) (M2 : px_M) (n : Nat) : Prop := px_cB M M2 n ∧ px_cL M idx M2 ∧ M2.1.name = "<init>" ∧ Cond.instanceMethod M2.1 ∈ lw_tbl ∧ M2.2.2.2.1 = none
theorem px_pay {args : Array Value} {s : State} {M2 : px_M} (hts : ∀ w ∈ px_lg, w.before args s = true) (hc : Cond.code M2.1 M2.2.1 M2.2.2.1 M2.2.2.2.1 ∈ lw_tbl) : ∀ w ∈ (Cond.code M2.1 M2.2.1 M2.2.2.1 M2.2.2.2.1 :: px_lg), ∀ (a' : Array Value) (U : State), s.WarmedH U.vm → w.before a' U = true := by
  intro w hw a' U hW
  have hw2 : w ∈ px_lg := by
    rcases List.mem_cons.mp hw with rfl | h
    · exact px_lgi hc rfl
    · exact h
  exact word_at hW (good_of_word (List.mem_filter.mp hw2).2) (hts w hw2)
theorem px_len {n : Nat} {d : String} (h : (parseMethodDescriptor d).map (fun d => d.parameters.length) = some n) : ∀ sig, parseMethodDescriptor d = some sig → n = sig.parameters.length := fun sig h1 => by
  rw [h1] at h
  exact (Option.some.inj h).symm
theorem EV.callV {M2 : px_M} {idx ci b : Nat} {q : vw_C} {fs As : List Value} {r1 : Option Value} {w1 : px_W} (d : decode M.2.1 pc = .ok (.invokevirtual idx, 3)) (hc : px_cV M idx M2 As.length) (hw : w.1 b = some (.inr (ci, fs))) (hq : vwCl[ci]? = some q) (hqc : q.1 = M2.1.cls) (hst : st = As.reverse ++ .ref b :: rest) (hrest : (rest.map fun v => v.category).sum ≤ 8) (hav : (lg_sl (.ref b :: As)).length ≤ M2.2.2.1)
    (h2 : EV X M2 0 (lv_args 0 (.ref b :: As)) [] w r1 w1) (h : EV X M (pc + 3) ls (r1.toList ++ rest) w1 r w') : EV X M pc ls st w r w' := by
  subst hst
  obtain ⟨⟨⟨g1, g2, g3, g4, g5⟩, g6, g7⟩, hl, g8, g9⟩ := hc
  refine EV.goW (w1 := w1) h2.1.2 ?_ h
  intro p e R s m args below meth c H locs cells slots Q la hB h1 h3 hH hloc ha kk
  obtain ⟨hx, hb, hml, hown, hts, hfr, hlo, hnm, hK⟩ := hB
  have hM := EV.met g2 hav h2
  have hp : PreV s H M2.1.cls b (px_P X (.ref b :: As) w) As := ⟨px_blind _ _, by rw [← hqc]; exact va_recv (q0 := 0) (fs := fs) hK.1 (px_sing hH hw) hq rfl, fun U hU hW => ⟨rfl, by rw [hU]; exact hH.moved hW.alike, hK.warm hW⟩⟩
  rcases hl with hl | ⟨host, hl⟩
  · exact px_run (va_runV (Ts := px_lg) (own := M.1.cls) (n := As.length) (As := As) (rest := rest) ⟨hx, hb, hml, hown, hts⟩ hM ⟨⟨rfl, rfl, Nat.le_trans g6 hfr, Nat.le_trans g7 hlo, px_pay hts g1, List.mem_cons_self, hts _ (px_lgi g1 rfl), hts _ (px_lgi g3 rfl), g4, px_len g5, hts _ (px_lgi hl rfl)⟩, hts _ (px_lgi g8 rfl), hts _ (px_lgi g9 rfl)⟩ hp rfl rfl ha.1 rfl (lv_room hrest) d ⟨h1, h3⟩) hloc (fun H1 locs1 hH1 hl1 => kk H1 locs1 la hH1 hl1 ha)
  · exact px_run (va_runVN (Ts := px_lg) (own := M.1.cls) (n := As.length) (As := As) (rest := rest) ⟨hx, hb, hml, hown, hts⟩ hM ⟨⟨⟨rfl, rfl, Nat.le_trans g6 hfr, Nat.le_trans g7 hlo, px_pay hts g1, List.mem_cons_self⟩, hts _ (px_lgi g1 rfl), hts _ (px_lgi g3 rfl), g4, px_len g5, va_Nw.use rfl (hK.2.2.1 _ hl rfl)⟩, hts _ (px_lgi g8 rfl), hts _ (px_lgi g9 rfl)⟩ hp rfl rfl ha.1 rfl (lv_room hrest) d ⟨h1, h3⟩) hloc (fun H1 locs1 hH1 hl1 => kk H1 locs1 la hH1 hl1 ha)
theorem EV.callS {M2 : px_M} {idx : Nat} {As : List Value} {r1 : Option Value} {w1 : px_W} (d : decode M.2.1 pc = .ok (.invokestatic idx, 3)) (hc : px_cS M idx M2 As.length) (hst : st = As.reverse ++ rest) (hrest : (rest.map fun v => v.category).sum ≤ 8) (hav : (lg_sl As).length ≤ M2.2.2.1)
    (h2 : EV X M2 0 (lv_args 0 As) [] w r1 w1) (h : EV X M (pc + 3) ls (r1.toList ++ rest) w1 r w') : EV X M pc ls st w r w' := by
  subst hst
  obtain ⟨⟨⟨g1, g2, g3, g4, g5⟩, g6, g7⟩, hl, g8⟩ := hc
  refine EV.goW (w1 := w1) h2.1.2 ?_ h
  intro p e R s m args below meth c H locs cells slots Q la hB h1 h3 hH hloc ha kk
  obtain ⟨hx, hb, hml, hown, hts, hfr, hlo, hnm, hK⟩ := hB
  have hM := EV.met g2 hav h2
  have hp : PreS s H (px_P X As w) As := ⟨px_blind _ _, fun U hU hW => ⟨rfl, by rw [hU]; exact hH.moved hW.alike, hK.warm hW⟩⟩
  rcases hl with hl | ⟨host, hl⟩
  · exact px_run (va_runS (Ts := px_lg) (own := M.1.cls) (n := As.length) (As := As) (rest := rest) ⟨hx, hb, hml, hown, hts⟩ hM ⟨⟨rfl, rfl, Nat.le_trans g6 hfr, Nat.le_trans g7 hlo, px_pay hts g1, List.mem_cons_self, hts _ (px_lgi g1 rfl), hts _ (px_lgi g3 rfl), g4, px_len g5, hts _ (px_lgi hl rfl)⟩, hts _ (px_lgi g8 rfl)⟩ hp rfl rfl ha.1 rfl (lv_room hrest) d ⟨h1, h3⟩) hloc (fun H1 locs1 hH1 hl1 => kk H1 locs1 la hH1 hl1 ha)
  · exact px_run (va_runSN (Ts := px_lg) (own := M.1.cls) (n := As.length) (As := As) (rest := rest) ⟨hx, hb, hml, hown, hts⟩ hM ⟨⟨⟨rfl, rfl, Nat.le_trans g6 hfr, Nat.le_trans g7 hlo, px_pay hts g1, List.mem_cons_self⟩, hts _ (px_lgi g1 rfl), hts _ (px_lgi g3 rfl), g4, px_len g5, va_Nw.use rfl (hK.2.2.1 _ hl rfl)⟩, hts _ (px_lgi g8 rfl), trivial⟩ hp rfl rfl ha.1 rfl (lv_room hrest) d ⟨h1, h3⟩) hloc (fun H1 locs1 hH1 hl1 => kk H1 locs1 la hH1 hl1 ha)
theorem EV.callI {y : MethodName} {cd : ByteArray} {mL fr lo : Nat} {idx b : Nat} {As : List Value} {w1 : px_W} (d : decode M.2.1 pc = .ok (.invokespecial idx, 3)) (hc : px_cI M idx (y, cd, mL, none, fr, lo) As.length) (hst : st = As.reverse ++ .ref b :: rest) (hrest : (rest.map fun v => v.category).sum ≤ 8) (hav : (lg_sl (.ref b :: As)).length ≤ mL)
    (h2 : EV X (y, cd, mL, none, fr, lo) 0 (lv_args 0 (.ref b :: As)) [] w none w1) (h : EV X M (pc + 3) ls rest w1 r w') : EV X M pc ls st w r w' := by
  subst hst
  obtain ⟨⟨⟨g1, g2, g3, g4, g5⟩, g6, g7⟩, hl, g8, g9, -⟩ := hc
  refine EV.goW (w1 := w1) h2.1.2 ?_ h
  intro p e R s m args below meth c H locs cells slots Q la hB h1 h3 hH hloc ha kk
  obtain ⟨hx, hb, hml, hown, hts, hfr, hlo, hnm, hK⟩ := hB
  have hM := EV.met (M2 := (y, cd, mL, none, fr, lo)) (r1 := none) g2 hav h2
  have hp : PreS s H (px_P X (.ref b :: As) w) (.ref b :: As) := ⟨px_blind _ _, fun U hU hW => ⟨rfl, by rw [hU]; exact hH.moved hW.alike, hK.warm hW⟩⟩
  rcases hl with hl | ⟨host, hl⟩
  · exact px_run (va_runI (Ts := px_lg) (own := M.1.cls) (n := As.length) (As := As) (rest := rest) ⟨hx, hb, hml, hown, hts⟩ hM ⟨⟨rfl, rfl, Nat.le_trans g6 hfr, Nat.le_trans g7 hlo, px_pay (M2 := (y, cd, mL, none, fr, lo)) hts g1, List.mem_cons_self, hts _ (px_lgi g1 rfl), hts _ (px_lgi g3 rfl), g4, px_len g5, hts _ (px_lgi hl rfl)⟩, g8, hts _ (px_lgi g9 rfl)⟩ hp rfl rfl ha.1 rfl (lv_room hrest) d ⟨h1, h3⟩) hloc (fun H1 locs1 hH1 hl1 => kk H1 locs1 la hH1 hl1 ha)
  · exact px_run (va_runIN (Ts := px_lg) (own := M.1.cls) (n := As.length) (As := As) (rest := rest) ⟨hx, hb, hml, hown, hts⟩ hM ⟨⟨⟨rfl, rfl, Nat.le_trans g6 hfr, Nat.le_trans g7 hlo, px_pay (M2 := (y, cd, mL, none, fr, lo)) hts g1, List.mem_cons_self⟩, hts _ (px_lgi g1 rfl), hts _ (px_lgi g3 rfl), g4, px_len g5, va_Nw.use rfl (hK.2.2.1 _ hl rfl)⟩, g8, hts _ (px_lgi g9 rfl)⟩ hp rfl rfl ha.1 rfl (lv_room hrest) d ⟨h1, h3⟩) hloc (fun H1 locs1 hH1 hl1 => kk H1 locs1 la hH1 hl1 ha)
/-- System.arraycopy of numbers -/
theorem EV.copy {idx a0 a t n0 n1 : Nat} {f g : Nat → Int32} {ty : FieldType} {sp dp n : Int32} (d : decode M.2.1 pc = .ok (.invokestatic idx, 3)) (hl : Cond.methodLink M.1.cls idx arraycopyName ∈ lw_tbl) (hF : 1 ≤ M.2.2.2.2.1) (hL : 60 ≤ M.2.2.2.2.2) (hr : (rest.map fun v => v.category).sum ≤ 8)
    (hw0 : w.1 a0 = some (.inl (t, n0, .inl f))) (hw1 : w.1 a = some (.inl (t, n1, .inl g))) (ht : px_ty[t]? = some ty) (hprim : refKind ty = false) (h1 : ¬ sp < 0) (h2 : ¬ dp < 0) (h3 : ¬ n < 0) (h4 : sp.toNatClampNeg + n.toNatClampNeg ≤ n0) (h5 : dp.toNatClampNeg + n.toNatClampNeg ≤ n1) (hfit : ∀ i, i < n.toNatClampNeg → fits ty (.int (f (sp.toNatClampNeg + i))) = true)
    (h : EV X M (pc + 3) ls rest (px_set w a (.inl (t, n1, .inl (va_cpy f g sp.toNatClampNeg dp.toNatClampNeg n.toNatClampNeg)))) r w') : EV X M pc ls (.int n :: .int dp :: .ref a :: .int sp :: .ref a0 :: rest) w r w' := by
  refine EV.goS (fun p e R s m args below meth c H locs cells slots Q la hB hH hloc ha kk => ?_) h
  obtain ⟨hx, hb, hml, hown, hts, hfr, hlo, hnm, hK⟩ := hB
  have nn : ∀ z : Int32, ¬ z < 0 → z.toInt = (z.toNatClampNeg : Int) := by
    intro z hz
    have hz0 : (0 : Int) ≤ z.toInt := by
      have := Int32.not_lt.mp hz
      simpa using Int32.le_iff_toInt_le.mp this
    show z.toInt = ((z.toInt.toNat : Nat) : Int)
    omega
  obtain ⟨hb0, hc0⟩ := hH.2.2.1 a0 _ hw0
  obtain ⟨hb1, hc1⟩ := hH.2.2.1 a _ hw1
  have hc0 : H[a0]? = some (vp_cell (X.2.2.1 t) (n0, .inl f)) := hc0
  have hc1 : H[a]? = some (vp_cell (X.2.2.1 t) (n1, .inl g)) := hc1
  obtain ⟨-, k0, hk0, cm0, hkk0⟩ := (hK.2.1 t _ ht).1 n0 (fun j => .int (f j))
  obtain ⟨-, k1, hk1, cm1, hkk1⟩ := (hK.2.1 t _ ht).1 n1 (fun j => .int (g j))
  have hsys : (Cond.native arraycopyName).before args s = true := hts _ (px_lgi (px_lgt (List.mem_of_getElem? (i := 599) (by decide +kernel))) rfl)
  have hsta : (Cond.static arraycopyName).before args s = true := hts _ (px_lgi (px_lgt (List.mem_of_getElem? (i := 598) (by decide +kernel))) rfl)
  have hini : (Cond.initialized "java/lang/System").before args s = true := hts _ (px_lgi (px_lgt (List.mem_of_getElem? (i := 17) (by decide +kernel))) rfl)
  intro T hT X0
  obtain ⟨vm', X', step⟩ := X0.arraycopy hx hown (hts _ (px_lgi hl rfl)) hsys hsta hini (src := a0) (dst := a) (cs := vp_cell (X.2.2.1 t) (n0, .inl f)) (cd := vp_cell (X.2.2.1 t) (n1, .inl g)) (srcPos := sp) (destPos := dp) (n := n) (by rw [hT]; exact hc0) (by rw [hT]; exact hc1)
    (fun _ h => by cases h) (fun _ h => by cases h) (fun h => by cases h) (fun h => by cases h) hk0 hk1 hkk0 hkk1 (by simp [hprim]) h1 h2 h3
    (by rw [nn sp h1, nn n h3]; show ¬ _ > ((arrV (X.2.2.1 t) n0 (fun j => .int (f j))).slots.size : Int); rw [arrV_size]; omega)
    (by rw [nn dp h2, nn n h3]; show ¬ _ > ((arrV (X.2.2.1 t) n1 (fun j => .int (g j))).slots.size : Int); rw [arrV_size]; omega)
    (fun vm₁ _ i hi => by
      have e : (vp_cell (X.2.2.1 t) (n0, .inl f)).slots.getD (sp.toNatClampNeg + i) .null = .int (f (sp.toNatClampNeg + i)) := by
        show (arrV (X.2.2.1 t) n0 (fun j => .int (f j))).slots.getD _ _ = _
        rw [Array.getD_eq_getD_getElem?, arrV_read _ _ (by omega)]
        rfl
      refine ⟨?_, ?_⟩
      · rw [e]
        exact hfit i hi
      · rw [e]
        exact trivial)
    (g := F0 m pc la (.int n :: .int dp :: .ref a :: .int sp :: .ref a0 :: rest)) rfl (by rw [hml]; exact ha.1) (rest := rest) rfl (by rw [hb]; exact d) (Nat.le_trans hF hfr) (by show 2 * 0 + _ + (5 + 2 + 11) ≤ _; omega)
  have e1 : copied (vp_cell (X.2.2.1 t) (n0, .inl f)) (vp_cell (X.2.2.1 t) (n1, .inl g)) sp dp n = vp_cell (X.2.2.1 t) (n1, .inl (va_cpy f g sp.toNatClampNeg dp.toNatClampNeg n.toNatClampNeg)) := va_copied (fun z => .int z) (X.2.2.1 t) (X.2.2.1 t) f g h4
  rw [e1] at X' step
  have hlA : a < H.size := (Array.getElem?_eq_some_iff.mp hc1).1
  have hheap : ((T.setVm vm').setCell a (vp_cell (X.2.2.1 t) (n1, .inl (va_cpy f g sp.toNatClampNeg dp.toNatClampNeg n.toNatClampNeg)))).heap = H.setIfInBounds a (vp_cell (X.2.2.1 t) (n1, .inl (va_cpy f g sp.toNatClampNeg dp.toNatClampNeg n.toNatClampNeg))) := by rw [← hT]; rfl
  have oq : ∀ q : Nat, q ≠ a → (H.setIfInBounds a (vp_cell (X.2.2.1 t) (n1, .inl (va_cpy f g sp.toNatClampNeg dp.toNatClampNeg n.toNatClampNeg))))[q]? = H[q]? := fun q hq => by simp [Array.getElem?_setIfInBounds, Ne.symm hq]
  obtain ⟨t', a1, b1⟩ := kk _ _ (hH.put hw1 (show (H.setIfInBounds a _)[a]? = some _ by simp [Array.getElem?_setIfInBounds, hlA]) (by simp) oq) (fun q hq => by
      rcases List.mem_append.mp hq with h | h
      · exact hloc q h
      · obtain ⟨z, -, hz⟩ := List.mem_map.mp h
        rw [← hz]
        exact hb1) _ hheap X'
  exact ⟨t', step t' a1, b1⟩
theorem EV.mmax {idx : Nat} {x y : Int32} (d : decode M.2.1 pc = .ok (.invokestatic idx, 3)) (hl : Cond.methodLink M.1.cls idx Lib.Math.max.name ∈ lw_tbl) (hF : 1 ≤ M.2.2.2.2.1) (hL : 30 ≤ M.2.2.2.2.2) (hr : (rest.map fun v => v.category).sum ≤ 8) (h : EV X M (pc + 3) ls (.int (mmax x y) :: rest) w r w') : EV X M pc ls (.int y :: .int x :: rest) w r w' := by
  refine EV.goW (w1 := w) ⟨Nat.le_refl _, Nat.le_refl _⟩ ?_ h
  intro p e R s m args below meth c H locs cells slots Q la hB h1 h2 hH hloc ha kk
  obtain ⟨hx, hb, hml, hown, hts, hfr, hlo, hnm, hK⟩ := hB
  have hh := kk H locs la hH hloc ha
  rw [Nat.sub_self] at h1 h2 hh
  rw [Nat.sub_self] at hh
  exact va_mmax hx hb (hml.trans ha.1.symm) hown (hts _ (px_lgi hl rfl)) (hts _ (px_lgi (px_lgt (List.mem_of_getElem? (i := 759) (by decide +kernel))) rfl)) (hts _ (px_lgi (px_lgt (List.mem_of_getElem? (i := 19) (by decide +kernel))) rfl)) (hts _ (px_lgi (px_lgt (List.mem_of_getElem? (i := 760) (by decide +kernel))) rfl)) (Nat.le_trans hF hfr) (by omega) h1 h2 d hh
theorem EV.mmin {idx : Nat} {x y : Int32} (d : decode M.2.1 pc = .ok (.invokestatic idx, 3)) (hl : Cond.methodLink M.1.cls idx Lib.Math.min.name ∈ lw_tbl) (hF : 1 ≤ M.2.2.2.2.1) (hL : 30 ≤ M.2.2.2.2.2) (hr : (rest.map fun v => v.category).sum ≤ 8) (h : EV X M (pc + 3) ls (.int (mmin x y) :: rest) w r w') : EV X M pc ls (.int y :: .int x :: rest) w r w' := by
  refine EV.goW (w1 := w) ⟨Nat.le_refl _, Nat.le_refl _⟩ ?_ h
  intro p e R s m args below meth c H locs cells slots Q la hB h1 h2 hH hloc ha kk
  obtain ⟨hx, hb, hml, hown, hts, hfr, hlo, hnm, hK⟩ := hB
  have hh := kk H locs la hH hloc ha
  rw [Nat.sub_self] at h1 h2 hh
  rw [Nat.sub_self] at hh
  exact va_mmin hx hb (hml.trans ha.1.symm) hown (hts _ (px_lgi hl rfl)) (hts _ (px_lgi (px_lgt (List.mem_of_getElem? (i := 1078) (by decide +kernel))) rfl)) (hts _ (px_lgi (px_lgt (List.mem_of_getElem? (i := 19) (by decide +kernel))) rfl)) (hts _ (px_lgi (px_lgt (List.mem_of_getElem? (i := 1079) (by decide +kernel))) rfl)) (Nat.le_trans hF hfr) (by omega) h1 h2 d hh
theorem EV.mabs {idx : Nat} {x : Int32} (d : decode M.2.1 pc = .ok (.invokestatic idx, 3)) (hl : Cond.methodLink M.1.cls idx Lib.Math.abs.name ∈ lw_tbl) (hF : 1 ≤ M.2.2.2.2.1) (hL : 30 ≤ M.2.2.2.2.2) (hr : (rest.map fun v => v.category).sum ≤ 8) (h : EV X M (pc + 3) ls (.int (mabs x) :: rest) w r w') : EV X M pc ls (.int x :: rest) w r w' := by
  refine EV.goW (w1 := w) ⟨Nat.le_refl _, Nat.le_refl _⟩ ?_ h
  intro p e R s m args below meth c H locs cells slots Q la hB h1 h2 hH hloc ha kk
  obtain ⟨hx, hb, hml, hown, hts, hfr, hlo, hnm, hK⟩ := hB
  have hh := kk H locs la hH hloc ha
  rw [Nat.sub_self] at h1 h2 hh
  rw [Nat.sub_self] at hh
  exact va_mabs hx hb (hml.trans ha.1.symm) hown (hts _ (px_lgi hl rfl)) (hts _ (px_lgi (px_lgt (List.mem_of_getElem? (i := 872) (by decide +kernel))) rfl)) (hts _ (px_lgi (px_lgt (List.mem_of_getElem? (i := 19) (by decide +kernel))) rfl)) (hts _ (px_lgi (px_lgt (List.mem_of_getElem? (i := 873) (by decide +kernel))) rfl)) (Nat.le_trans hF hfr) (by omega) h1 h2 d hh
theorem EV.mmaxL {idx : Nat} {x y : Int64} (d : decode M.2.1 pc = .ok (.invokestatic idx, 3)) (hl : Cond.methodLink M.1.cls idx Lib.MathLoose.max_long.x ∈ lw_tbl) (hF : 1 ≤ M.2.2.2.2.1) (hL : 30 ≤ M.2.2.2.2.2) (hr : (rest.map fun v => v.category).sum ≤ 8) (h : EV X M (pc + 3) ls (.long (mmaxL x y) :: rest) w r w') : EV X M pc ls (.long y :: .long x :: rest) w r w' := by
  refine EV.goW (w1 := w) ⟨Nat.le_refl _, Nat.le_refl _⟩ ?_ h
  intro p e R s m args below meth c H locs cells slots Q la hB h1 h2 hH hloc ha kk
  obtain ⟨hx, hb, hml, hown, hts, hfr, hlo, hnm, hK⟩ := hB
  have hh := kk H locs la hH hloc ha
  rw [Nat.sub_self] at h1 h2 hh
  rw [Nat.sub_self] at hh
  exact va_mmax_long hx hb (hml.trans ha.1.symm) hown (hts _ (px_lgi hl rfl)) (hts _ (px_lgi (px_lgt (List.mem_of_getElem? (i := 1136) (by decide +kernel))) rfl)) (hts _ (px_lgi (px_lgt (List.mem_of_getElem? (i := 19) (by decide +kernel))) rfl)) (hts _ (px_lgi (px_lgt (List.mem_of_getElem? (i := 1137) (by decide +kernel))) rfl)) (Nat.le_trans hF hfr) (by omega) h1 h2 d hh
theorem EV.mminL {idx : Nat} {x y : Int64} (d : decode M.2.1 pc = .ok (.invokestatic idx, 3)) (hl : Cond.methodLink M.1.cls idx Lib.MathLoose.min_long.x ∈ lw_tbl) (hF : 1 ≤ M.2.2.2.2.1) (hL : 30 ≤ M.2.2.2.2.2) (hr : (rest.map fun v => v.category).sum ≤ 8) (h : EV X M (pc + 3) ls (.long (mminL x y) :: rest) w r w') : EV X M pc ls (.long y :: .long x :: rest) w r w' := by
  refine EV.goW (w1 := w) ⟨Nat.le_refl _, Nat.le_refl _⟩ ?_ h
  intro p e R s m args below meth c H locs cells slots Q la hB h1 h2 hH hloc ha kk
  obtain ⟨hx, hb, hml, hown, hts, hfr, hlo, hnm, hK⟩ := hB
  have hh := kk H locs la hH hloc ha
  rw [Nat.sub_self] at h1 h2 hh
  rw [Nat.sub_self] at hh
  exact va_mmin_long hx hb (hml.trans ha.1.symm) hown (hts _ (px_lgi hl rfl)) (hts _ (px_lgi (px_lgt (List.mem_of_getElem? (i := 1133) (by decide +kernel))) rfl)) (hts _ (px_lgi (px_lgt (List.mem_of_getElem? (i := 19) (by decide +kernel))) rfl)) (hts _ (px_lgi (px_lgt (List.mem_of_getElem? (i := 1134) (by decide +kernel))) rfl)) (Nat.le_trans hF hfr) (by omega) h1 h2 d hh
end EVC
