/-! CHECKED READS AND WRITES: what a method's instruction asks of the world, as an Option; a rule of EV each -/
theorem px_z1 {v : Int32} (h : v = 0 ∨ v = 1) : narrow .boolean (.int v) = .int v ∧ fits .boolean (.int v) = true := by
  rcases h with rfl | rfl <;> exact ⟨by decide, by decide⟩
theorem zR_ok {v : Int32} {w : px_W} {q : Int32 × px_W} (h : zR v w = some q) : q = (v, w) ∧ (v = 0 ∨ v = 1) := by
  unfold zR at h
  split at h
  · rename_i hz; cases h; exact ⟨rfl, hz⟩
  · cases h
theorem gV_ok {w : px_W} {a ci k : Nat} {v : Value} (h : gV w a ci k = some v) : ∃ fs, w.1 a = some (.inr (ci, fs)) ∧ fs[k]? = some v := by
  unfold gV at h
  split at h
  · rename_i c fs hw
    split at h
    · rename_i hc; subst hc; exact ⟨fs, hw, h⟩
    · cases h
  · cases h
theorem gI_ok {w : px_W} {a ci k : Nat} {v : Int32} (h : gI w a ci k = some v) : gV w a ci k = some (.int v) := by
  unfold gI at h
  split at h
  · rename_i x hx; cases h; exact hx
  · cases h
theorem gR_ok {w : px_W} {a ci k v : Nat} (h : gR w a ci k = some v) : gV w a ci k = some (.ref v) := by
  unfold gR at h
  split at h
  · rename_i x hx; cases h; exact hx
  · cases h
theorem gO_ok {w : px_W} {a ci : Nat} {fs : List Value} (h : gO w a ci = some fs) : w.1 a = some (.inr (ci, fs)) := by
  unfold gO at h
  split at h
  · rename_i c fs hw
    split at h
    · rename_i hc; subst hc; cases h; exact hw
    · cases h
  · cases h
theorem pV_ok {w : px_W} {a ci k : Nat} {v : Value} {w1 : px_W} (h : pV w a ci k v = some w1) : ∃ fs, w.1 a = some (.inr (ci, fs)) ∧ k < fs.length ∧ w1 = px_set w a (.inr (ci, fs.set k v)) := by
  unfold pV at h
  split at h
  · rename_i c fs hw
    split at h
    · rename_i hc; obtain ⟨rfl, hk⟩ := hc; cases h; exact ⟨fs, hw, hk, rfl⟩
    · cases h
  · cases h
theorem px_vin {i : Int32} {n : Nat} (h0 : 0 ≤ i) (h1 : i.toNatClampNeg < n) : vp_in i n := fun z => z.elim (fun z => absurd h0 (Int32.not_le.mpr z)) (fun z => absurd z (Nat.not_le.mpr h1))
theorem aN_ok {w : px_W} {t a : Nat} {i v : Int32} (h : aN w t a i = some v) : ∃ n f, w.1 a = some (.inl (t, n, .inl f)) ∧ vp_in i n ∧ v = f i.toNatClampNeg := by
  unfold aN at h
  split at h
  · rename_i t' n f hw
    split at h
    · rename_i hc; obtain ⟨rfl, h0, h1⟩ := hc; cases h; exact ⟨n, f, hw, px_vin h0 h1, rfl⟩
    · cases h
  · cases h
theorem aJ_ok {w : px_W} {a : Nat} {i : Int32} {v : Int64} (h : aJ w a i = some v) : ∃ n f, w.1 a = some (.inl (3, n, .inr (.inl f))) ∧ vp_in i n ∧ v = f i.toNatClampNeg := by
  unfold aJ at h
  split at h
  · rename_i t' n f hw
    split at h
    · rename_i hc; obtain ⟨rfl, h0, h1⟩ := hc; cases h; exact ⟨n, f, hw, px_vin h0 h1, rfl⟩
    · cases h
  · cases h
theorem aQ_ok {w : px_W} {t a v : Nat} {i : Int32} (h : aQ w t a i = some v) : ∃ n f, w.1 a = some (.inl (t, n, .inr (.inr (.inr (.inr f))))) ∧ vp_in i n ∧ f i.toNatClampNeg = some v := by
  unfold aQ at h
  split at h
  · rename_i t' n f hw
    split at h
    · rename_i hc; obtain ⟨rfl, h0, h1⟩ := hc; exact ⟨n, f, hw, px_vin h0 h1, h⟩
    · cases h
  · cases h
theorem aX_ok {X : px_X} {a : Nat} {i v : Int32} (h : aX X a i = some v) : ∃ n f, X.2.2.2.2.1 a = some (n, f) ∧ vp_in i n ∧ v = f i.toNatClampNeg := by
  unfold aX at h
  split at h
  · rename_i n f hw
    split at h
    · rename_i hc; cases h; exact ⟨n, f, hw, px_vin hc.1 hc.2, rfl⟩
    · cases h
  · cases h
theorem sN_ok {nr : Int32 → Int32} {w : px_W} {t a : Nat} {i x : Int32} {w1 : px_W} (h : sN nr w t a i x = some w1) : ∃ n f, w.1 a = some (.inl (t, n, .inl f)) ∧ vp_in i n ∧ w1 = px_set w a (.inl (t, n, .inl (upd f i.toNatClampNeg (nr x)))) := by
  unfold sN at h
  split at h
  · rename_i t' n f hw
    split at h
    · rename_i hc; obtain ⟨rfl, h0, h1⟩ := hc; cases h; exact ⟨n, f, hw, px_vin h0 h1, rfl⟩
    · cases h
  · cases h
theorem sJ_ok {w : px_W} {a : Nat} {i : Int32} {x : Int64} {w1 : px_W} (h : sJ w a i x = some w1) : ∃ n f, w.1 a = some (.inl (3, n, .inr (.inl f))) ∧ vp_in i n ∧ w1 = px_set w a (.inl (3, n, .inr (.inl (vp_updL f i.toNatClampNeg x)))) := by
  unfold sJ at h
  split at h
  · rename_i t' n f hw
    split at h
    · rename_i hc; obtain ⟨rfl, h0, h1⟩ := hc; cases h; exact ⟨n, f, hw, px_vin h0 h1, rfl⟩
    · cases h
  · cases h
theorem sQ_ok {w : px_W} {t ci a v : Nat} {i : Int32} {w1 : px_W} (h : sQ w t ci a i v = some w1) : ∃ n f fs, w.1 a = some (.inl (t, n, .inr (.inr (.inr (.inr f))))) ∧ w.1 v = some (.inr (ci, fs)) ∧ vp_in i n ∧ w1 = px_set w a (.inl (t, n, .inr (.inr (.inr (.inr (va_up f i.toNatClampNeg (some v))))))) := by
  unfold sQ at h
  split at h
  · rename_i t' n f hw
    split at h
    · rename_i hc
      obtain ⟨rfl, h0, h1, h2⟩ := hc
      cases h
      obtain ⟨fs, hfs⟩ := Option.isSome_iff_exists.mp h2
      exact ⟨n, f, fs, hw, gO_ok hfs, px_vin h0 h1, rfl⟩
    · cases h
  · cases h
theorem nA_ok {w : px_W} {t : Nat} {n : Int32} {c : (Nat → Int32) ⊕ (Nat → Int64) ⊕ (Nat → UInt32) ⊕ (Nat → UInt64) ⊕ (Nat → Option Nat)} {q : Nat × px_W} (h : nA w t n c = some q) : n = nI n.toNatClampNeg ∧ n.toNatClampNeg ≤ 60000000 ∧ q = (w.2.1, px_new w (.inl (t, n.toNatClampNeg, c)) n.toNatClampNeg) := by
  unfold nA at h
  split at h
  · rename_i hc
    obtain ⟨h0, h1⟩ := hc
    cases h
    obtain ⟨j, hj, hn⟩ := nI_of (Int32.not_lt.mpr h0)
    refine ⟨?_, h1, rfl⟩
    rw [hn, nI_clamp hj]
  · cases h
theorem cpy_ok {ok : Int32 → Bool} {w : px_W} {t a0 a : Nat} {sp dp n : Int32} {w1 : px_W} (h : cpy ok w t a0 sp a dp n = some w1) : ∃ n0 n1 f g, w.1 a0 = some (.inl (t, n0, .inl f)) ∧ w.1 a = some (.inl (t, n1, .inl g)) ∧ ¬ sp < 0 ∧ ¬ dp < 0 ∧ ¬ n < 0 ∧ sp.toNatClampNeg + n.toNatClampNeg ≤ n0 ∧ dp.toNatClampNeg + n.toNatClampNeg ≤ n1 ∧ (∀ i, i < n.toNatClampNeg → ok (f (sp.toNatClampNeg + i)) = true) ∧ w1 = px_set w a (.inl (t, n1, .inl (va_cpy f g sp.toNatClampNeg dp.toNatClampNeg n.toNatClampNeg))) := by
  unfold cpy at h
  split at h
  · rename_i t0 n0 f t1 n1 g hw0 hw1
    split at h
    · rename_i hc
      obtain ⟨rfl, rfl, h1, h2, h3, h4, h5, h6⟩ := hc
      cases h
      exact ⟨n0, n1, f, g, hw0, hw1, Int32.not_lt.mpr h1, Int32.not_lt.mpr h2, Int32.not_lt.mpr h3, h4, h5, h6, rfl⟩
    · cases h
  · cases h
def vC : List (String × u_T × Nat) := vwCl
section EVF
variable {X : px_X} {M : px_M} {pc : Nat} {ls : List (Nat × Value)} {st rest : List Value} {w : px_W} {r : Option Value} {w' : px_W}
theorem ev_gI {idx a ci k : Nat} {v : Int32} (d : decode M.2.1 pc = .ok (.getfield idx, 3)) (hf : px_f M.1.cls idx ci k) (g : gI w a ci k = some v) (h : EV X M (pc + 3) ls (.int v :: rest) w r w') : EV X M pc ls (.ref a :: rest) w r w' := by
  obtain ⟨fs, h1, h2⟩ := gV_ok (gI_ok g)
  exact EV.getf k d hf h1 h2 h
theorem ev_gR {idx a ci k v : Nat} (d : decode M.2.1 pc = .ok (.getfield idx, 3)) (hf : px_f M.1.cls idx ci k) (g : gR w a ci k = some v) (h : EV X M (pc + 3) ls (.ref v :: rest) w r w') : EV X M pc ls (.ref a :: rest) w r w' := by
  obtain ⟨fs, h1, h2⟩ := gV_ok (gR_ok g)
  exact EV.getf k d hf h1 h2 h
theorem ev_gQ {idx a ci k : Nat} {v : Option Nat} (d : decode M.2.1 pc = .ok (.getfield idx, 3)) (hf : px_f M.1.cls idx ci k) (g : gQ w a ci k = some v) (h : EV X M (pc + 3) ls (va_rf v :: rest) w r w') : EV X M pc ls (.ref a :: rest) w r w' := by
  unfold gQ at g
  split at g
  · rename_i x hx; cases g; obtain ⟨fs, h1, h2⟩ := gV_ok hx; exact EV.getf k d hf h1 h2 h
  · rename_i hx; cases g; obtain ⟨fs, h1, h2⟩ := gV_ok hx; exact EV.getf k d hf h1 h2 h
  · cases g
/-- a field of a type of which every such value fits -/
theorem ev_pV {idx a ci k : Nat} {v : Value} {w1 : px_W} (d : decode M.2.1 pc = .ok (.putfield idx, 3)) (hf : px_f M.1.cls idx ci k) {q : vw_C} (hq : vwCl[ci]? = some q) (hfin : (q.2.1 k).2.2.2 = false) (hn : narrow (px_fty q k) v = v) (hfit : fits (px_fty q k) v = true) (g : pV w a ci k v = some w1) (h : EV X M (pc + 3) ls rest w1 r w') : EV X M pc ls (v :: .ref a :: rest) w r w' := by
  obtain ⟨fs, h1, h2, rfl⟩ := pV_ok g
  exact EV.putf k d hf hq h1 hfin hn hfit h2 h
theorem ev_pZ {idx a ci k : Nat} {v : Int32} {w1 : px_W} (d : decode M.2.1 pc = .ok (.putfield idx, 3)) (hf : px_f M.1.cls idx ci k) {q : vw_C} (hq : vwCl[ci]? = some q) (hfin : (q.2.1 k).2.2.2 = false) (hty : px_fty q k = .boolean) (g : pZ w a ci k v = some w1) (h : EV X M (pc + 3) ls rest w1 r w') : EV X M pc ls (.int v :: .ref a :: rest) w r w' := by
  unfold pZ at g
  split at g
  · rename_i hz
    obtain ⟨fs, h1, h2, rfl⟩ := pV_ok g
    exact EV.putf k d hf hq h1 hfin (by rw [hty]; exact (px_z1 hz).1) (by rw [hty]; exact (px_z1 hz).2) h2 h
  · cases g
/-- a final field in its constructor -/
theorem ev_pF {idx a ci k : Nat} {v : Value} {w1 : px_W} (d : decode M.2.1 pc = .ok (.putfield idx, 3)) {q : vw_C} (hq : vwCl[ci]? = some q) (hk : k < q.2.2) (hl : Cond.fieldLink M.1.cls idx (q.2.1 k).1 (q.2.1 k).2.1 (q.2.1 k).2.2.1 ∈ lw_tbl) (hin2 : M.1.name = "<init>") (hdecl : (q.2.1 k).1 = M.1.cls) (hfin : (q.2.1 k).2.2.2 = true) (hn : narrow (px_fty q k) v = v) (hfit : fits (px_fty q k) v = true) (g : pV w a ci k v = some w1) (h : EV X M (pc + 3) ls rest w1 r w') : EV X M pc ls (v :: .ref a :: rest) w r w' := by
  obtain ⟨fs, h1, h2, rfl⟩ := pV_ok g
  exact EV.putF k d hq hk hl hin2 hdecl h1 hfin hn hfit h2 h
theorem ev_aI {a : Nat} {i v : Int32} (d : decode M.2.1 pc = .ok (.iaload, 1)) (g : aN w 0 a i = some v) (h : EV X M (pc + 1) ls (.int v :: rest) w r w') : EV X M pc ls (.int i :: .ref a :: rest) w r w' := by
  obtain ⟨n, f, h1, h2, rfl⟩ := aN_ok g
  exact EV.iald d h1 h2 h
theorem ev_aB {a : Nat} {i v : Int32} (d : decode M.2.1 pc = .ok (.baload, 1)) (g : aN w 1 a i = some v) (h : EV X M (pc + 1) ls (.int v :: rest) w r w') : EV X M pc ls (.int i :: .ref a :: rest) w r w' := by
  obtain ⟨n, f, h1, h2, rfl⟩ := aN_ok g
  exact EV.bald d h1 h2 h
theorem ev_aS {a : Nat} {i v : Int32} (d : decode M.2.1 pc = .ok (.saload, 1)) (g : aN w 2 a i = some v) (h : EV X M (pc + 1) ls (.int v :: rest) w r w') : EV X M pc ls (.int i :: .ref a :: rest) w r w' := by
  obtain ⟨n, f, h1, h2, rfl⟩ := aN_ok g
  exact EV.sald d h1 h2 h
theorem ev_aZ {a : Nat} {i v : Int32} (d : decode M.2.1 pc = .ok (.baload, 1)) (g : aN w 4 a i = some v) (h : EV X M (pc + 1) ls (.int v :: rest) w r w') : EV X M pc ls (.int i :: .ref a :: rest) w r w' := by
  obtain ⟨n, f, h1, h2, rfl⟩ := aN_ok g
  exact EV.zald d h1 h2 h
theorem ev_aJ {a : Nat} {i : Int32} {v : Int64} (d : decode M.2.1 pc = .ok (.laload, 1)) (g : aJ w a i = some v) (h : EV X M (pc + 1) ls (.long v :: rest) w r w') : EV X M pc ls (.int i :: .ref a :: rest) w r w' := by
  obtain ⟨n, f, h1, h2, rfl⟩ := aJ_ok g
  exact EV.lald d h1 h2 h
theorem ev_aQ {t a v : Nat} {i : Int32} {C : String} (d : decode M.2.1 pc = .ok (.aaload, 1)) (ht : px_ty[t]? = some (.object C)) (g : aQ w t a i = some v) (h : EV X M (pc + 1) ls (.ref v :: rest) w r w') : EV X M pc ls (.int i :: .ref a :: rest) w r w' := by
  obtain ⟨n, f, h1, h2, h3⟩ := aQ_ok g
  exact EV.aald d h1 ht h2 h3 h
theorem ev_aX {a : Nat} {i v : Int32} (d : decode M.2.1 pc = .ok (.iaload, 1)) (g : aX X a i = some v) (h : EV X M (pc + 1) ls (.int v :: rest) w r w') : EV X M pc ls (.int i :: .ref a :: rest) w r w' := by
  obtain ⟨n, f, h1, h2, rfl⟩ := aX_ok g
  exact EV.ialdR d h1 h2 h
theorem ev_aLX {a : Nat} {v : Int32} (d : decode M.2.1 pc = .ok (.arraylength, 1)) (g : aLX X a = some v) (h : EV X M (pc + 1) ls (.int v :: rest) w r w') : EV X M pc ls (.ref a :: rest) w r w' := by
  unfold aLX at g
  split at g
  · rename_i n f hw; cases g; exact EV.alenR d hw h
  · cases g
theorem ev_aL {t a : Nat} {v : Int32} {ty : FieldType} (d : decode M.2.1 pc = .ok (.arraylength, 1)) (ht : px_ty[t]? = some ty) (g : aL w t a = some v) (h : EV X M (pc + 1) ls (.int v :: rest) w r w') : EV X M pc ls (.ref a :: rest) w r w' := by
  unfold aL at g
  split at g
  · rename_i t' x hw
    split at g
    · rename_i hc; subst hc; cases g; exact EV.alen d hw ht h
    · cases g
  · cases g
theorem ev_sI {a : Nat} {i x : Int32} {w1 : px_W} (d : decode M.2.1 pc = .ok (.iastore, 1)) (g : sN id w 0 a i x = some w1) (h : EV X M (pc + 1) ls rest w1 r w') : EV X M pc ls (.int x :: .int i :: .ref a :: rest) w r w' := by
  obtain ⟨n, f, h1, h2, rfl⟩ := sN_ok g
  exact EV.iast d h1 h2 h
theorem ev_sB {a : Nat} {i x : Int32} {w1 : px_W} (d : decode M.2.1 pc = .ok (.bastore, 1)) (g : sN (vp_nar .byte) w 1 a i x = some w1) (h : EV X M (pc + 1) ls rest w1 r w') : EV X M pc ls (.int x :: .int i :: .ref a :: rest) w r w' := by
  obtain ⟨n, f, h1, h2, rfl⟩ := sN_ok g
  exact EV.bast d h1 h2 h
theorem ev_sS {a : Nat} {i x : Int32} {w1 : px_W} (d : decode M.2.1 pc = .ok (.sastore, 1)) (g : sN (vp_nar .short) w 2 a i x = some w1) (h : EV X M (pc + 1) ls rest w1 r w') : EV X M pc ls (.int x :: .int i :: .ref a :: rest) w r w' := by
  obtain ⟨n, f, h1, h2, rfl⟩ := sN_ok g
  exact EV.sast d h1 h2 h
theorem ev_sZ {a : Nat} {i x : Int32} {w1 : px_W} (d : decode M.2.1 pc = .ok (.bastore, 1)) (g : sN (vp_nar .boolean) w 4 a i x = some w1) (h : EV X M (pc + 1) ls rest w1 r w') : EV X M pc ls (.int x :: .int i :: .ref a :: rest) w r w' := by
  obtain ⟨n, f, h1, h2, rfl⟩ := sN_ok g
  exact EV.zast d h1 h2 h
theorem ev_sJ {a : Nat} {i : Int32} {x : Int64} {w1 : px_W} (d : decode M.2.1 pc = .ok (.lastore, 1)) (g : sJ w a i x = some w1) (h : EV X M (pc + 1) ls rest w1 r w') : EV X M pc ls (.long x :: .int i :: .ref a :: rest) w r w' := by
  obtain ⟨n, f, h1, h2, rfl⟩ := sJ_ok g
  exact EV.last d h1 h2 h
theorem ev_sQ {t ci a v : Nat} {i : Int32} {w1 : px_W} {q : vw_C} (d : decode M.2.1 pc = .ok (.aastore, 1)) (hc : vwCl[ci]? = some q) (ht : px_ty[t]? = some (.object q.1)) (g : sQ w t ci a i v = some w1) (h : EV X M (pc + 1) ls rest w1 r w') : EV X M pc ls (.ref v :: .int i :: .ref a :: rest) w r w' := by
  obtain ⟨n, f, fs, h1, h2, h3, rfl⟩ := sQ_ok g
  exact EV.aast d h1 h2 hc ht h3 h
theorem ev_nI {n : Int32} {q : Nat × px_W} (d : decode M.2.1 pc = .ok (.newarray .int, 2)) (g : nA w 0 n (.inl (fun _ => 0)) = some q) (h : EV X M (pc + 2) ls (.ref q.1 :: rest) q.2 r w') : EV X M pc ls (.int n :: rest) w r w' := by
  obtain ⟨h1, h2, rfl⟩ := nA_ok g
  exact EV.newI _ d h1 h2 h
theorem ev_nB {n : Int32} {q : Nat × px_W} (d : decode M.2.1 pc = .ok (.newarray .byte, 2)) (g : nA w 1 n (.inl (fun _ => 0)) = some q) (h : EV X M (pc + 2) ls (.ref q.1 :: rest) q.2 r w') : EV X M pc ls (.int n :: rest) w r w' := by
  obtain ⟨h1, h2, rfl⟩ := nA_ok g
  exact EV.newB _ d h1 h2 h
theorem ev_nS {n : Int32} {q : Nat × px_W} (d : decode M.2.1 pc = .ok (.newarray .short, 2)) (g : nA w 2 n (.inl (fun _ => 0)) = some q) (h : EV X M (pc + 2) ls (.ref q.1 :: rest) q.2 r w') : EV X M pc ls (.int n :: rest) w r w' := by
  obtain ⟨h1, h2, rfl⟩ := nA_ok g
  exact EV.newS _ d h1 h2 h
theorem ev_nJ {n : Int32} {q : Nat × px_W} (d : decode M.2.1 pc = .ok (.newarray .long, 2)) (g : nA w 3 n (.inr (.inl (fun _ => 0))) = some q) (h : EV X M (pc + 2) ls (.ref q.1 :: rest) q.2 r w') : EV X M pc ls (.int n :: rest) w r w' := by
  obtain ⟨h1, h2, rfl⟩ := nA_ok g
  exact EV.newJ _ d h1 h2 h
theorem ev_nZ {n : Int32} {q : Nat × px_W} (d : decode M.2.1 pc = .ok (.newarray .boolean, 2)) (g : nA w 4 n (.inl (fun _ => 0)) = some q) (h : EV X M (pc + 2) ls (.ref q.1 :: rest) q.2 r w') : EV X M pc ls (.int n :: rest) w r w' := by
  obtain ⟨h1, h2, rfl⟩ := nA_ok g
  exact EV.newZ _ d h1 h2 h
theorem ev_nQ {idx t : Nat} {C : String} {n : Int32} {q : Nat × px_W} (d : decode M.2.1 pc = .ok (.anewarray idx, 3)) (ht : px_ty[t]? = some (.object C)) (hl : Cond.classLink M.1.cls idx C ∈ lw_tbl) (hov : Cond.arrayOver (.object C) ∈ tables_1) (g : nA w t n (.inr (.inr (.inr (.inr (fun _ => none))))) = some q) (h : EV X M (pc + 3) ls (.ref q.1 :: rest) q.2 r w') : EV X M pc ls (.int n :: rest) w r w' := by
  obtain ⟨h1, h2, rfl⟩ := nA_ok g
  exact EV.anew _ d ht hl hov h1 h2 h
theorem ev_nO {idx ci N : Nat} {q : vw_C} {fs : List Value} {v : Nat × px_W} (d : decode M.2.1 pc = .ok (.new idx, 3)) (hq : vwCl[ci]? = some q) (hN : q.2.2 = N) (hl : Cond.classLink M.1.cls idx q.1 ∈ lw_tbl) (hi : Cond.instantiable q.1 N ∈ lw_tbl) (hn : Cond.initialized q.1 ∈ lw_tbl) (hfs : ∀ j, j < N → defaultValue (px_fty q j) = vp_V fs j) (g : nO w ci N fs = some v) (h : EV X M (pc + 3) ls (.ref v.1 :: rest) v.2 r w') : EV X M pc ls rest w r w' := by
  subst hN
  cases g
  exact EV.new fs d hq hl hi hn hfs h
theorem ev_cpI {idx a0 a : Nat} {sp dp n : Int32} {w1 : px_W} (d : decode M.2.1 pc = .ok (.invokestatic idx, 3)) (hl : Cond.methodLink M.1.cls idx arraycopyName ∈ lw_tbl) (hF : 1 ≤ M.2.2.2.2.1) (hL : 60 ≤ M.2.2.2.2.2) (hr : (rest.map fun v => v.category).sum ≤ 8) (g : cpy (fun _ => true) w 0 a0 sp a dp n = some w1) (h : EV X M (pc + 3) ls rest w1 r w') : EV X M pc ls (.int n :: .int dp :: .ref a :: .int sp :: .ref a0 :: rest) w r w' := by
  obtain ⟨n0, n1, f, g, h1, h2, h3, h4, h5, h6, h7, h8, rfl⟩ := cpy_ok g
  exact EV.copy d hl hF hL hr h1 h2 (ty := .int) rfl rfl h3 h4 h5 h6 h7 (fun _ _ => rfl) h
theorem ev_cpB {idx a0 a : Nat} {sp dp n : Int32} {w1 : px_W} (d : decode M.2.1 pc = .ok (.invokestatic idx, 3)) (hl : Cond.methodLink M.1.cls idx arraycopyName ∈ lw_tbl) (hF : 1 ≤ M.2.2.2.2.1) (hL : 60 ≤ M.2.2.2.2.2) (hr : (rest.map fun v => v.category).sum ≤ 8) (g : cpy (fun x => fits .byte (.int x)) w 1 a0 sp a dp n = some w1) (h : EV X M (pc + 3) ls rest w1 r w') : EV X M pc ls (.int n :: .int dp :: .ref a :: .int sp :: .ref a0 :: rest) w r w' := by
  obtain ⟨n0, n1, f, g, h1, h2, h3, h4, h5, h6, h7, h8, rfl⟩ := cpy_ok g
  exact EV.copy d hl hF hL hr h1 h2 (ty := .byte) rfl rfl h3 h4 h5 h6 h7 h8 h
theorem ev_dI {x y v : Int32} (d : decode M.2.1 pc = .ok (.idiv, 1)) (g : dI x y = some v) (h : EV X M (pc + 1) ls (.int v :: rest) w r w') : EV X M pc ls (.int y :: .int x :: rest) w r w' := by
  unfold dI at g
  split at g
  · cases g
  · rename_i hy; cases g; exact EV.idiv d hy h
theorem ev_rI {x y v : Int32} (d : decode M.2.1 pc = .ok (.irem, 1)) (g : rI x y = some v) (h : EV X M (pc + 1) ls (.int v :: rest) w r w') : EV X M pc ls (.int y :: .int x :: rest) w r w' := by
  unfold rI at g
  split at g
  · cases g
  · rename_i hy; cases g; exact EV.irem d hy h
theorem ev_dJ {x y v : Int64} (d : decode M.2.1 pc = .ok (.ldiv, 1)) (g : dJ x y = some v) (h : EV X M (pc + 1) ls (.long v :: rest) w r w') : EV X M pc ls (.long y :: .long x :: rest) w r w' := by
  unfold dJ at g
  split at g
  · cases g
  · rename_i hy; cases g; exact EV.ldiv d hy h
theorem ev_retZ {v : Int32} {q : Int32 × px_W} (d : decode M.2.1 pc = .ok (.ireturn, 1)) (hm : M.2.2.2.1 = some .boolean) (g : zR v w = some q) : EV X M pc ls [.int v] w (some (.int q.1)) q.2 := by
  obtain ⟨rfl, hz⟩ := zR_ok g
  exact EV.reti d (by rw [hm]; exact (px_z1 hz).1)
end EVF
