/-! numbers read; coefficients that become known -/
def nmb (k v : Nat) : Int := if k = 0 then 0 else if v / 2 ^ (k - 1) = 1 then v else (v : Int) - 2 ^ k + 1
theorem pw_16 {n : Nat} (h : n ≤ 16) : (1 : Int32) <<< (nI n &&& 31) = nI (2 ^ n) := by
  rcases (show n ≤ 8 ∨ n = 9 ∨ n = 10 ∨ n = 11 ∨ n = 12 ∨ n = 13 ∨ n = 14 ∨ n = 15 ∨ n = 16 by omega) with h | rfl | rfl | rfl | rfl | rfl | rfl | rfl | rfl
  · exact pw_n h
  all_goals decide
theorem nmb_b {k v : Nat} (h : v < 2 ^ k) : (nmb k v).natAbs < 2 ^ k := by
  unfold nmb
  by_cases k0 : k = 0
  · rw [if_pos k0, k0]
    decide
  · rw [if_neg k0]
    have hc : ((2 : Int) ^ k) = ((2 ^ k : Nat) : Int) := by
      rw [Int.natCast_pow]
      rfl
    split
    · omega
    · rw [hc]
      have := Nat.two_pow_pos k
      omega
theorem nmb_w {k v : Nat} (hk : k ≤ 16) (hk0 : k ≠ 0) (hv : v < 2 ^ k) : (if (nI v >>> ((nI k - 1) &&& 31)) = 1 then nI v else nI v - ((1 : Int32) <<< (nI k &&& 31)) + 1) = iI (nmb k v) := by
  have p16 : 2 ^ k ≤ 2 ^ 16 := Nat.pow_le_pow_right (by decide) hk
  have hd : v / 2 ^ (k - 1) < 65536 * 2 := Nat.lt_of_le_of_lt (Nat.div_le_self _ _) (by omega)
  rw [show nI k - 1 = nI (k - 1) from pk_sub (b := 1) (by omega), pk_shrN (by omega) _ (k - 1) (sm_16 (by omega)), pw_16 hk]
  unfold nmb
  rw [if_neg hk0]
  by_cases q : v / 2 ^ (k - 1) = 1
  · rw [if_pos (by rw [q]; rfl), if_pos q, iI_n]
  · have nq : ¬ nI (v / 2 ^ (k - 1)) = 1 := fun e => q ((nI_eq (b := 1) (by omega) (by omega)).mp e)
    rw [if_neg nq, if_neg q, iI_n, iI_n, iI_sub, show (1 : Int32) = iI 1 from rfl, iI_add]
    congr 2
section
variable {X : px_X} {b B : Nat} {w0 w1 : px_W} {x x' y y' : rg_S} {D : Nat → Nat} {n d0 k : Nat} {s s' : bSt}
theorem m_numO (hk : k ≤ 16) (h : yR y D n s) : ∃ u y', fX13_numberOf X (rg_p lM b w0 y) (b + 24) (nI k) = some (u, rg_p lM b w0 y') ∧ FYr y y' ∧ (tN D n k 0 s = none ∧ y'.1 24 46 = 1 ∨ ∃ v s', tN D n k 0 s = some (v, s') ∧ v < 2 ^ k ∧ u = iI (nmb k v) ∧ yR y' D n s') := by
  obtain ⟨u, y', e, F, hh⟩ := m_tN (X := X) (b := b) (w0 := w0) (m := k) k FU 0 0 y s (by omega) (by omega) (by unfold FU; omega) h
  have st : ∀ r, (if nI k = 0 then some ((0 : Int32), rg_p lM b w0 y') else if (u >>> ((nI k - 1) &&& 31)) = 1 then some (u, rg_p lM b w0 y') else some ((u - ((1 : Int32) <<< (nI k &&& 31))) + 1, rg_p lM b w0 y')) = r → fX13_numberOf X (rg_p lM b w0 y) (b + 24) (nI k) = r := by
    intro r hr
    unfold fX13_numberOf fX13_takeBits
    exact ob_v (rg_O rfl) (ob_v (show fX13_takeBits_4 X FU (b + 24) (nI k) (nI 0) (nI 0) _ = _ from e) hr)
  by_cases k0 : k = 0
  · refine ⟨0, y', st _ (ei_t (by rw [k0]; rfl) rfl), F, hh.imp id (fun ⟨v, s1, t1, t2, t3⟩ => ⟨v, s1, t1, ?_, ?_, t3⟩)⟩
    · have := (tN_ok h.2.2.2.2.2.2.1 h.2.2.2.2.2.2.2 t1).2.2
      omega
    · unfold nmb
      rw [if_pos k0]
      rfl
  · have kn : ¬ nI k = 0 := nI_ne0 (by omega) (by omega)
    rcases hh with ⟨t1, t2⟩ | ⟨v, s1, t1, t2, t3⟩
    · by_cases q : (u >>> ((nI k - 1) &&& 31)) = 1
      · exact ⟨_, y', st _ (ei_n kn (ei_t q rfl)), F, Or.inl ⟨t1, t2⟩⟩
      · exact ⟨_, y', st _ (ei_n kn (ei_n q rfl)), F, Or.inl ⟨t1, t2⟩⟩
    · have hv := (tN_ok h.2.2.2.2.2.2.1 h.2.2.2.2.2.2.2 t1).2.2
      rw [show (0 + 1) * 2 ^ k = 2 ^ k by omega] at hv
      have ew := nmb_w hk k0 hv
      rw [t2] at st
      refine ⟨iI (nmb k v), y', st _ (ei_n kn ?_), F, Or.inr ⟨v, s1, t1, hv, rfl, t3⟩⟩
      by_cases q : (nI v >>> ((nI k - 1) &&& 31)) = 1
      · rw [if_pos q] at ew ⊢
        rw [ew]
      · rw [if_neg q] at ew ⊢
        rw [ew]
/-- a number with a fault -/
theorem m_numO0 {f : Nat} (hf : y.1 24 46 = nI f) (h0 : 0 < f) (h9 : f < 100) (hk : k ≤ 16) : ∃ u, fX13_numberOf X (rg_p lM b w0 y) (b + 24) (nI k) = some (u, rg_p lM b w0 y) := by
  obtain ⟨u, e⟩ := m_tN0 (X := X) (b := b) (w0 := w0) hf h0 h9 (m := k) k FU 0 0 (by omega) (by omega) (by unfold FU; omega)
  have st : ∀ r, (if nI k = 0 then some ((0 : Int32), rg_p lM b w0 y) else if (u >>> ((nI k - 1) &&& 31)) = 1 then some (u, rg_p lM b w0 y) else some ((u - ((1 : Int32) <<< (nI k &&& 31))) + 1, rg_p lM b w0 y)) = r → fX13_numberOf X (rg_p lM b w0 y) (b + 24) (nI k) = r := by
    intro r hr
    unfold fX13_numberOf fX13_takeBits
    exact ob_v (rg_O rfl) (ob_v (show fX13_takeBits_4 X FU (b + 24) (nI k) 0 (nI 0) _ = _ from e) hr)
  by_cases k0 : nI k = 0
  · exact ⟨_, st _ (ei_t k0 rfl)⟩
  · by_cases q : (u >>> ((nI k - 1) &&& 31)) = 1
    · exact ⟨_, st _ (ei_n k0 (ei_t q rfl))⟩
    · exact ⟨_, st _ (ei_n k0 (ei_n q rfl))⟩
theorem x_numO (hk : k ≤ 16) (h : xR x D n d0 s) : ∃ u x', fX6_takeNumber X (rg_p lX B w0 x) (B + 95) (nI k) = some (u, rg_p lX B w0 x') ∧ FXr x x' ∧ (tN D n k 0 s = none ∧ x'.1 95 6 = 1 ∨ ∃ v s', tN D n k 0 s = some (v, s') ∧ v < 2 ^ k ∧ u = iI (nmb k v) ∧ xR x' D n d0 s') := by
  obtain ⟨u, x', e, F, hh⟩ := x_tN (X := X) (B := B) (w0 := w0) (m := k) k FU 0 0 x s (by omega) (by omega) (by unfold FU; omega) h
  have st : ∀ r, (if nI k = 0 then some (u, rg_p lX B w0 x') else if (u >>> ((nI k - 1) &&& 31)) = 1 then some (u, rg_p lX B w0 x') else some ((u - ((1 : Int32) <<< (nI k &&& 31))) + 1, rg_p lX B w0 x')) = r → fX6_takeNumber X (rg_p lX B w0 x) (B + 95) (nI k) = r := by
    intro r hr
    unfold fX6_takeNumber fX6_takeBits
    exact ob_v (rg_O rfl) (ob_v (show fX6_takeBits_4 X FU (B + 95) (nI k) (nI 0) (nI 0) _ = _ from e) hr)
  by_cases k0 : k = 0
  · refine ⟨u, x', st _ (ei_t (by rw [k0]; rfl) rfl), F, hh.imp id (fun ⟨v, s1, t1, t2, t3⟩ => ⟨v, s1, t1, ?_, ?_, t3⟩)⟩
    · have := (tN_ok h.2.2.2.2.2.2.2.2.1 h.2.2.2.2.2.2.2.2.2 t1).2.2
      omega
    · have := (tN_ok h.2.2.2.2.2.2.2.2.1 h.2.2.2.2.2.2.2.2.2 t1).2.2
      rw [k0] at this
      unfold nmb
      rw [if_pos k0, t2, show v = 0 by omega]
      rfl
  · have kn : ¬ nI k = 0 := nI_ne0 (by omega) (by omega)
    rcases hh with ⟨t1, t2⟩ | ⟨v, s1, t1, t2, t3⟩
    · by_cases q : (u >>> ((nI k - 1) &&& 31)) = 1
      · exact ⟨_, x', st _ (ei_n kn (ei_t q rfl)), F, Or.inl ⟨t1, t2⟩⟩
      · exact ⟨_, x', st _ (ei_n kn (ei_n q rfl)), F, Or.inl ⟨t1, t2⟩⟩
    · have hv := (tN_ok h.2.2.2.2.2.2.2.2.1 h.2.2.2.2.2.2.2.2.2 t1).2.2
      rw [show (0 + 1) * 2 ^ k = 2 ^ k by omega] at hv
      have ew := nmb_w hk k0 hv
      rw [t2] at st
      refine ⟨iI (nmb k v), x', st _ (ei_n kn ?_), F, Or.inr ⟨v, s1, t1, hv, rfl, t3⟩⟩
      by_cases q : (nI v >>> ((nI k - 1) &&& 31)) = 1
      · rw [if_pos q] at ew ⊢
        rw [ew]
      · rw [if_neg q] at ew ⊢
        rw [ew]
/-- what a coefficient at place k may be -/
def cKB (k : Nat) (z : Int) : Prop := (if k = 0 then -1024 else -1023) ≤ z ∧ z ≤ 1023
theorem sh_i {z : Int} (h1 : -1024 ≤ z) (h2 : z ≤ 1023) : vp_nar .short ((iI z).toInt16.toInt32) = iI z := by
  have e : (iI z).toInt16.toInt32 = iI z := by
    have := nar_ok (k := 0) (v := iI z) ⟨by rw [if_pos rfl, iI_t (by omega) (by omega)]; exact h1, by rw [iI_t (by omega) (by omega)]; exact h2⟩
    have e2 : vp_nar .short (iI z) = (iI z).toInt16.toInt32 := rfl
    rw [← e2]
    exact this
  rw [pk_vs, e]
theorem m_canBeS {w : px_W} {z : Int} (hk : k < 64) (hz : z.natAbs < 1000000000) : ∃ v, fX13_canBe X w (nI k) (iI z) = some (v, w) ∧ (cKB k z ∧ v = 1 ∨ ¬ cKB k z ∧ v = 0) := by
  have e14 : ∀ lo : Int, lo.natAbs < 10000 → ∃ v, fX13_canBe_14 X (iI z) (iI lo) (iI z) w = some (v, w) ∧ ((lo ≤ z ∧ z ≤ 1023) ∧ v = 1 ∨ ¬ (lo ≤ z ∧ z ≤ 1023) ∧ v = 0) := by
    intro lo hlo
    unfold fX13_canBe_14
    by_cases q : z < lo
    · exact ⟨0, ei_t ((iI_lt (by omega) (by omega) (by omega) (by omega)).mpr q) rfl, Or.inr ⟨by omega, rfl⟩⟩
    · have n1 : ¬ iI z < iI lo := fun e => q ((iI_lt (by omega) (by omega) (by omega) (by omega)).mp e)
      by_cases r : 1023 < z
      · exact ⟨0, ei_n n1 (ei_t ((iI_lt (a := 1023) (by omega) (by omega) (by omega) (by omega)).mpr r) rfl), Or.inr ⟨by omega, rfl⟩⟩
      · exact ⟨1, ei_n n1 (ei_n (fun e => r ((iI_lt (a := 1023) (by omega) (by omega) (by omega) (by omega)).mp e)) rfl), Or.inl ⟨by omega, rfl⟩⟩
  unfold fX13_canBe cKB
  by_cases k0 : k = 0
  · rw [if_pos k0]
    obtain ⟨v, e, h⟩ := e14 (-1024) (by decide)
    exact ⟨v, ei_t (by rw [k0]; rfl) e, h⟩
  · rw [if_neg k0]
    obtain ⟨v, e, h⟩ := e14 (-1023) (by decide)
    exact ⟨v, ei_n (nI_ne0 (by omega) (by omega)) e, h⟩
theorem m_becomeS {c q T : Nat} {bs : Nat → Nat} {z : Int} (hc : c < 4) (h31 : y.2.2.1 31 c = nI (bs c)) (hq : bs c + q = T) (hT : 64 * T + 64 ≤ 12288) (hk : k < 64) (hz : z.natAbs < 1000000000) (h : y.1 24 46 = 0) : fX13_become X (rg_p lM b w0 y) (b + 24) (nI c) (nI q) (nI k) (iI z) = some (rg_p lM b w0 (rg_wA y 32 (upd (y.2.2.1 32) (64 * T + k) (iI z)))) ∧ cKB k z ∨ fX13_become X (rg_p lM b w0 y) (b + 24) (nI c) (nI q) (nI k) (iI z) = some (rg_p lM b w0 (rg_wI y 24 46 4)) ∧ ¬ cKB k z := by
  obtain ⟨v, ev, hv⟩ := m_canBeS (X := X) (w := rg_p lM b w0 y) hk hz
  have st : ∀ r, (if v = 0 then (gO (rg_p lM b w0 y) (b + 24) 13).bind fun o20 => (fX13_wrong X (rg_p lM b w0 y) (b + 24) 4).bind fun q21 => fX13_become_23 X (b + 24) (nI c) (nI q) (nI k) (iI z) q21.2 else fX13_become_23 X (b + 24) (nI c) (nI q) (nI k) (iI z) (rg_p lM b w0 y)) = r → fX13_become X (rg_p lM b w0 y) (b + 24) (nI c) (nI q) (nI k) (iI z) = r := by
    intro r hr
    unfold fX13_become
    exact ob_v (rg_I rfl rfl) (ei_t h (ob_v ev hr))
  rcases hv with ⟨ok, v1⟩ | ⟨no, v0⟩
  · refine Or.inl ⟨st _ (ei_n (by rw [v1]; exact n10) ?_), ok⟩
    have zb : -1024 ≤ z ∧ z ≤ 1023 := by
      have := ok
      unfold cKB at this
      split at this <;> omega
    unfold fX13_become_23
    refine ob_v (rg_I rfl rfl) (ei_t h (ob_v (rg_C rfl rfl) (ob_v (rg_C rfl rfl) (ob_v (rg_A rfl (by decide) _ hc (by decide)) ?_))))
    rw [h31, n64' hq, nI_add]
    refine ob_v (rg_sA _ rfl (by decide) _ _ (by omega) (by decide)) ?_
    rw [sh_i zb.1 zb.2]
  · refine Or.inr ⟨st _ (ei_t v0 (ob_v (rg_O rfl) (ob_v (m_wrong h 4) ?_))), no⟩
    unfold fX13_become_23
    exact ob_v (rg_I rfl rfl) (ei_n (by rw [wI_s]; decide) rfl)
theorem m_become0 {c q f : Nat} {Zv K : Int32} (hf : y.1 24 46 = nI f) (h0 : 0 < f) (h9 : f < 100) : fX13_become X (rg_p lM b w0 y) (b + 24) (nI c) (nI q) K Zv = some (rg_p lM b w0 y) := by
  have nf : ¬ y.1 24 46 = 0 := by rw [hf]; exact nI_ne0 h0 (by omega)
  unfold fX13_become fX13_become_23
  exact ob_v (rg_I rfl rfl) (ei_n nf (ob_v (rg_I rfl rfl) (ei_n nf rfl)))
theorem x_setC {P at' : Nat} {z : Int} (hP : isP P) (hR : x.2.1 95 1 = P) (hT : at' + 64 ≤ 12288) (hk : k < 64) (hz : z.natAbs < 1000000000) (h : x.1 95 6 = 0) : fX6_setCoefficientOf X (rg_p lX B w0 x) (B + 95) (nI at') (nI k) (iI z) = some (rg_p lX B w0 (rg_wA x (P + 6) (upd (x.2.2.1 (P + 6)) (at' + k) (iI z)))) ∧ cKB k z ∨ fX6_setCoefficientOf X (rg_p lX B w0 x) (B + 95) (nI at') (nI k) (iI z) = some (rg_p lX B w0 (rg_wI x 95 6 4)) ∧ ¬ cKB k z := by
  have gP : gR (rg_p lX B w0 x) (B + 95) 6 1 = some (B + P) := by rw [← hR]; exact rg_R rfl rfl
  have e32 : fX6_setCoefficientOf_32 X (B + 95) (rg_p lX B w0 x) = some (rg_p lX B w0 (rg_wI x 95 6 4)) := by
    unfold fX6_setCoefficientOf_32
    exact ob_v (rg_pI rfl rfl _) rfl
  have e29 : ∀ lo : Int, lo.natAbs < 10000 → lo ≤ z ∧ fX6_setCoefficientOf_29 X (B + 95) (nI at') (nI k) (iI z) (iI lo) (iI z) (rg_p lX B w0 x) = some (rg_p lX B w0 (rg_wA x (P + 6) (upd (x.2.2.1 (P + 6)) (at' + k) (iI z)))) ∨ ¬ lo ≤ z ∧ fX6_setCoefficientOf_29 X (B + 95) (nI at') (nI k) (iI z) (iI lo) (iI z) (rg_p lX B w0 x) = some (rg_p lX B w0 (rg_wI x 95 6 4)) := by
    intro lo hlo
    unfold fX6_setCoefficientOf_29
    by_cases q : lo ≤ z
    · refine Or.inl ⟨q, ei_t ((iI_le (by omega) (by omega) (by omega) (by omega)).mpr q) (ob_v gP (ob_v (rg_C hP.o rfl) ?_))⟩
      rw [nI_add]
      exact ob_v (rg_sA _ hP.a6 (by decide) _ _ (by omega) (by decide)) rfl
    · exact Or.inr ⟨q, ei_n (fun e => q ((iI_le (by omega) (by omega) (by omega) (by omega)).mp e)) e32⟩
  unfold fX6_setCoefficientOf cKB
  by_cases r : 1023 < z
  · exact Or.inr ⟨ob_v (rg_I rfl rfl) (ei_t h (ei_t ((iI_lt (a := 1023) (by omega) (by omega) (by omega) (by omega)).mpr r) e32)), fun e => by omega⟩
  · have nr : ¬ (1023 : Int32) < iI z := fun e => r ((iI_lt (a := 1023) (by omega) (by omega) (by omega) (by omega)).mp e)
    by_cases k0 : k = 0
    · rw [if_pos k0]
      rcases e29 (-1024) (by decide) with ⟨q, e⟩ | ⟨q, e⟩
      · exact Or.inl ⟨ob_v (rg_I rfl rfl) (ei_t h (ei_n nr (ei_t (by rw [k0]; rfl) e))), q, by omega⟩
      · exact Or.inr ⟨ob_v (rg_I rfl rfl) (ei_t h (ei_n nr (ei_t (by rw [k0]; rfl) e))), fun c => q c.1⟩
    · rw [if_neg k0]
      have kn : ¬ nI k = 0 := nI_ne0 (by omega) (by omega)
      rcases e29 (-1023) (by decide) with ⟨q, e⟩ | ⟨q, e⟩
      · exact Or.inl ⟨ob_v (rg_I rfl rfl) (ei_t h (ei_n nr (ei_n kn e))), q, by omega⟩
      · exact Or.inr ⟨ob_v (rg_I rfl rfl) (ei_t h (ei_n nr (ei_n kn e))), fun c => q c.1⟩
end
