/-! FORGE of the reference: all 257 places; carried to the places that occur -/
theorem cn_inj {f : Nat → Nat} {k j : Nat} (hk : k < cn f 257) (hj : j < cn f 257) (e : ps f 257 k = ps f 257 j) : k = j := by
  have a := (ps_in hk).2.2
  have c := (ps_in hj).2.2
  rw [e] at a
  omega
theorem hL_tr {f num num' : Nat → Nat} (h0 : ∀ p, p < 257 → 0 < num p → 0 < f p) (hn : ∀ k, k < cn f 257 → num' k = num (ps f 257 k)) {q : Option Nat} (hq : ∀ k, q = some k → k < cn f 257) : ∀ {p : Nat}, p ≤ 257 → hL num (q.map (ps f 257)) p = (hL num' q (cn f p)).map (ps f 257) := by
  intro p
  induction p with
  | zero => intro _; rfl
  | succ p ih =>
    intro hp
    have i := ih (by omega)
    by_cases z : 0 < f p
    · have hlt := cn_lt (f := f) (p := 257) (q := p) (by omega) z
      have ep := ps_at (f := f) (n := 257) (q := p) (by omega) z
      have en := hn _ hlt
      rw [ep] at en
      rw [cn_s1 z]
      unfold hL
      rw [i, en]
      have eq : (some p = q.map (ps f 257)) ↔ (some (cn f p) = q) := by
        cases q with
        | none => exact ⟨fun h => (by cases h), fun h => (by cases h)⟩
        | some k =>
          constructor
          · intro h
            have h' : p = ps f 257 k := Option.some.inj h
            rw [cn_inj hlt (hq k rfl) (by rw [ep]; exact h')]
          · intro h
            have h' : cn f p = k := Option.some.inj h
            rw [← h']
            show some p = some (ps f 257 (cn f p))
            rw [ep]
      by_cases c : some (cn f p) = q ∨ num p = 0
      · rw [if_pos c, if_pos (by rw [eq]; exact c)]
      · rw [if_neg c, if_neg (by rw [eq]; exact c)]
        cases hc : hL num' q (cn f p) with
        | none =>
          show some p = some (ps f 257 (cn f p))
          rw [ep]
        | some a =>
          have ha := (hL_some hc).1
          have ea := hn a (by omega)
          show (if num p ≤ num (ps f 257 a) then some p else some (ps f 257 a)) = (if num p ≤ num' a then some (cn f p) else some a).map (ps f 257)
          rw [← ea]
          split
          · show some p = some (ps f 257 (cn f p))
            rw [ep]
          · rfl
    · have n0 : num p = 0 := by
        by_cases e : 0 < num p
        · exact absurd (h0 p (by omega) e) z
        · omega
      rw [cn_s0 z]
      show (if some p = q.map (ps f 257) ∨ num p = 0 then hL num (q.map (ps f 257)) p else _) = _
      rw [if_pos (Or.inr n0)]
      exact i
/-- the reference's groups s and the class' s' -/
def hR (f : Nat → Nat) (s s' : hS) : Prop := (∀ p, p < 257 → 0 < s.1 p → 0 < f p) ∧ ∀ k, k < cn f 257 → s'.1 k = s.1 (ps f 257 k) ∧ s'.2.1 k < cn f 257 ∧ ps f 257 (s'.2.1 k) = s.2.1 (ps f 257 k) ∧ s'.2.2 k = s.2.2 (ps f 257 k)
theorem hR_0 (f : Nat → Nat) : hR f (f, fun k => k, fun _ => 0) (bS f) := ⟨fun _ _ h => h, fun k hk => ⟨rfl, hk, rfl, rfl⟩⟩
theorem hR_J {f : Nat → Nat} {s s' : hS} {a c : Nat} (h : hR f s s') (ha : a < cn f 257) (hc : c < cn f 257) : hR f (hJ (ps f 257 a) (ps f 257 c) s) (hJ a c s') := by
  obtain ⟨h1, h2⟩ := h
  have fa := (ps_in ha).2.1
  refine ⟨fun p hp pp => ?_, fun k hk => ?_⟩
  · have pp' : 0 < (if p = ps f 257 c then 0 else if p = ps f 257 a then s.1 (ps f 257 a) + s.1 (ps f 257 c) else s.1 p) := pp
    by_cases e : p = ps f 257 c
    · rw [if_pos e] at pp'; omega
    · rw [if_neg e] at pp'
      by_cases e2 : p = ps f 257 a
      · rw [e2]; exact fa
      · rw [if_neg e2] at pp'
        exact h1 p hp pp'
  · obtain ⟨k1, k2, k3, k4⟩ := h2 k hk
    have ia : ps f 257 k = ps f 257 a ↔ k = a := ⟨fun e => cn_inj hk ha e, fun e => by rw [e]⟩
    have ic : ps f 257 k = ps f 257 c ↔ k = c := ⟨fun e => cn_inj hk hc e, fun e => by rw [e]⟩
    have ga : s.2.1 (ps f 257 k) = ps f 257 a ↔ s'.2.1 k = a := by rw [← k3]; exact ⟨fun e => cn_inj k2 ha e, fun e => by rw [e]⟩
    have gc : s.2.1 (ps f 257 k) = ps f 257 c ↔ s'.2.1 k = c := by rw [← k3]; exact ⟨fun e => cn_inj k2 hc e, fun e => by rw [e]⟩
    refine ⟨?_, ?_, ?_, ?_⟩
    · show (if k = c then 0 else if k = a then s'.1 a + s'.1 c else s'.1 k) = (if ps f 257 k = ps f 257 c then 0 else if ps f 257 k = ps f 257 a then s.1 (ps f 257 a) + s.1 (ps f 257 c) else s.1 (ps f 257 k))
      by_cases e : k = c
      · rw [if_pos e, if_pos (ic.mpr e)]
      · rw [if_neg e, if_neg (fun h => e (ic.mp h))]
        by_cases e2 : k = a
        · rw [if_pos e2, if_pos (ia.mpr e2), (h2 a ha).1, (h2 c hc).1]
        · rw [if_neg e2, if_neg (fun h => e2 (ia.mp h))]
          exact k1
    · show (if s'.2.1 k = a ∨ s'.2.1 k = c then a else s'.2.1 k) < cn f 257
      split
      · exact ha
      · exact k2
    · show ps f 257 (if s'.2.1 k = a ∨ s'.2.1 k = c then a else s'.2.1 k) = (if s.2.1 (ps f 257 k) = ps f 257 a ∨ s.2.1 (ps f 257 k) = ps f 257 c then ps f 257 a else s.2.1 (ps f 257 k))
      by_cases e : s'.2.1 k = a ∨ s'.2.1 k = c
      · rw [if_pos e, if_pos (by rw [ga, gc]; exact e)]
      · rw [if_neg e, if_neg (by rw [ga, gc]; exact e)]
        exact k3
    · show (if s'.2.1 k = a ∨ s'.2.1 k = c then s'.2.2 k + 1 else s'.2.2 k) = (if s.2.1 (ps f 257 k) = ps f 257 a ∨ s.2.1 (ps f 257 k) = ps f 257 c then s.2.2 (ps f 257 k) + 1 else s.2.2 (ps f 257 k))
      by_cases e : s'.2.1 k = a ∨ s'.2.1 k = c
      · rw [if_pos e, if_pos (by rw [ga, gc]; exact e), k4]
      · rw [if_neg e, if_neg (by rw [ga, gc]; exact e)]
        exact k4
section
variable {X : px_X} {b B : Nat} {w0 w1 : px_W} {x y : rg_S} {num : Nat → Nat}
theorem m_least (hn : ∀ p, p < 257 → y.2.2.1 52 p = nI (num p) ∧ num p < 2 ^ 31) {q : Option Nat} (hq : ∀ k, q = some k → k < 257) : fX12_least X (rg_p lM b w0 y) (b + 48) (enc q) = some (enc (hL num q 257), rg_p lM b w0 y) := by
  unfold fX12_least
  refine rg_lpF (F := fun u (t : Int32 × Int32) => fX12_least_4 X u (b + 48) (enc q) t.1 t.2 (rg_p lM b w0 y)) 257 (fun p => (enc (hL num q p), nI p)) (by omega) ?_ ?_
  · intro m p hp
    dsimp only
    obtain ⟨np, nb⟩ := hn p hp
    have g5 : ∀ {r : Option (Int32 × px_W)} {g : Int32 → Option (Int32 × px_W)} {i : Nat}, i < 257 → g (nI (num i)) = r → (aN (rg_p lM b w0 y) 0 (b + 52) (nI i)).bind g = r := fun hi h => ob_v (rg_A rfl (by decide) _ (by omega) (by decide)) (by rw [(hn _ hi).1]; exact h)
    have un : hL num q (p + 1) = if some p = q ∨ num p = 0 then hL num q p else match hL num q p with | none => some p | some a => if num p ≤ num a then some p else some a := rfl
    have nx : ∀ o, o = hL num q (p + 1) → fX12_least_54 X (fX12_least_4 X m) (b + 48) (enc q) (enc o) (nI p) (rg_p lM b w0 y) = fX12_least_4 X m (b + 48) (enc q) (enc (hL num q (p + 1))) (nI (p + 1)) (rg_p lM b w0 y) := by
      rintro o rfl
      rw [fX12_least_54, nI_1]
    have eq : nI p = enc q ↔ some p = q := by
      cases q with
      | none => exact ⟨fun h => absurd h (m1_n (by omega)), fun h => (by cases h)⟩
      | some k =>
        have := hq k rfl
        constructor
        · intro h
          rw [(nI_eq (by omega) (by omega)).mp h]
        · intro h
          cases h
          rfl
    rw [fX12_least_4.eq_2]
    refine ei_n (nI_nlt (a := 256) (by omega) (by omega)) ?_
    by_cases e1 : some p = q
    · rw [if_pos (Or.inl e1)] at un
      exact ei_t (eq.mpr e1) (nx _ un.symm)
    · refine ei_n (fun h => e1 (eq.mp h)) (ob_v (rg_C rfl rfl) (g5 hp ?_))
      by_cases e2 : num p = 0
      · rw [if_pos (Or.inr e2)] at un
        exact ei_t (by rw [e2]; decide) (nx _ un.symm)
      · rw [if_neg (by rintro (h | h); { exact e1 h }; exact e2 h)] at un
        refine ei_n (nI_ge (a := 0) (by omega) (by omega)) ?_
        cases hl : hL num q p with
        | none =>
          rw [hl] at un
          refine ei_t (by show (-1 : Int32) < 0; decide) ?_
          unfold fX12_least_52
          exact nx (some p) un.symm
        | some a =>
          rw [hl] at un
          dsimp only at un
          have ha := (hL_some hl).1
          have hb := (hn a (by omega)).2
          refine ei_n (nI_nlt (b := 0) (by omega) (by omega)) (ob_v (rg_C rfl rfl) (g5 hp (ob_v (rg_C rfl rfl) (ei_t (nI_le (a := 0) (by omega) (by omega)) ?_))))
          unfold fX12_least_48
          refine g5 (show a < 257 by omega) ?_
          by_cases l : num p ≤ num a
          · rw [if_pos l] at un
            refine ei_n (nI_nlt l (by omega)) ?_
            unfold fX12_least_52
            exact nx (some p) un.symm
          · rw [if_neg l] at un
            exact ei_t (nI_lt (by omega) (by omega)) (nx (some a) un.symm)
  · intro m
    dsimp only
    rw [fX12_least_4.eq_2]
    exact ei_t (by decide) rfl
end
