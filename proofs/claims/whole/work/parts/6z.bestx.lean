/-! BestTable of the class: gathering, joining -/
def isT (T : Nat) : Prop := ∃ t, t < 8 ∧ T = 115 + 10 * t
theorem isT.o {T : Nat} (h : isT T) : lX T = some (.inl (0, [(1, T + 1), (1, T + 2), (1, T + 3), (1, T + 4), (1, T + 5), (0, 0), (1, T + 6), (1, T + 7), (1, T + 8), (1, T + 9)])) := by
  obtain ⟨t, ht, rfl⟩ := h
  rcases (show t = 0 ∨ t = 1 ∨ t = 2 ∨ t = 3 ∨ t = 4 ∨ t = 5 ∨ t = 6 ∨ t = 7 by omega) with rfl | rfl | rfl | rfl | rfl | rfl | rfl | rfl <;> rfl
theorem isT.a {T j : Nat} (h : isT T) (j1 : 1 ≤ j) (j9 : j ≤ 9) : lX (T + j) = some (.inr (0, if j ≤ 3 ∨ j = 5 then 256 else if j = 4 then 258 else 257, fun _ => none)) := by
  obtain ⟨t, ht, rfl⟩ := h
  rcases (show t = 0 ∨ t = 1 ∨ t = 2 ∨ t = 3 ∨ t = 4 ∨ t = 5 ∨ t = 6 ∨ t = 7 by omega) with rfl | rfl | rfl | rfl | rfl | rfl | rfl | rfl <;> rcases (show j = 1 ∨ j = 2 ∨ j = 3 ∨ j = 4 ∨ j = 5 ∨ j = 6 ∨ j = 7 ∨ j = 8 ∨ j = 9 by omega) with rfl | rfl | rfl | rfl | rfl | rfl | rfl | rfl | rfl <;> rfl
theorem isT.a1 {T : Nat} (h : isT T) : lX (T + 1) = some (.inr (0, 256, fun _ => none)) := h.a (by decide) (by decide)
theorem isT.a2 {T : Nat} (h : isT T) : lX (T + 2) = some (.inr (0, 256, fun _ => none)) := h.a (by decide) (by decide)
theorem isT.a3 {T : Nat} (h : isT T) : lX (T + 3) = some (.inr (0, 256, fun _ => none)) := h.a (by decide) (by decide)
theorem isT.a4 {T : Nat} (h : isT T) : lX (T + 4) = some (.inr (0, 258, fun _ => none)) := h.a (by decide) (by decide)
theorem isT.a5 {T : Nat} (h : isT T) : lX (T + 5) = some (.inr (0, 256, fun _ => none)) := h.a (by decide) (by decide)
theorem isT.a6 {T : Nat} (h : isT T) : lX (T + 6) = some (.inr (0, 257, fun _ => none)) := h.a (by decide) (by decide)
theorem isT.a7 {T : Nat} (h : isT T) : lX (T + 7) = some (.inr (0, 257, fun _ => none)) := h.a (by decide) (by decide)
theorem isT.a8 {T : Nat} (h : isT T) : lX (T + 8) = some (.inr (0, 257, fun _ => none)) := h.a (by decide) (by decide)
theorem isT.a9 {T : Nat} (h : isT T) : lX (T + 9) = some (.inr (0, 257, fun _ => none)) := h.a (by decide) (by decide)
theorem fU_same {n : Nat} {f g : Nat → Int32} (h : g n = f n) : fU n f g = fU (n + 1) f g := by
  funext i
  unfold fU
  by_cases e : i = n
  · subst e
    rw [if_neg (by omega), if_pos (by omega), h]
  · by_cases l : i < n
    · rw [if_pos l, if_pos (by omega)]
    · rw [if_neg l, if_neg (by omega)]
def enc (o : Option Nat) : Int32 := match o with
  | none => -1
  | some a => nI a
theorem enc_m1 {a : Nat} (h : a < 2 ^ 31) : ¬ enc (some a) = -1 := m1_n h
/-- the table's groups are those of s, the first N places -/
def xG (x : rg_S) (T N : Nat) (s : hS) : Prop := ∀ k, k < N → x.2.2.1 (T + 7) k = nI (s.1 k) ∧ x.2.2.1 (T + 8) k = nI (s.2.1 k) ∧ x.2.2.1 (T + 9) k = nI (s.2.2 k)
def FT (T : Nat) (x x' : rg_S) : Prop := (∀ o k, o ≠ T → x'.1 o k = x.1 o k) ∧ x'.2.1 = x.2.1 ∧ (∀ o, ¬ (T + 1 ≤ o ∧ o ≤ T + 9) → x'.2.2.1 o = x.2.2.1 o) ∧ x'.2.2.1 (T + 1) = x.2.2.1 (T + 1)
theorem FT.rfl {T : Nat} {x : rg_S} : FT T x x := ⟨fun _ _ _ => Eq.refl _, Eq.refl _, fun _ _ => Eq.refl _, Eq.refl _⟩
theorem FT.trans {T : Nat} {x x1 x2 : rg_S} (h : FT T x x1) (h2 : FT T x1 x2) : FT T x x2 := ⟨fun o k a => (h2.1 o k a).trans (h.1 o k a), h2.2.1.trans h.2.1, fun o a => (h2.2.2.1 o a).trans (h.2.2.1 o a), h2.2.2.2.trans h.2.2.2⟩
section
variable {X : px_X} {b B : Nat} {w0 w1 : px_W} {x y : rg_S} {T N : Nat} {s : hS}
theorem x_join6 (hT : isT T) (hm : x.1 T 5 = nI (N - 1)) (n1 : 1 ≤ N) (n2 : N ≤ 257) (hG : xG x T N s) (hb : ∀ k, k < N → s.1 k < 2 ^ 31) : fX0_joinTwoGroups_6 X FU (B + T) (-1) (-1) 0 (rg_p lX B w0 x) = fX0_joinTwoGroups_87 X (B + T) (enc (hP s.1 N).1) (enc (hP s.1 N).2) (rg_p lX B w0 x) := by
  refine rg_lpF (F := fun u (t : Int32 × Int32 × Int32) => fX0_joinTwoGroups_6 X u (B + T) t.1 t.2.1 t.2.2 (rg_p lX B w0 x)) N (fun k => (enc (hP s.1 k).1, enc (hP s.1 k).2, nI k)) (by omega) ?_ ?_
  · intro m k hk
    dsimp only
    have g7 : ∀ {r : Option px_W} {f : Int32 → Option px_W} {i : Nat}, i < N → f (nI (s.1 i)) = r → (aN (rg_p lX B w0 x) 0 (B + (T + 7)) (nI i)).bind f = r := fun hi h => ob_v (rg_A hT.a7 (by decide) _ (by omega) (by decide)) (by rw [(hG _ hi).1]; exact h)
    have hbk := hb k hk
    have lt : ∀ {a : Nat}, hP s.1 k = (some a, (hP s.1 k).2) → a < k := fun h => by
      have e := congrArg Prod.fst h
      rw [hP_eq] at e
      exact (hL_some e).1
    rw [fX0_joinTwoGroups_6.eq_2]
    refine ob_v (rg_I hT.o rfl) ?_
    rw [hm]
    refine ei_n (nI_nlt (by omega) (by omega)) (ob_v (rg_C hT.o rfl) (g7 hk ?_))
    have nx : ∀ p q, (p, q) = hP s.1 (k + 1) → fX0_joinTwoGroups_81 X (fX0_joinTwoGroups_6 X m) (B + T) (enc p) (enc q) (nI k) (rg_p lX B w0 x) = fX0_joinTwoGroups_6 X m (B + T) (enc (hP s.1 (k + 1)).1) (enc (hP s.1 (k + 1)).2) (nI (k + 1)) (rg_p lX B w0 x) := by
      intro p q e
      rw [fX0_joinTwoGroups_81, nI_1, ← e]
    have b1 : ∀ a, (hP s.1 k).1 = some a → a < k := fun a h => by
      rw [hP_eq] at h
      exact (hL_some h).1
    have b2 : ∀ c, (hP s.1 k).2 = some c → c < k := fun c h => by
      rw [hP_eq] at h
      dsimp only at h
      cases ha : hL s.1 none k with
      | none => rw [ha] at h; cases h
      | some a => rw [ha] at h; exact (hL_some h).1
    have b3 : (hP s.1 k).1 = none → (hP s.1 k).2 = none := fun h => by
      rw [hP_eq] at h ⊢
      dsimp only at h ⊢
      rw [h]
    have un : hP s.1 (k + 1) = if s.1 k = 0 then hP s.1 k else match (hP s.1 k).1 with | none => (some k, none) | some a => if s.1 k ≤ s.1 a then (some k, some a) else match (hP s.1 k).2 with | none => (some a, some k) | some c => if s.1 k ≤ s.1 c then (some a, some k) else (some a, some c) := rfl
    generalize hp : hP s.1 k = pq at nx b1 b2 b3 un ⊢
    obtain ⟨p, q⟩ := pq
    dsimp only at b1 b2 b3 un ⊢
    by_cases z : s.1 k = 0
    · rw [if_pos z] at un
      refine ei_t (by rw [z]; decide) ?_
      unfold fX0_joinTwoGroups_50
      refine ob_v (rg_C hT.o rfl) (g7 hk (ei_t (by rw [z]; decide) (nx p q un.symm)))
    · rw [if_neg z] at un
      have pos : ¬ nI (s.1 k) ≤ 0 := nI_ge (a := 0) (by omega) (by omega)
      refine ei_n pos ?_
      cases p with
      | none =>
        dsimp only at un
        have := b3 rfl
        rw [this] at *
        refine ei_t rfl ?_
        unfold fX0_joinTwoGroups_43
        exact nx (some k) none un.symm
      | some a =>
        dsimp only at un
        have ha := b1 a rfl
        have hba := hb a (by omega)
        refine ei_n (enc_m1 (by omega)) (ob_v (rg_C hT.o rfl) (g7 hk (ob_v (rg_C hT.o rfl) (g7 (show a < N by omega) ?_))))
        by_cases l : s.1 k ≤ s.1 a
        · rw [if_pos l] at un
          refine ei_n (nI_nlt l (by omega)) ?_
          unfold fX0_joinTwoGroups_43
          exact nx (some k) (some a) un.symm
        · rw [if_neg l] at un
          refine ei_t (nI_lt (by omega) (by omega)) ?_
          unfold fX0_joinTwoGroups_50
          refine ob_v (rg_C hT.o rfl) (g7 hk (ei_n pos ?_))
          cases q with
          | none =>
            dsimp only at un
            refine ei_t rfl ?_
            unfold fX0_joinTwoGroups_79
            exact nx (some a) (some k) un.symm
          | some c =>
            dsimp only at un
            have hc := b2 c rfl
            have hbc := hb c (by omega)
            refine ei_n (enc_m1 (by omega)) (ob_v (rg_C hT.o rfl) (g7 hk (ob_v (rg_C hT.o rfl) (g7 (show c < N by omega) ?_))))
            by_cases l2 : s.1 k ≤ s.1 c
            · rw [if_pos l2] at un
              refine ei_n (nI_nlt l2 (by omega)) ?_
              unfold fX0_joinTwoGroups_79
              exact nx (some a) (some k) un.symm
            · rw [if_neg l2] at un
              exact ei_t (nI_lt (by omega) (by omega)) (nx (some a) (some c) un.symm)
  · intro m
    dsimp only
    rw [fX0_joinTwoGroups_6.eq_2]
    refine ob_v (rg_I hT.o rfl) ?_
    rw [hm]
    exact ei_t (nI_lt (by omega) (by omega)) rfl
theorem x_join {a c : Nat} (hT : isT T) (hm : x.1 T 5 = nI (N - 1)) (n1 : 1 ≤ N) (n2 : N ≤ 257) (hG : xG x T N s) (hb : ∀ k, k < N → s.1 k < 2 ^ 31) (hg : ∀ k, k < N → s.2.1 k < N) (hbit : ∀ k, k < N → s.2.2 k < 1000) (ha : hL s.1 none N = some a) (hc : hL s.1 (some a) N = some c) :
    ∃ x', fX0_joinTwoGroups X (rg_p lX B w0 x) (B + T) = some (rg_p lX B w0 x') ∧ xG x' T N (hJ a c s) ∧ FT T x x' ∧ x'.1 = x.1 ∧ x'.2.2.1 (T + 6) = x.2.2.1 (T + 6) := by
  have a1 := (hL_some ha).1
  have c1 := (hL_some hc).1
  have ac : a ≠ c := fun e => (hL_some hc).2.2 (by rw [e])
  have eP : hP s.1 N = (some a, some c) := by rw [hP_eq, ha]; dsimp only; rw [hc]
  generalize h7 : upd (upd (x.2.2.1 (T + 7)) a (nI (s.1 a) + nI (s.1 c))) c 0 = f7
  refine ⟨rg_wA (rg_wA (rg_wA x (T + 7) f7) (T + 8) (fU N (fun i => nI ((hJ a c s).2.1 i)) (x.2.2.1 (T + 8)))) (T + 9) (fU N (fun i => nI ((hJ a c s).2.2 i)) (x.2.2.1 (T + 9))), ?_, ?_, ⟨fun _ _ _ => rfl, rfl, fun o ho => ?_, ?_⟩, rfl, ?_⟩
  · unfold fX0_joinTwoGroups
    rw [x_join6 hT hm n1 n2 hG hb, eP]
    unfold fX0_joinTwoGroups_87
    refine ei_n (enc_m1 (by omega)) (ob_v (rg_C hT.o rfl) (ob_v (rg_A hT.a7 (by decide) a (by omega) (by decide)) (ob_v (rg_C hT.o rfl) (ob_v (rg_A hT.a7 (by decide) c (by omega) (by decide)) (ob_v (rg_sA _ hT.a7 (by decide) a _ (by omega) (by decide)) (ob_v (rg_C hT.o rfl) (ob_v (rg_sA _ hT.a7 (by decide) c _ (by omega) (by decide)) ?_)))))))
    rw [wA_wA, wA_s, (hG a a1).1, (hG c c1).1, id, id, h7]
    have e := rg_lpF (F := fun u (t : Int32 × px_W) => fX0_joinTwoGroups_117 X u (B + T) (nI a) (nI c) t.1 t.2) N (fun k => (nI k, rg_p lX B w0 (rg_wA (rg_wA (rg_wA x (T + 7) f7) (T + 8) (fU k (fun i => nI ((hJ a c s).2.1 i)) (x.2.2.1 (T + 8)))) (T + 9) (fU k (fun i => nI ((hJ a c s).2.2 i)) (x.2.2.1 (T + 9)))))) (r := some (rg_p lX B w0 (rg_wA (rg_wA (rg_wA x (T + 7) f7) (T + 8) (fU N (fun i => nI ((hJ a c s).2.1 i)) (x.2.2.1 (T + 8)))) (T + 9) (fU N (fun i => nI ((hJ a c s).2.2 i)) (x.2.2.1 (T + 9)))))) (by omega) ?_ ?_
    · refine Eq.trans ?_ e
      dsimp only
      rw [fU_0, fU_0, show rg_wA (rg_wA x (T + 7) f7) (T + 8) (x.2.2.1 (T + 8)) = rg_wA x (T + 7) f7 from wA_id (wA_n _ _ (by omega)), show rg_wA (rg_wA x (T + 7) f7) (T + 9) (x.2.2.1 (T + 9)) = rg_wA x (T + 7) f7 from wA_id (wA_n _ _ (by omega)), nI_0]
      rfl
    · intro m k hk
      dsimp only
      obtain ⟨_, g8, g9⟩ := hG k hk
      have r8 : (rg_wA (rg_wA (rg_wA x (T + 7) f7) (T + 8) (fU k (fun i => nI ((hJ a c s).2.1 i)) (x.2.2.1 (T + 8)))) (T + 9) (fU k (fun i => nI ((hJ a c s).2.2 i)) (x.2.2.1 (T + 9)))).2.2.1 (T + 8) k = nI (s.2.1 k) := by
        rw [wA_n _ _ (by omega), wA_s, fU_ge (Nat.le_refl k), g8]
      have hgk := hg k hk
      have f145 : (s.2.1 k = a ∨ s.2.1 k = c) → fX0_joinTwoGroups_145 X (fX0_joinTwoGroups_117 X m) (B + T) (nI a) (nI c) (nI k) (rg_p lX B w0 (rg_wA (rg_wA (rg_wA x (T + 7) f7) (T + 8) (fU k (fun i => nI ((hJ a c s).2.1 i)) (x.2.2.1 (T + 8)))) (T + 9) (fU k (fun i => nI ((hJ a c s).2.2 i)) (x.2.2.1 (T + 9))))) = fX0_joinTwoGroups_117 X m (B + T) (nI a) (nI c) (nI (k + 1)) (rg_p lX B w0 (rg_wA (rg_wA (rg_wA x (T + 7) f7) (T + 8) (fU (k + 1) (fun i => nI ((hJ a c s).2.1 i)) (x.2.2.1 (T + 8)))) (T + 9) (fU (k + 1) (fun i => nI ((hJ a c s).2.2 i)) (x.2.2.1 (T + 9))))) := by
        intro e
        have e8 : (hJ a c s).2.1 k = a := if_pos e
        have e9 : (hJ a c s).2.2 k = s.2.2 k + 1 := if_pos e
        unfold fX0_joinTwoGroups_145 fX0_joinTwoGroups_162
        refine ob_v (rg_C hT.o rfl) (ob_v (rg_sA _ hT.a8 (by decide) k _ (by omega) (by decide)) (ob_v (rg_C hT.o rfl) (ob_v (rg_A hT.a9 (by decide) k (by omega) (by decide)) (ob_v (rg_sA _ hT.a9 (by decide) k _ (by omega) (by decide)) ?_))))
        rw [wA_n _ _ (show T + 9 ≠ T + 8 by omega), wA_s, wA_n _ _ (show T + 8 ≠ T + 9 by omega), wA_s, fU_ge (Nat.le_refl k), g9, nI_1, nI_1, id, id, ← fU_s, ← fU_s, e8, e9]
        congr 2
        refine S_ext rfl rfl (fun o => ?_) rfl
        simp only [wA_3]
        by_cases o9 : o = T + 9
        · rw [if_pos o9, if_pos o9]
        · rw [if_neg o9, if_neg o9]
          by_cases o8 : o = T + 8
          · rw [if_pos o8, if_pos o8, if_neg o9]
          · rw [if_neg o8, if_neg o9, if_neg o8, if_neg o8]
      rw [fX0_joinTwoGroups_117.eq_2]
      refine ob_v (rg_I hT.o rfl) ?_
      rw [show (rg_wA (rg_wA (rg_wA x (T + 7) f7) (T + 8) (fU k (fun i => nI ((hJ a c s).2.1 i)) (x.2.2.1 (T + 8)))) (T + 9) (fU k (fun i => nI ((hJ a c s).2.2 i)) (x.2.2.1 (T + 9)))).1 T 5 = nI (N - 1) from hm]
      refine ei_n (nI_nlt (by omega) (by omega)) (ob_v (rg_C hT.o rfl) (ob_v (rg_A hT.a8 (by decide) k (by omega) (by decide)) ?_))
      rw [r8]
      by_cases ea : s.2.1 k = a
      · exact ei_t (by rw [ea]) (f145 (Or.inl ea))
      · refine ei_n (fun h => ea ((nI_eq (by omega) (by omega)).mp h)) (ob_v (rg_C hT.o rfl) (ob_v (rg_A hT.a8 (by decide) k (by omega) (by decide)) ?_))
        rw [r8]
        by_cases ec : s.2.1 k = c
        · exact ei_t (by rw [ec]) (f145 (Or.inr ec))
        · refine ei_n (fun h => ec ((nI_eq (by omega) (by omega)).mp h)) ?_
          have e0 : ¬ (s.2.1 k = a ∨ s.2.1 k = c) := fun h => by rcases h with h | h; { exact ea h }; exact ec h
          have e8 : (hJ a c s).2.1 k = s.2.1 k := if_neg e0
          have e9 : (hJ a c s).2.2 k = s.2.2 k := if_neg e0
          rw [fX0_joinTwoGroups_162, nI_1, fU_same (n := k) (f := fun i => nI ((hJ a c s).2.1 i)) (by rw [e8, g8]), fU_same (n := k) (f := fun i => nI ((hJ a c s).2.2 i)) (by rw [e9, g9])]
    · intro m
      dsimp only
      rw [fX0_joinTwoGroups_117.eq_2]
      refine ob_v (rg_I hT.o rfl) ?_
      rw [show (rg_wA (rg_wA (rg_wA x (T + 7) f7) (T + 8) (fU N (fun i => nI ((hJ a c s).2.1 i)) (x.2.2.1 (T + 8)))) (T + 9) (fU N (fun i => nI ((hJ a c s).2.2 i)) (x.2.2.1 (T + 9)))).1 T 5 = nI (N - 1) from hm]
      exact ei_t (nI_lt (by omega) (by omega)) rfl
  · intro k hk
    refine ⟨?_, ?_, ?_⟩
    · rw [wA_n _ _ (by omega), wA_n _ _ (by omega), wA_s, ← h7]
      show upd _ c 0 k = nI (if k = c then 0 else if k = a then s.1 a + s.1 c else s.1 k)
      by_cases kc : k = c
      · rw [kc, pk_us, if_pos rfl]
        rfl
      · rw [pk_un kc, if_neg kc]
        by_cases ka : k = a
        · rw [ka, pk_us, if_pos rfl, nI_add]
        · rw [pk_un ka, if_neg ka]
          exact (hG k hk).1
    · rw [wA_n _ _ (by omega), wA_s, fU_lt hk]
    · rw [wA_s, fU_lt hk]
  · rw [wA_n _ _ (by omega), wA_n _ _ (by omega), wA_n _ _ (by omega)]
  · rw [wA_n _ _ (by omega), wA_n _ _ (by omega), wA_n _ _ (by omega)]
  · rw [wA_n _ _ (by omega), wA_n _ _ (by omega), wA_n _ _ (by omega)]
end
