/-! the reference's table: isTable, make -/
theorem shl_l : ∀ l : Fin 17, (1 : Int64) <<< ((nI l.val).toInt64 &&& 63) = lI (2 ^ l.val : Nat) := by decide +kernel
theorem shl_n {l : Nat} (h : l < 17) : (1 : Int64) <<< ((nI l).toInt64 &&& 63) = lI (2 ^ l : Nat) := shl_l ⟨l, h⟩
/-- lengths forgotten -/
def fZ (o k : Nat) (Z : Nat → Int32) : Nat → Int32 := fun i => if o ≤ i ∧ i < o + k then 0 else Z i
theorem fZ_0 (o : Nat) (Z : Nat → Int32) : fZ o 0 Z = Z := by
  funext i
  unfold fZ
  rw [if_neg (by omega)]
theorem fZ_s (o k : Nat) (Z : Nat → Int32) : upd (fZ o k Z) (o + k) 0 = fZ o (k + 1) Z := by
  funext i
  unfold upd fZ
  by_cases e : i = o + k
  · rw [if_pos e, if_pos (by omega)]
  · rw [if_neg e]
    by_cases h : o ≤ i ∧ i < o + k
    · rw [if_pos h, if_pos (by omega)]
    · rw [if_neg h, if_neg (by omega)]
section
variable {X : px_X} {b B : Nat} {w0 w1 : px_W} {x y : rg_S} {m t : Nat} {c : Nat → Nat} {S : List Nat}
/-- a draft that is a table -/
def yD (y : rg_S) (c : Nat → Nat) (S : List Nat) (m : Nat) : Prop := m ≤ 256 ∧ y.1 24 16 = nI m ∧ dn c 16 = m ∧ (∀ l, 1 ≤ l → l ≤ 16 → y.2.2.1 34 l = nI (c l)) ∧ (∀ l, c l ≤ 257) ∧ (∀ n, n ≤ 16 → nx c n < 2 ^ n) ∧ (∀ i, i < m → y.2.2.1 35 i = nI (S.getD i 0) ∧ S.getD i 0 < 256) ∧ ∀ i j, i < m → j < i → S.getD i 0 ≠ S.getD j 0
theorem m_isTable (h : yD y c S m) : fX13_isTable X (rg_p lM b w0 y) (b + 24) = some (1, rg_p lM b w0 y) := by
  obtain ⟨h256, hm, hd, hc, hcl, hx, hS, hnd⟩ := h
  unfold fX13_isTable
  refine rg_lpF (F := fun u (q : Int32 × Int64 × Int32) => fX13_isTable_10 X u (b + 24) q.1 q.2.1 1 q.2.2 (rg_p lM b w0 y)) 16 (fun n => (nI (dn c n), lI (nx c n), nI (n + 1))) (by omega) ?_ ?_
  · intro M n hn
    dsimp only
    have hp : 2 ^ (n + 1) ≤ 2 ^ 16 := Nat.pow_le_pow_right (by decide) (by omega)
    rw [show (2 : Nat) ^ 16 = 65536 from rfl] at hp
    have h1 := hx (n + 1) (by omega)
    have hcn := hcl (n + 1)
    have en : nx c (n + 1) = 2 * nx c n + c (n + 1) := rfl
    rw [fX13_isTable_10.eq_2]
    refine ei_n (nI_nlt (a := 16) (by omega) (by omega)) (ob_v (rg_C rfl rfl) (ob_v (rg_A rfl (by decide) (n + 1) (by omega) (by decide)) (ob_v (rg_C rfl rfl) (ob_v (rg_A rfl (by decide) (n + 1) (by omega) (by decide)) (ei_n (by decide) ?_)))))
    rw [hc (n + 1) (by omega) (by omega), show (2 : Int64) * lI (nx c n) + (nI (c (n + 1))).toInt64 = lI (nx c (n + 1)) by
      rw [i_l, n_t (by omega), show (2 : Int64) = lI 2 from rfl, lI_mul, lI_add, en]
      congr 1, shl_n (show n + 1 < 17 by omega), nI_add]
    refine ei_n (fun e => ?_) ?_
    · rw [lg_cmp_ge, l_le, lI_t (by omega) (by omega), lI_t (by omega) (by omega)] at e
      have e' : ((2 ^ (n + 1) : Nat) : Int) ≤ (nx c (n + 1) : Nat) := e
      omega
    · rw [fX13_isTable_61, nI_1]
      rfl
  · intro M
    dsimp only
    rw [fX13_isTable_10.eq_2]
    refine ei_t (by decide) ?_
    unfold fX13_isTable_69
    refine rg_lpF (F := fun u (q : Int32) => fX13_isTable_72 X u (b + 24) (nI (dn c 16)) 1 q (rg_p lM b w0 y)) m (fun i => nI i) (by omega) ?_ ?_
    · intro u i hi
      rw [fX13_isTable_72.eq_2]
      refine ob_v (rg_I rfl rfl) ?_
      rw [hm]
      refine ei_n (nI_ge hi (by omega)) ?_
      refine rg_lpF (F := fun v (q : Int32) => fX13_isTable_84 X (fX13_isTable_72 X u) v (b + 24) (nI (dn c 16)) 1 (nI i) q (rg_p lM b w0 y)) i (fun j => nI j) (by omega) ?_ ?_
      · intro v j hj
        obtain ⟨s1, s2⟩ := hS i hi
        obtain ⟨t1, t2⟩ := hS j (by omega)
        rw [fX13_isTable_84.eq_2]
        refine ei_n (nI_ge hj (by omega)) (ei_n (by decide) (ob_v (rg_C rfl rfl) (ob_v (rg_A rfl (by decide) i (by omega) (by decide)) (ob_v (rg_C rfl rfl) (ob_v (rg_A rfl (by decide) j (by omega) (by decide)) ?_)))))
        rw [s1, t1]
        refine ei_n (fun e => hnd i j hi hj ((nI_eq (by omega) (by omega)).mp e)) ?_
        rw [fX13_isTable_118, nI_1]
      · intro v
        rw [fX13_isTable_84.eq_2]
        refine ei_t (nI_le (Nat.le_refl _) (by omega)) ?_
        rw [fX13_isTable_126, nI_1]
    · intro u
      rw [fX13_isTable_72.eq_2]
      refine ob_v (rg_I rfl rfl) ?_
      rw [hm]
      refine ei_t (nI_le (Nat.le_refl _) (by omega)) ?_
      unfold fX13_isTable_132
      refine ei_n (by decide) (ob_v (rg_I rfl rfl) ?_)
      rw [hm, hd]
      exact ei_t rfl rfl
/-- what make makes -/
def yMk (y : rg_S) (c : Nat → Nat) (S : List Nat) (t m : Nat) : rg_S := rg_wA (rg_wA (rg_wA y 37 (aW S (gL c 16) (256 * t) (fZ (256 * t) 256 (y.2.2.1 37)) m)) 38 (aW S (gW c) (256 * t) (y.2.2.1 38) m)) 36 (upd (y.2.2.1 36) t (nI m))
theorem m_smake (ht : t < 8) (h : yD y c S m) : fX13_make X (rg_p lM b w0 y) (b + 24) (nI t) = some (1, rg_p lM b w0 (yMk y c S t m)) := by
  have h' := h
  obtain ⟨h256, hm, hd, hc, hcl, hx, hS, hnd⟩ := h
  unfold fX13_make
  refine ei_n (nI_nlt (b := 0) (by omega) (by omega)) (ei_n (nI_nlt (a := 7) (by omega) (by omega)) (ob_v (rg_O rfl) (ob_v (m_isTable h') (ei_n n10 ?_))))
  have n256 : ∀ k, (256 : Int32) * nI t + nI k = nI (256 * t + k) := fun k => by rw [show (256 : Int32) = nI 256 from rfl, pk_mul, nI_add]
  have e0 := rg_lpF (F := fun u (q : Int32 × px_W) => fX13_make_21 X u (b + 24) (nI t) q.1 q.2) 256 (fun k => (nI k, rg_p lM b w0 (rg_wA y 37 (fZ (256 * t) k (y.2.2.1 37))))) (r := fX13_make_47 X (b + 24) (nI t) (rg_p lM b w0 (rg_wA y 37 (fZ (256 * t) 256 (y.2.2.1 37))))) (by omega) ?_ ?_
  · have e' : fX13_make_21 X FU (b + 24) (nI t) 0 (rg_p lM b w0 y) = fX13_make_47 X (b + 24) (nI t) (rg_p lM b w0 (rg_wA y 37 (fZ (256 * t) 256 (y.2.2.1 37)))) := by
      refine Eq.trans ?_ e0
      dsimp only
      rw [fZ_0, wA_id rfl, nI_0]
    refine e'.trans ?_
    unfold fX13_make_47
    generalize hZ : fZ (256 * t) 256 (y.2.2.1 37) = Z3
    have hZ2 : aW S (gL c 16) (256 * t) (fZ (256 * t) 256 (y.2.2.1 37)) m = aW S (gL c 16) (256 * t) Z3 m := by rw [hZ]
    unfold yMk
    rw [hZ2]
    have e := rg_lpF (F := fun u (q : Int32 × Int32 × Int32 × px_W) => fX13_make_54 X u (b + 24) (nI t) q.1 q.2.1 q.2.2.1 q.2.2.2) 16 (fun n => (nI (nx c n), nI (dn c n), nI (n + 1), rg_p lM b w0 (rg_wA (rg_wA y 37 (aW S (gL c 16) (256 * t) Z3 (dn c n))) 38 (aW S (gW c) (256 * t) (y.2.2.1 38) (dn c n))))) (r := some (1, rg_p lM b w0 (rg_wA (rg_wA (rg_wA y 37 (aW S (gL c 16) (256 * t) Z3 m)) 38 (aW S (gW c) (256 * t) (y.2.2.1 38) m)) 36 (upd (y.2.2.1 36) t (nI m))))) (by omega) ?_ ?_
    · refine Eq.trans ?_ e
      dsimp only
      rw [show rg_wA (rg_wA y 37 (aW S (gL c 16) (256 * t) Z3 (dn c 0))) 38 (aW S (gW c) (256 * t) (y.2.2.1 38) (dn c 0)) = rg_wA y 37 Z3 by
        show rg_wA (rg_wA y 37 Z3) 38 (y.2.2.1 38) = rg_wA y 37 Z3
        exact wA_id rfl]
      rfl
    · intro M n hn
      dsimp only
      have hle := dn_le (c := c) (n := n + 1) (m := 16) (by omega)
      have ed : dn c (n + 1) = dn c n + c (n + 1) := rfl
      have en : nx c (n + 1) = 2 * nx c n + c (n + 1) := rfl
      have hcn := hcl (n + 1)
      rw [fX13_make_54.eq_2, nI_2]
      refine ei_n (nI_nlt (a := 16) (by omega) (by omega)) ?_
      have e := rg_lpF (F := fun u (q : Int32 × Int32 × Int32 × px_W) => fX13_make_68 X (fX13_make_54 X M) u (b + 24) (nI t) q.1 q.2.1 (nI (n + 1)) q.2.2.1 q.2.2.2) (c (n + 1)) (fun k => (nI (2 * nx c n + k), nI (dn c n + k), nI k, rg_p lM b w0 (rg_wA (rg_wA y 37 (aW S (gL c 16) (256 * t) Z3 (dn c n + k))) 38 (aW S (gW c) (256 * t) (y.2.2.1 38) (dn c n + k))))) (r := fX13_make_54 X M (b + 24) (nI t) (nI (nx c (n + 1))) (nI (dn c (n + 1))) (nI (n + 1 + 1)) (rg_p lM b w0 (rg_wA (rg_wA y 37 (aW S (gL c 16) (256 * t) Z3 (dn c (n + 1)))) 38 (aW S (gW c) (256 * t) (y.2.2.1 38) (dn c (n + 1)))))) (by omega) ?_ ?_
      · exact e
      · intro u k hk
        dsimp only
        obtain ⟨s1, s2⟩ := hS (dn c n + k) (by omega)
        obtain ⟨g1, g2⟩ := gW_at hn hk
        rw [fX13_make_68.eq_2]
        refine ob_v (rg_C rfl rfl) (ob_v (rg_A rfl (by decide) _ (by omega) (by decide)) ?_)
        rw [wA_n _ _ (by decide), wA_n _ _ (by decide), hc (n + 1) (by omega) (by omega)]
        refine ei_n (nI_ge hk (by omega)) (ob_v (rg_C rfl rfl) (ob_v (rg_C rfl rfl) (ob_v (rg_A rfl (by decide) _ (by omega) (by decide)) ?_)))
        rw [wA_n _ _ (by decide), wA_n _ _ (by decide), s1, n256]
        refine ob_v (rg_sA _ rfl (by decide) _ _ (by omega) (by decide)) (ob_v (rg_C rfl rfl) (ob_v (rg_C rfl rfl) (ob_v (rg_A rfl (by decide) _ (by omega) (by decide)) ?_)))
        rw [wA_n _ _ (show 35 ≠ 37 by decide), wA_n _ _ (show 35 ≠ 38 by decide), wA_n _ _ (show 35 ≠ 37 by decide), s1, n256]
        refine ob_v (rg_sA _ rfl (by decide) _ _ (by omega) (by decide)) ?_
        rw [nI_1, nI_1, nI_1]
        congr 2
        have w2 : aW S (gW c) (256 * t) (y.2.2.1 38) (dn c n + (k + 1)) = upd (aW S (gW c) (256 * t) (y.2.2.1 38) (dn c n + k)) (256 * t + S.getD (dn c n + k) 0) (nI (2 * nx c n + k)) := by
          show upd (aW S (gW c) (256 * t) (y.2.2.1 38) (dn c n + k)) (256 * t + S.getD (dn c n + k) 0) (nI (gW c (dn c n + k))) = _
          rw [g2]
        have w3 : aW S (gL c 16) (256 * t) Z3 (dn c n + (k + 1)) = upd (aW S (gL c 16) (256 * t) Z3 (dn c n + k)) (256 * t + S.getD (dn c n + k) 0) (nI (n + 1)) := by
          show upd (aW S (gL c 16) (256 * t) Z3 (dn c n + k)) (256 * t + S.getD (dn c n + k) 0) (nI (gL c 16 (dn c n + k))) = _
          rw [g1]
        rw [w2, w3]
        refine S_ext rfl rfl (fun o => ?_) rfl
        by_cases o7 : o = 37
        · subst o7; rfl
        · by_cases o8 : o = 38
          · subst o8; rfl
          · rw [wA_n _ _ o8, wA_n _ _ o7, wA_n _ _ o8, wA_n _ _ o7, wA_n _ _ o8, wA_n _ _ o7]
      · intro u
        dsimp only
        rw [fX13_make_68.eq_2]
        refine ob_v (rg_C rfl rfl) (ob_v (rg_A rfl (by decide) _ (by omega) (by decide)) ?_)
        rw [wA_n _ _ (by decide), wA_n _ _ (by decide), hc (n + 1) (by omega) (by omega)]
        refine ei_t (nI_le (Nat.le_refl _) (by omega)) ?_
        rw [fX13_make_129, nI_1, ← ed, ← en]
    · intro M
      dsimp only
      rw [fX13_make_54.eq_2, hd]
      refine ei_t (by decide) ?_
      unfold fX13_make_135
      refine ob_v (rg_C rfl rfl) (ob_v (rg_I rfl rfl) ?_)
      rw [wA_1, wA_1, hm]
      exact ob_v (rg_sA _ rfl (by decide) t _ ht (by decide)) rfl
  · intro M k hk
    dsimp only
    rw [fX13_make_21.eq_2, n256]
    refine ei_n (nI_ge (b := 256) hk (by omega)) (ob_v (rg_C rfl rfl) (ob_v (rg_sA _ rfl (by decide) _ _ (by omega) (by decide)) ?_))
    rw [wA_wA, wA_s, nI_1, ← fZ_s]
    rfl
  · intro M
    dsimp only
    rw [fX13_make_21.eq_2]
    exact ei_t (by decide) rfl
end
