/-! the class' bytes: giveInput, wipeInput, takeOutput, outputAt -/
def isBy (o : Nat) : Prop := o = 1 ∨ o = 3 ∨ o = 5
theorem isBy.o {o : Nat} (h : isBy o) : lX o = some (.inl (1, [(1, o + 1), (0, 0), (0, 0)])) := by rcases h with rfl | rfl | rfl <;> rfl
theorem isBy.a {o : Nat} (h : isBy o) : lX (o + 1) = some (.inr (1, 16384, fun _ => none)) := by rcases h with rfl | rfl | rfl <;> rfl
section
variable {X : px_X} {b B : Nat} {w0 : px_W}
theorem x_add {o n : Nat} {x : rg_S} (h : isBy o) (hx : x.1 o 1 = nI n) (hn : n < 16384) (v : Int32) : fX1_add X (rg_p lX B w0 x) (B + o) v = some (rg_p lX B w0 (rg_wI (rg_wA x (o + 1) (upd (x.2.2.1 (o + 1)) n (bt v))) o 1 (nI (n + 1)))) := by
  unfold fX1_add
  refine ob_v (rg_I h.o rfl) ?_
  rw [hx, if_pos (show nI n < 16384 from nI_lt (b := 16384) hn (by omega))]
  refine ob_v (rg_C h.o rfl) ?_
  refine ob_v (rg_I h.o rfl) ?_
  rw [hx]
  refine ob_v (rg_sA _ h.a (by decide) n _ hn (by decide)) ?_
  refine ob_v (rg_I h.o rfl) ?_
  refine ob_v (rg_pI h.o rfl _) ?_
  rw [wA_1, hx, nI_1, pk_vb]
  rfl
theorem x_addF {o : Nat} {x : rg_S} (h : isBy o) (hx : x.1 o 1 = nI 16384) (v : Int32) : fX1_add X (rg_p lX B w0 x) (B + o) v = some (rg_p lX B w0 (rg_wI x o 2 1)) := by
  unfold fX1_add
  refine ob_v (rg_I h.o rfl) ?_
  rw [hx, if_neg (show ¬ nI 16384 < 16384 by decide)]
  refine ob_v (rg_pZ h.o rfl _ (Or.inr rfl)) ?_
  rfl
theorem x_at {o n k : Nat} {x : rg_S} (h : isBy o) (hx : x.1 o 1 = nI n) (hn : n ≤ 16384) (hk : k < n) : fX1_at X (rg_p lX B w0 x) (B + o) (nI k) = some (x.2.2.1 (o + 1) k &&& 255, rg_p lX B w0 x) := by
  unfold fX1_at
  rw [if_neg (nI_pos (by omega))]
  refine ob_v (rg_I h.o rfl) ?_
  rw [hx, if_pos (nI_lt hk (by omega))]
  refine ob_v (rg_C h.o rfl) ?_
  refine ob_v (rg_A h.a (by decide) k (by omega) (by decide)) ?_
  rfl
theorem x_atN {o n : Nat} {x : rg_S} {k : Int32} (h : isBy o) (hx : x.1 o 1 = nI n) (hk : k < 0 ∨ nI n ≤ k) : fX1_at X (rg_p lX B w0 x) (B + o) k = some (-1, rg_p lX B w0 x) := by
  unfold fX1_at
  by_cases h1 : k < 0
  · rw [if_pos h1]
  · rw [if_neg h1]
    refine ob_v (rg_I h.o rfl) ?_
    rw [hx, if_neg (Int32.not_lt.mpr (hk.resolve_left h1))]
theorem x_give_l {v : Int64} : ∀ (k m n : Nat) (x : rg_S), n + k ≤ 16384 → k < m → x.1 1 1 = nI n →
    oK (fX11_giveInput_33 X m (B + 0) v (nI k + (-1)) (rg_p lX B w0 x)) (fun r => r = (1, rg_p lX B w0 (rg_wI (rg_wA x 2 (gv_f v k n (x.2.2.1 2))) 1 1 (nI (n + k))))) := by
  intro k
  induction k with
  | zero =>
    intro m n x hn hm hx
    obtain ⟨m, rfl⟩ : ∃ m', m = m' + 1 := ⟨m - 1, by omega⟩
    rw [fX11_giveInput_33.eq_2]
    refine oK.t (by decide) ?_
    exact oK.s (by rw [gv_f, wA_id rfl, Nat.add_zero, wI_id hx])
  | succ k ih =>
    intro m n x hn hm hx
    obtain ⟨m, rfl⟩ : ∃ m', m = m' + 1 := ⟨m - 1, by omega⟩
    rw [pk_m1, fX11_giveInput_33.eq_2]
    refine oK.e (nI_pos (by omega)) ?_
    refine oK.b (rg_C rfl rfl) ?_
    refine oK.b (rg_O rfl) ?_
    refine oK.b (x_add (Or.inl rfl) hx (by omega) _) ?_
    refine (ih m (n + 1) _ (by omega) (by omega) (by rw [wI_1, if_pos ⟨rfl, rfl⟩])).mono ?_
    rintro r rfl
    rw [bt_and]
    simp only [wI_2, wA_3, if_true, wI_wA, wA_wA, wI_wI, gv_f, gv_b]
    rw [show n + 1 + k = n + (k + 1) by omega]
theorem x_giveN {v : Int64} {n : Int32} {x : rg_S} {c : Nat} (hx : x.1 1 1 = nI c) (h : n < 1 ∨ 8 < n ∨ 16384 < nI c + n) : fX11_giveInput X (rg_p lX B w0 x) (B + 0) v n = some (0, rg_p lX B w0 x) := by
  refine oK.eq ?_
  unfold fX11_giveInput
  refine oK.i (fun _ => oK.s rfl) (fun h1 => ?_)
  refine oK.i (fun _ => oK.s rfl) (fun h2 => ?_)
  refine oK.b (rg_C rfl rfl) ?_
  refine oK.b (rg_I rfl rfl) ?_
  rw [hx]
  refine oK.e (by rcases h with h | h | h; exact absurd h h1; exact absurd h h2; exact Int32.not_le.mpr h) ?_
  exact oK.s (rfl)
theorem x_give {v : Int64} {k : Nat} {x : rg_S} {c : Nat} (hx : x.1 1 1 = nI c) (h1 : 1 ≤ k) (h8 : k ≤ 8) (hc : c + k ≤ 16384) : fX11_giveInput X (rg_p lX B w0 x) (B + 0) v (nI k) = some (1, rg_p lX B w0 (rg_wI (rg_wA x 2 (gv_f v k c (x.2.2.1 2))) 1 1 (nI (c + k)))) := by
  refine oK.eq ?_
  unfold fX11_giveInput
  refine oK.e (nI_nlt (b := 1) h1 (by omega)) ?_
  refine oK.e (nI_nlt (b := k) (a := 8) h8 (by omega)) ?_
  refine oK.b (rg_C rfl rfl) ?_
  refine oK.b (rg_I rfl rfl) ?_
  rw [hx, nI_add]
  refine oK.t (nI_le (b := 16384) hc (by omega)) ?_
  have e : nI k - 1 = nI k + (-1) := by
    obtain ⟨j, rfl⟩ : ∃ j, k = j + 1 := ⟨k - 1, by omega⟩
    rw [pk_m1, nI_pred]
  rw [e]
  exact x_give_l k FU c x hc (by unfold FU; omega) hx
theorem x_wipe {x : rg_S} : fX11_wipeInput X (rg_p lX B w0 x) (B + 0) = some (rg_p lX B w0 (rg_wI (rg_wI x 1 1 0) 1 2 0)) := by
  refine oK.eq ?_
  unfold fX11_wipeInput fX1_clear
  refine oK.b (rg_C rfl rfl) ?_
  refine oK.b (rg_O rfl) ?_
  refine oK.b (ob_v (rg_pI rfl rfl _) (ob_v (rg_pZ rfl rfl _ (Or.inl rfl)) rfl)) ?_
  exact oK.s (rfl)
theorem x_take {x : rg_S} {o n : Nat} (h : isBy o) (hR : x.2.1 0 1 = o) (hx : x.1 o 1 = nI n) (hn : n ≤ 16384) (hb : ∀ i, i < n → bt (x.2.2.1 (o + 1) i) = x.2.2.1 (o + 1) i) : fX11_takeOutput X (rg_p lX B w0 x) (B + 0) = some (rg_p lX B w0 (rg_wI (rg_wA x 2 (va_cpy (x.2.2.1 (o + 1)) (x.2.2.1 2) 0 0 n)) 1 1 (nI n))) := by
  refine oK.eq ?_
  unfold fX11_takeOutput fX1_takeAll
  refine oK.b (rg_C rfl rfl) ?_
  refine oK.b (rg_R rfl rfl) ?_
  rw [hR]
  refine oK.b (rg_O rfl) ?_
  refine oK.b (v := rg_p lX B w0 (rg_wI (rg_wA x 2 (va_cpy (x.2.2.1 (o + 1)) (x.2.2.1 2) 0 0 n)) 1 1 (nI n))) ?_ (oK.s rfl)
  refine ob_v (rg_C h.o rfl) ?_
  refine ob_v (rg_C rfl rfl) ?_
  refine ob_v (rg_I h.o rfl) ?_
  rw [hx]
  refine ob_v (rg_cpy (sp := 0) (dp := 0) (m := n) h.a (show lX 2 = _ from rfl) (by decide) (by omega) (by omega) (by decide) (by decide) ?_) ?_
  · intro i hi
    rw [Nat.zero_add, ← hb i hi]
    exact pk_fb _
  refine ob_v (rg_I h.o rfl) ?_
  refine ob_v (rg_pI rfl rfl _) ?_
  rw [wA_1, hx]
theorem x_out {x : rg_S} {o n k : Nat} (h : isBy o) (hR : x.2.1 0 1 = o) (hx : x.1 o 1 = nI n) (hn : n ≤ 16384) (hk : k < n) : fX11_outputAt X (rg_p lX B w0 x) (B + 0) (nI k) = some (x.2.2.1 (o + 1) k &&& 255, rg_p lX B w0 x) := by
  refine oK.eq ?_
  unfold fX11_outputAt
  refine oK.b (rg_R rfl rfl) ?_
  rw [hR]
  refine oK.b (rg_O h.o) ?_
  refine oK.b (x_at h hx hn hk) ?_
  exact oK.s (rfl)
theorem x_outN {x : rg_S} {o n : Nat} {k : Int32} (h : isBy o) (hR : x.2.1 0 1 = o) (hx : x.1 o 1 = nI n) (hk : k < 0 ∨ nI n ≤ k) : fX11_outputAt X (rg_p lX B w0 x) (B + 0) k = some (-1, rg_p lX B w0 x) := by
  refine oK.eq ?_
  unfold fX11_outputAt
  refine oK.b (rg_R rfl rfl) ?_
  rw [hR]
  refine oK.b (rg_O h.o) ?_
  refine oK.b (x_atN h hx hk) ?_
  exact oK.s (rfl)
end
