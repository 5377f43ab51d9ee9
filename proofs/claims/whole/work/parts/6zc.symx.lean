/-! the class puts the symbols in order -/
def hO1 (bits pos : Nat → Nat) (n : Nat) : Nat → List Nat
  | 0 => []
  | k + 1 => hO1 bits pos n k ++ (if bits k = n then [pos k] else [])
def hO (bits pos : Nat → Nat) (m : Nat) : Nat → List Nat
  | 0 => []
  | n + 1 => hO bits pos m n ++ hO1 bits pos (n + 1) m
theorem hO1_len (bits pos : Nat → Nat) (n : Nat) : ∀ k, (hO1 bits pos n k).length = hN bits k n := by
  intro k
  induction k with
  | zero => rfl
  | succ k ih =>
    show (hO1 bits pos n k ++ (if bits k = n then [pos k] else [])).length = hN bits k n + (if bits k = n then 1 else 0)
    rw [List.length_append, ih]
    split <;> rfl
theorem one_in (v : Nat) : ∀ n, sumN (fun l => if v = l + 1 then 1 else 0) n = if 1 ≤ v ∧ v ≤ n then 1 else 0 := by
  intro n
  induction n with
  | zero => rw [if_neg (by omega)]; rfl
  | succ n ih =>
    rw [sumN, ih]
    by_cases e : v = n + 1
    · rw [if_neg (by omega), if_pos e, if_pos (by omega)]
    · rw [if_neg e]
      by_cases h : 1 ≤ v ∧ v ≤ n
      · rw [if_pos h, if_pos (by omega)]
      · rw [if_neg h, if_neg (by omega)]
theorem hN_tot (bits : Nat → Nat) (n : Nat) : ∀ m, sumN (fun l => hN bits m (l + 1)) n = sumN (fun k => if 1 ≤ bits k ∧ bits k ≤ n then 1 else 0) m := by
  intro m
  induction m with
  | zero =>
    rw [sumN_cong (f := fun l => hN bits 0 (l + 1)) (g := fun _ => 0) (fun _ _ => rfl), sumN_0]
    rfl
  | succ m ih =>
    show sumN (fun l => hN bits m (l + 1) + (if bits m = l + 1 then 1 else 0)) n = sumN (fun k => if 1 ≤ bits k ∧ bits k ≤ n then 1 else 0) m + (if 1 ≤ bits m ∧ bits m ≤ n then 1 else 0)
    rw [sumN_add, ih, one_in]
theorem hO_len (bits pos : Nat → Nat) (m : Nat) : ∀ n, (hO bits pos m n).length = sumN (fun k => if 1 ≤ bits k ∧ bits k ≤ n then 1 else 0) m := by
  intro n
  rw [← hN_tot]
  induction n with
  | zero => rfl
  | succ n ih =>
    show (hO bits pos m n ++ hO1 bits pos (n + 1) m).length = sumN (fun l => hN bits m (l + 1)) n + hN bits m (n + 1)
    rw [List.length_append, ih, hO1_len]
theorem sum_le1 {p : Nat → Prop} {d : ∀ k, Decidable (p k)} : ∀ m, sumN (fun k => if p k then 1 else 0) m ≤ m := by
  intro m
  induction m with
  | zero => exact Nat.le_refl 0
  | succ m ih =>
    rw [sumN]
    split <;> omega
theorem hO_le (bits pos : Nat → Nat) (m n : Nat) : (hO bits pos m n).length ≤ m := by
  rw [hO_len]
  exact sum_le1 m
theorem hO_full {bits pos : Nat → Nat} {m : Nat} (h : ∀ k, k < m → 1 ≤ bits k ∧ bits k ≤ 256) : (hO bits pos m 256).length = m := by
  rw [hO_len, sumN_cong (g := fun _ => 1) (fun k hk => if_pos (h k hk))]
  have : ∀ n, sumN (fun _ => 1) n = n := fun n => by
    induction n with
    | zero => rfl
    | succ n ih => rw [sumN, ih]
  exact this m
/-- when all are there, no more come -/
theorem hO_stop {bits pos : Nat → Nat} {m n : Nat} (h : (hO bits pos m n).length = m) : ∀ i, hO bits pos m (n + i) = hO bits pos m n := by
  intro i
  induction i with
  | zero => rfl
  | succ i ih =>
    show hO bits pos m (n + i) ++ hO1 bits pos (n + i + 1) m = _
    have h1 := hO_le bits pos m (n + i + 1)
    have e : hO bits pos m (n + i + 1) = hO bits pos m (n + i) ++ hO1 bits pos (n + i + 1) m := rfl
    rw [e, List.length_append, ih, h] at h1
    rw [ih, List.eq_nil_of_length_eq_zero (show (hO1 bits pos (n + i + 1) m).length = 0 by omega), List.append_nil]
/-- an array whose first places are a list's -/
def sL (l : List Nat) (Z : Nat → Int32) : Nat → Int32 := fun i => if i < l.length then nI (l.getD i 0) else Z i
theorem sL_s (l : List Nat) (v : Nat) (Z : Nat → Int32) : upd (sL l Z) l.length (nI v) = sL (l ++ [v]) Z := by
  funext i
  unfold upd sL
  rw [List.length_append, List.length_singleton]
  by_cases e : i = l.length
  · rw [if_pos e, if_pos (by omega), e, List.getD_eq_getElem?_getD, List.getElem?_append_right (Nat.le_refl _), Nat.sub_self]
    rfl
  · rw [if_neg e]
    by_cases h : i < l.length
    · rw [if_pos h, if_pos (by omega), List.getD_eq_getElem?_getD, List.getD_eq_getElem?_getD, List.getElem?_append_left h]
    · rw [if_neg h, if_neg (by omega)]
section
variable {X : px_X} {b B : Nat} {w0 w1 : px_W} {x y : rg_S} {T m : Nat} {bits pos : Nat → Nat} {Z : Nat → Int32}
theorem x_syms (hT : isT T) (h256 : m ≤ 256) (hm : x.1 T 5 = nI m) (hb : ∀ k, k < m → x.2.2.1 (T + 9) k = nI (bits k) ∧ 1 ≤ bits k ∧ bits k ≤ 256) (hp : ∀ k, k < m → x.2.2.1 (T + 6) k = nI (pos k)) : fX0_putSymbolsInOrder X (rg_p lX B w0 x) (B + T) = some (rg_p lX B w0 (rg_wA x (T + 5) (sL (hO bits pos m 256) (x.2.2.1 (T + 5))))) := by
  unfold fX0_putSymbolsInOrder
  have full := hO_full (pos := pos) (fun k hk => (hb k hk).2)
  have key : ∀ n M, n ≤ 256 → 256 - n < M → fX0_putSymbolsInOrder_4 X M (B + T) (nI (hO bits pos m n).length) (nI (n + 1)) (rg_p lX B w0 (rg_wA x (T + 5) (sL (hO bits pos m n) (x.2.2.1 (T + 5))))) = some (rg_p lX B w0 (rg_wA x (T + 5) (sL (hO bits pos m 256) (x.2.2.1 (T + 5))))) := by
    intro n M hn
    obtain ⟨d, hd⟩ : ∃ d, d = 256 - n := ⟨_, rfl⟩
    induction d generalizing n M with
    | zero =>
      intro hM
      obtain ⟨M, rfl⟩ : ∃ M', M = M' + 1 := ⟨M - 1, by omega⟩
      obtain rfl : n = 256 := by omega
      rw [fX0_putSymbolsInOrder_4.eq_2]
      exact ei_t (by decide) rfl
    | succ d ih =>
      intro hM
      obtain ⟨M, rfl⟩ : ∃ M', M = M' + 1 := ⟨M - 1, by omega⟩
      have hle := hO_le bits pos m n
      rw [fX0_putSymbolsInOrder_4.eq_2]
      refine ei_n (nI_nlt (a := 256) (by omega) (by omega)) (ob_v (rg_I hT.o rfl) ?_)
      rw [wA_1, hm]
      by_cases done : (hO bits pos m n).length = m
      · refine ei_t (by rw [done]; exact nI_le (Nat.le_refl _) (by omega)) ?_
        have := hO_stop done (256 - n)
        rw [show n + (256 - n) = 256 by omega] at this
        rw [this]
      · refine ei_n (nI_ge (by omega) (by omega)) ?_
        refine Eq.trans ?_ (ih (n + 1) M (by omega) (by omega) (by omega))
        have e := rg_lpF (F := fun u (t : Int32 × Int32 × px_W) => fX0_putSymbolsInOrder_21 X (fX0_putSymbolsInOrder_4 X M) u (B + T) t.1 (nI (n + 1)) t.2.1 t.2.2) m (fun k => (nI (hO bits pos m n ++ hO1 bits pos (n + 1) k).length, nI k, rg_p lX B w0 (rg_wA x (T + 5) (sL (hO bits pos m n ++ hO1 bits pos (n + 1) k) (x.2.2.1 (T + 5)))))) (r := fX0_putSymbolsInOrder_4 X M (B + T) (nI (hO bits pos m (n + 1)).length) (nI (n + 1 + 1)) (rg_p lX B w0 (rg_wA x (T + 5) (sL (hO bits pos m (n + 1)) (x.2.2.1 (T + 5)))))) (by omega) ?_ ?_
        · refine Eq.trans ?_ e
          dsimp only
          rw [show hO1 bits pos (n + 1) 0 = [] from rfl, List.append_nil, nI_0]
        · intro u k hk
          dsimp only
          obtain ⟨b1, b2, b3⟩ := hb k hk
          have hlk : (hO bits pos m n ++ hO1 bits pos (n + 1) (k + 1)).length ≤ m := by
            have h1 := hO_le bits pos m (n + 1)
            have e : hO bits pos m (n + 1) = hO bits pos m n ++ hO1 bits pos (n + 1) m := rfl
            rw [e, List.length_append, hO1_len] at h1
            rw [List.length_append, hO1_len]
            have : ∀ a c, a ≤ c → hN bits a (n + 1) ≤ hN bits c (n + 1) := by
              intro a c hac
              induction c with
              | zero => rw [Nat.le_zero.mp hac]; exact Nat.le_refl _
              | succ c ihc =>
                by_cases ea : a = c + 1
                · rw [ea]; exact Nat.le_refl _
                · have := ihc (by omega)
                  show _ ≤ hN bits c (n + 1) + _
                  omega
            have := this (k + 1) m (by omega)
            omega
          have es : hO1 bits pos (n + 1) (k + 1) = hO1 bits pos (n + 1) k ++ (if bits k = n + 1 then [pos k] else []) := rfl
          rw [fX0_putSymbolsInOrder_21.eq_2]
          refine ob_v (rg_I hT.o rfl) ?_
          rw [wA_1, hm]
          refine ei_n (nI_ge hk (by omega)) (ob_v (rg_C hT.o rfl) (ob_v (rg_A hT.a9 (by decide) k (by omega) (by decide)) ?_))
          rw [wA_n _ _ (by omega), b1]
          by_cases e : bits k = n + 1
          · rw [if_pos e] at es
            rw [es, ← List.append_assoc] at hlk ⊢
            rw [List.length_append, List.length_singleton] at hlk
            refine ei_t (by rw [e]) (ob_v (rg_C hT.o rfl) (ob_v (rg_C hT.o rfl) (ob_v (rg_A hT.a6 (by decide) k (by omega) (by decide)) (ob_v (rg_sA _ hT.a5 (by decide) _ _ (by omega) (by decide)) ?_))))
            rw [wA_n _ _ (show T + 6 ≠ T + 5 by omega), hp k hk, wA_wA, wA_s, id, sL_s, fX0_putSymbolsInOrder_54, nI_1, nI_1, List.length_append (bs := [pos k]), List.length_singleton]
          · rw [if_neg e, List.append_nil] at es
            rw [es]
            refine ei_n (fun h => e ((nI_eq (by omega) (by omega)).mp h)) ?_
            rw [fX0_putSymbolsInOrder_54, nI_1]
        · intro u
          dsimp only
          rw [fX0_putSymbolsInOrder_21.eq_2]
          refine ob_v (rg_I hT.o rfl) ?_
          rw [wA_1, hm]
          refine ei_t (nI_le (Nat.le_refl _) (by omega)) ?_
          rw [fX0_putSymbolsInOrder_60, nI_1]
          rfl
  have e := key 0 FU (by decide) (by unfold FU; omega)
  refine Eq.trans ?_ e
  have : rg_wA x (T + 5) (sL (hO bits pos m 0) (x.2.2.1 (T + 5))) = x := wA_id (by
    funext i
    unfold sL
    rw [if_neg (by show ¬ i < 0; omega)])
  rw [this]
  rfl
end
