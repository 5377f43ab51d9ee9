/-! the class counts and shortens the lengths -/
def cA (M : Nat) (c : Nat → Nat) (Z : Nat → Int32) : Nat → Int32 := fU M (fun l => nI (c l)) Z
theorem cA_u {M i v : Nat} {c : Nat → Nat} {Z : Nat → Int32} (hi : i < M) : upd (cA M c Z) i (nI v) = cA M (uN c i v) Z := by
  funext l
  unfold upd cA fU uN
  show (if l = i then nI v else if l < M then nI (c l) else Z l) = if l < M then nI (if l = i then v else c l) else Z l
  by_cases e : l = i
  · rw [if_pos e, if_pos (by omega), if_pos e]
  · rw [if_neg e, if_neg e]
theorem cA_at {M l : Nat} {c : Nat → Nat} {Z : Nat → Int32} (h : l < M) : cA M c Z l = nI (c l) := fU_lt h
theorem hN_s (bits : Nat → Nat) (N : Nat) : hN bits (N + 1) = uN (hN bits N) (bits N) (hN bits N (bits N) + 1) := by
  funext l
  unfold uN
  show sumN (fun k => if bits k = l then 1 else 0) N + (if bits N = l then 1 else 0) = _
  by_cases e : l = bits N
  · rw [if_pos e.symm, if_pos e, e]
    rfl
  · rw [if_neg (fun h => e h.symm), if_neg e]
    rfl
theorem hN_le (bits : Nat → Nat) (l : Nat) : ∀ N, hN bits N l ≤ N := by
  intro N
  induction N with
  | zero => exact Nat.le_refl 0
  | succ N ih =>
    show hN bits N l + (if bits N = l then 1 else 0) ≤ N + 1
    split <;> omega
abbrev hTn (L j : Nat) (c : Nat → Nat) : Nat → Nat := hT L j c
theorem nI_m1 {a : Nat} (h : 1 ≤ a) : nI a + (-1) = nI (a - 1) := by
  rw [iI_n, iI_n, show (-1 : Int32) = iI (-1) from rfl, iI_add]
  congr 1
  omega
theorem hD_0 (c : Nat → Nat) : ∀ j, hD c j = 0 ∨ 0 < c (hD c j) := by
  intro j
  induction j with
  | zero => exact Or.inl rfl
  | succ j ih =>
    unfold hD
    by_cases e : c (j + 1) = 0
    · rw [if_pos e]; exact ih
    · rw [if_neg e]; exact Or.inr (by omega)
theorem kI_hd {L : Nat} {c : Nat → Nat} (h : kI L c) : 0 < c (hD c L) := by
  rcases hD_0 c L with e | e
  · have p := sumN_pt (f := fun _ => 0) (f' := fun l => if l = 0 then c 0 * 2 ^ L else 0) (b := 0) (fun k hk => if_neg hk) (show 0 < L + 1 by omega)
    rw [sumN_0, if_pos rfl] at p
    have e1 := h.2.1
    rw [sumN_cong (g := fun l => if l = 0 then c 0 * 2 ^ L else 0) (fun l hl => ?_)] at e1
    · have hp : 0 < 2 ^ L := Nat.two_pow_pos L
      rw [e]
      by_cases c0 : c 0 = 0
      · rw [c0, Nat.zero_mul] at p
        rw [c0, Nat.zero_mul] at e1
        omega
      · omega
    · by_cases el : l = 0
      · rw [if_pos el, el, Nat.sub_zero]
      · rw [if_neg el, hD_z (c := c) (j := L) (by omega) (by omega), Nat.zero_mul]
  · exact e
section
variable {X : px_X} {b B : Nat} {w0 w1 : px_W} {x y : rg_S} {T N : Nat} {c : Nat → Nat} {Z : Nat → Int32}
theorem x_cntL {bits : Nat → Nat} (hT : isT T) (n1 : 1 ≤ N) (n2 : N ≤ 257) (hm : x.1 T 5 = nI (N - 1)) (hb : ∀ k, k < N → x.2.2.1 (T + 9) k = nI (bits k) ∧ bits k ≤ 256) : fX0_countLengths X (rg_p lX B w0 x) (B + T) = some (rg_p lX B w0 (rg_wA x (T + 4) (cA 258 (hN bits N) (x.2.2.1 (T + 4))))) := by
  unfold fX0_countLengths
  refine ob_v (rg_C hT.o rfl) (ob_v (rg_fill hT.a4 (by decide) 0) ?_)
  have e := rg_lpF (F := fun u (t : Int32 × px_W) => fX0_countLengths_10 X u (B + T) t.1 t.2) N (fun k => (nI k, rg_p lX B w0 (rg_wA x (T + 4) (cA 258 (hN bits k) (x.2.2.1 (T + 4)))))) (r := some (rg_p lX B w0 (rg_wA x (T + 4) (cA 258 (hN bits N) (x.2.2.1 (T + 4)))))) (by omega) ?_ ?_
  · exact e
  · intro m k hk
    dsimp only
    obtain ⟨b1, b2⟩ := hb k hk
    have hl := hN_le bits (bits k) k
    rw [fX0_countLengths_10.eq_2]
    refine ob_v (rg_I hT.o rfl) ?_
    rw [wA_1, hm]
    refine ei_n (nI_nlt (by omega) (by omega)) (ob_v (rg_C hT.o rfl) (ob_v (rg_C hT.o rfl) (ob_v (rg_A hT.a9 (by decide) k (by omega) (by decide)) ?_)))
    rw [wA_n _ _ (by omega), b1]
    refine ob_v (rg_A hT.a4 (by decide) _ (by omega) (by decide)) (ob_v (rg_sA _ hT.a4 (by decide) _ _ (by omega) (by decide)) ?_)
    rw [wA_wA, wA_s, cA_at (by omega), nI_1, nI_1, id, cA_u (by omega), ← hN_s]
  · intro m
    dsimp only
    rw [fX0_countLengths_10.eq_2]
    refine ob_v (rg_I hT.o rfl) ?_
    rw [wA_1, hm]
    exact ei_t (nI_lt (by omega) (by omega)) rfl
/-- one turn of shortening -/
theorem x_sh44 {k4 k10 : Nat → Int32 → px_W → Option px_W} {L j : Nat} (hT : isT T) (hL : L ≤ 256) (hj : j + 2 ≤ L) (h2 : 2 ≤ c L) (hp : 0 < c j) : fX0_shortenLengths_44 X k4 k10 (B + T) (nI L) (nI j) (rg_p lX B w0 (rg_wA x (T + 4) (cA 258 c Z))) = k10 (B + T) (nI L) (rg_p lX B w0 (rg_wA x (T + 4) (cA 258 (hTn L j c) Z))) := by
  unfold fX0_shortenLengths_44
  have e1 : nI L - 1 = nI (L - 1) := pk_sub (b := 1) (by omega)
  rw [e1, nI_1]
  refine ob_v (rg_C hT.o rfl) (ob_v (rg_A hT.a4 (by decide) _ (by omega) (by decide)) ?_)
  rw [wA_s, cA_at (by omega), show nI (c L) - 2 = nI (c L - 2) from pk_sub (b := 2) h2]
  refine ob_v (rg_sA _ hT.a4 (by decide) _ _ (by omega) (by decide)) ?_
  rw [wA_wA, wA_s, id, cA_u (by omega)]
  refine ob_v (rg_C hT.o rfl) (ob_v (rg_A hT.a4 (by decide) _ (by omega) (by decide)) ?_)
  rw [wA_s, cA_at (by omega), nI_1]
  refine ob_v (rg_sA _ hT.a4 (by decide) _ _ (by omega) (by decide)) ?_
  rw [wA_wA, wA_s, id, cA_u (by omega)]
  refine ob_v (rg_C hT.o rfl) (ob_v (rg_A hT.a4 (by decide) _ (by omega) (by decide)) ?_)
  rw [wA_s, cA_at (by omega), show ∀ z, nI z + 2 = nI (z + 2) from fun z => nI_add z 2]
  refine ob_v (rg_sA _ hT.a4 (by decide) _ _ (by omega) (by decide)) ?_
  rw [wA_wA, wA_s, id, cA_u (by omega)]
  refine ob_v (rg_C hT.o rfl) (ob_v (rg_A hT.a4 (by decide) _ (by omega) (by decide)) ?_)
  have ej : uN (uN (uN c L (c L - 2)) (L - 1) (uN c L (c L - 2) (L - 1) + 1)) (j + 1) (uN (uN c L (c L - 2)) (L - 1) (uN c L (c L - 2) (L - 1) + 1) (j + 1) + 2) j = c j := by
    rw [uN_n (by omega), uN_n (by omega), uN_n (by omega)]
  rw [wA_s, cA_at (by omega), show nI (uN (uN (uN c L (c L - 2)) (L - 1) (uN c L (c L - 2) (L - 1) + 1)) (j + 1) (uN (uN c L (c L - 2)) (L - 1) (uN c L (c L - 2) (L - 1) + 1) (j + 1) + 2) j) - 1 = nI (uN (uN (uN c L (c L - 2)) (L - 1) (uN c L (c L - 2) (L - 1) + 1)) (j + 1) (uN (uN c L (c L - 2)) (L - 1) (uN c L (c L - 2) (L - 1) + 1) (j + 1) + 2) j - 1) from pk_sub (b := 1) (by rw [ej]; exact hp)]
  refine ob_v (rg_sA _ hT.a4 (by decide) _ _ (by omega) (by decide)) ?_
  rw [wA_wA, wA_s, id, cA_u (by omega)]
  rfl
theorem x_sh24 {k4 k10 : Nat → Int32 → px_W → Option px_W} {L : Nat} (hT : isT T) (hL : L ≤ 256) (h17 : 17 ≤ L) (hd : 1 ≤ hD c (L - 2)) (h2 : 2 ≤ c L) (hp : 0 < c (hD c (L - 2))) (hc : ∀ l, c l < 1000) : fX0_shortenLengths_24 X k4 k10 FU (B + T) (nI L) (nI (L - 2)) (rg_p lX B w0 (rg_wA x (T + 4) (cA 258 c Z))) = k10 (B + T) (nI L) (rg_p lX B w0 (rg_wA x (T + 4) (cA 258 (hTn L (hD c (L - 2)) c) Z))) := by
  have hle := hD_le c (L - 2)
  refine Eq.trans ?_ (x_sh44 (X := X) (k4 := k4) (j := hD c (L - 2)) hT hL (by omega) h2 hp)
  have e := rg_lpF (F := fun u (t : Int32) => fX0_shortenLengths_24 X k4 k10 u (B + T) (nI L) t (rg_p lX B w0 (rg_wA x (T + 4) (cA 258 c Z)))) (L - 2 - hD c (L - 2)) (fun i => nI (L - 2 - i)) (r := fX0_shortenLengths_44 X k4 k10 (B + T) (nI L) (nI (hD c (L - 2))) (rg_p lX B w0 (rg_wA x (T + 4) (cA 258 c Z)))) (by omega) ?_ ?_
  · exact e
  · intro m i hi
    rw [fX0_shortenLengths_24.eq_2]
    refine ei_n (nI_ge (a := 1) (by omega) (by omega)) (ob_v (rg_C hT.o rfl) (ob_v (rg_A hT.a4 (by decide) _ (by omega) (by decide)) ?_))
    rw [wA_s, cA_at (by omega), hD_z (c := c) (j := L - 2) (i := L - 2 - i) (by omega) (by omega)]
    refine ei_t rfl ?_
    rw [nI_m1 (by omega), show L - 2 - i - 1 = L - 2 - (i + 1) by omega]
  · intro m
    rw [fX0_shortenLengths_24.eq_2, show L - 2 - (L - 2 - hD c (L - 2)) = hD c (L - 2) by omega]
    refine ei_c (fun _ => rfl) (fun _ => ob_v (rg_C hT.o rfl) (ob_v (rg_A hT.a4 (by decide) _ (by omega) (by decide)) ?_))
    have := hc (hD c (L - 2))
    rw [wA_s, cA_at (by omega)]
    exact ei_n (nI_ne0 hp (by omega)) rfl
theorem kI_lt {L l : Nat} {c : Nat → Nat} (h : kI L c) : c l < 1000 := by
  by_cases e : l ≤ L
  · have := sumN_ge (f := c) (show l < L + 1 by omega)
    have := h.2.2
    omega
  · rw [h.1 l (by omega)]
    decide
theorem x_shorten (hT : isT T) (hk : kI 256 c) (hx : x.2.2.1 (T + 4) = cA 258 c Z) : fX0_shortenLengths X (rg_p lX B w0 x) (B + T) = some (rg_p lX B w0 (rg_wA x (T + 4) (cA 258 (hF (hY c 240)) Z))) := by
  unfold fX0_shortenLengths
  have e := rg_lpF (F := fun u (t : Int32 × px_W) => fX0_shortenLengths_4 X u (B + T) t.1 t.2) 240 (fun n => (nI (256 - n), rg_p lX B w0 (rg_wA x (T + 4) (cA 258 (hY c n) Z)))) (r := some (rg_p lX B w0 (rg_wA x (T + 4) (cA 258 (hF (hY c 240)) Z)))) (by omega) ?_ ?_
  · refine Eq.trans ?_ e
    dsimp only
    rw [show hY c 0 = c from rfl, wA_id hx]
    rfl
  · intro m n hn
    dsimp only
    have i := hY_k hk (n := n) (by omega)
    obtain ⟨L, hL⟩ : ∃ L, 256 - n = L + 1 := ⟨255 - n, by omega⟩
    rw [hL] at i ⊢
    have ev := kI_even i
    rw [fX0_shortenLengths_4.eq_2]
    refine ei_n (nI_ge (a := 16) (by omega) (by omega)) ?_
    refine rg_lpF (F := fun u (w : px_W) => fX0_shortenLengths_10 X (fX0_shortenLengths_4 X m) u (B + T) (nI (L + 1)) w) (hY c n (L + 1) / 2) (fun t => rg_p lX B w0 (rg_wA x (T + 4) (cA 258 (hW (L + 1) (hY c n) t) Z))) (by have := kI_lt (l := L + 1) i; omega) ?_ ?_
    · intro u t ht
      obtain ⟨w1, w2⟩ := hW_k i (by omega) (t := t) (by omega)
      have lt := kI_lt (l := L + 1) w1
      obtain ⟨L', rfl⟩ : ∃ L', L = L' + 1 := ⟨L - 1, by omega⟩
      have hj := kI_j (L := L') w1 (by omega) (by rw [w2]; omega)
      rw [fX0_shortenLengths_10.eq_2]
      refine ob_v (rg_C hT.o rfl) (ob_v (rg_A hT.a4 (by decide) _ (by omega) (by decide)) ?_)
      rw [wA_s, cA_at (by omega)]
      refine ei_n (nI_ge (a := 1) (by rw [w2]; omega) (by omega)) ?_
      rw [show nI (L' + 1 + 1) - 2 = nI (L' + 1 + 1 - 2) from pk_sub (b := 2) (by omega)]
      exact x_sh24 hT (by omega) (by omega) hj.1 (by rw [w2]; omega) hj.2 (fun l => kI_lt w1)
    · intro u
      obtain ⟨w1, w2⟩ := hW_k i (by omega) (t := hY c n (L + 1) / 2) (by omega)
      rw [fX0_shortenLengths_10.eq_2]
      refine ob_v (rg_C hT.o rfl) (ob_v (rg_A hT.a4 (by decide) _ (by omega) (by decide)) ?_)
      rw [wA_s, cA_at (by omega), w2, show hY c n (L + 1) - 2 * (hY c n (L + 1) / 2) = 0 by omega]
      refine ei_t (by decide) ?_
      rw [fX0_shortenLengths_91, nI_m1 (by omega), show L + 1 - 1 = 256 - (n + 1) by omega]
      show _ = fX0_shortenLengths_4 X m (B + T) (nI (256 - (n + 1))) (rg_p lX B w0 (rg_wA x (T + 4) (cA 258 (hW (256 - n) (hY c n) (hY c n (256 - n) / 2)) Z)))
      rw [hL]
  · intro m
    dsimp only
    have i := hY_k hk (n := 240) (by omega)
    have hp := kI_hd i
    have lt := kI_lt (l := hD (hY c 240) 16) i
    have hle := hD_le (hY c 240) 16
    generalize hY c 240 = d at i hp lt hle ⊢
    rw [fX0_shortenLengths_4.eq_2]
    refine ei_t (by decide) ?_
    unfold fX0_shortenLengths_97
    have f119 : fX0_shortenLengths_119 X (B + T) (nI (hD d 16)) (rg_p lX B w0 (rg_wA x (T + 4) (cA 258 d Z))) = some (rg_p lX B w0 (rg_wA x (T + 4) (cA 258 (hF d) Z))) := by
      unfold fX0_shortenLengths_119
      refine ob_v (rg_C hT.o rfl) (ob_v (rg_A hT.a4 (by decide) _ (by omega) (by decide)) ?_)
      rw [wA_s, cA_at (by omega), show nI (d (hD d 16)) - 1 = nI (d (hD d 16) - 1) from pk_sub (b := 1) hp]
      refine ob_v (rg_sA _ hT.a4 (by decide) _ _ (by omega) (by decide)) ?_
      rw [wA_wA, wA_s, id, cA_u (by omega)]
      rfl
    rw [← f119]
    have e := rg_lpF (F := fun u (t : Int32) => fX0_shortenLengths_100 X u (B + T) t (rg_p lX B w0 (rg_wA x (T + 4) (cA 258 d Z)))) (16 - hD d 16) (fun i => nI (16 - i)) (r := fX0_shortenLengths_119 X (B + T) (nI (hD d 16)) (rg_p lX B w0 (rg_wA x (T + 4) (cA 258 d Z)))) (by omega) ?_ ?_
    · exact e
    · intro m i hi
      rw [fX0_shortenLengths_100.eq_2]
      refine ei_n (nI_ge (a := 0) (by omega) (by omega)) (ob_v (rg_C hT.o rfl) (ob_v (rg_A hT.a4 (by decide) _ (by omega) (by decide)) ?_))
      rw [wA_s, cA_at (by omega), hD_z (c := d) (j := 16) (i := 16 - i) (by omega) (by omega)]
      refine ei_t rfl ?_
      rw [nI_m1 (by omega), show 16 - i - 1 = 16 - (i + 1) by omega]
    · intro m
      rw [fX0_shortenLengths_100.eq_2, show 16 - (16 - hD d 16) = hD d 16 by omega]
      refine ei_c (fun _ => rfl) (fun _ => ob_v (rg_C hT.o rfl) (ob_v (rg_A hT.a4 (by decide) _ (by omega) (by decide)) ?_))
      rw [wA_s, cA_at (by omega)]
      exact ei_n (nI_ne0 hp (by omega)) rfl
end
