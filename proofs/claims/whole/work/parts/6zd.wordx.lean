/-! totals; the class gives the words; BestTable whole -/
theorem hT_tot {c : Nat → Nat} {L j : Nat} (hj : j + 2 ≤ L) (hL : 2 ≤ c L) (hp : 0 < c j) : sumN (hT L j c) (L + 1) = sumN c (L + 1) := by
  have e := hT_sum (w := fun _ => 1) hj hL hp
  rw [sumN_cong (g := hT L j c) (fun l _ => Nat.mul_one _), sumN_cong (g := c) (fun l _ => Nat.mul_one _)] at e
  omega
theorem hW_tot {L : Nat} {c : Nat → Nat} (h : kI L c) (hL : 17 ≤ L) : ∀ {t : Nat}, 2 * t ≤ c L → sumN (hW L c t) (L + 1) = sumN c (L + 1) := by
  intro t
  induction t with
  | zero => intro _; rfl
  | succ t ih =>
    intro ht
    obtain ⟨i1, i2⟩ := hW_k h hL (t := t) (by omega)
    have hd := hD_le (hW L c t) (L - 2)
    have hj : 1 ≤ hD (hW L c t) (L - 2) ∧ 0 < hW L c t (hD (hW L c t) (L - 2)) := by
      obtain ⟨L', rfl⟩ : ∃ L', L = L' + 2 := ⟨L - 2, by omega⟩
      exact kI_j (L := L') i1 (by omega) (by rw [i2]; omega)
    show sumN (hT L (hD (hW L c t) (L - 2)) (hW L c t)) (L + 1) = _
    rw [hT_tot (by omega) (by omega) hj.2]
    exact ih (by omega)
theorem hY_tot {c : Nat → Nat} (h : kI 256 c) : ∀ {n : Nat}, n ≤ 240 → sumN (hY c n) (256 - n + 1) = sumN c 257 := by
  intro n
  induction n with
  | zero => intro _; rfl
  | succ n ih =>
    intro hn
    have i := hY_k h (n := n) (by omega)
    have e := ih (by omega)
    obtain ⟨L, hL⟩ : ∃ L, 256 - n = L + 1 := ⟨255 - n, by omega⟩
    have ev : hY c n (256 - n) % 2 = 0 := by
      rw [hL] at i ⊢
      exact kI_even i
    obtain ⟨w1, w2⟩ := hW_k i (by omega) (t := hY c n (256 - n) / 2) (by omega)
    have t := hW_tot i (by omega) (t := hY c n (256 - n) / 2) (by omega)
    show sumN (hW (256 - n) (hY c n) (hY c n (256 - n) / 2)) (256 - (n + 1) + 1) = _
    rw [← e, ← t, hL, show 256 - (n + 1) + 1 = L + 1 by omega]
    rw [hL] at w2 ev
    show _ = sumN _ (L + 1) + _
    rw [w2, show hY c n (L + 1) - 2 * (hY c n (L + 1) / 2) = 0 by omega]
    rfl
/-- the words of 1 to 16 bits, one kept free -/
theorem hF_tot {c : Nat → Nat} (h : kI 16 c) : sumN (hF c) 17 + 1 = sumN c 17 ∧ hF c 0 = 0 := by
  have hp := kI_hd h
  have hle := hD_le c 16
  have e := sumN_pt (f := c) (f' := hF c) (b := hD c 16) (fun k hk => uN_n hk) (show hD c 16 < 17 by omega)
  have es : hF c (hD c 16) = c (hD c 16) - 1 := uN_s _ _ _
  refine ⟨by rw [es] at e; omega, ?_⟩
  have ks := h.2.1
  by_cases z : hD c 16 = 0
  · have p := sumN_pt (f := fun _ => 0) (f' := fun l => if l = 0 then c 0 * 2 ^ 16 else 0) (b := 0) (fun k hk => if_neg hk) (show 0 < 17 by decide)
    rw [sumN_0, if_pos rfl] at p
    rw [sumN_cong (g := fun l => if l = 0 then c 0 * 2 ^ 16 else 0) (fun l hl => by
      by_cases el : l = 0
      · rw [if_pos el, el]
      · rw [if_neg el, hD_z (c := c) (j := 16) (by omega) (by omega), Nat.zero_mul])] at ks
    rw [z] at es
    rw [es]
    have : sumN (fun l => if l = 0 then c 0 * 2 ^ 16 else 0) (16 + 1) = c 0 * 2 ^ 16 := by
      show sumN (fun l => if l = 0 then c 0 * 2 ^ 16 else 0) 17 = _
      omega
    omega
  · have t := sumN_two (f := fun l => c l * 2 ^ (16 - l)) (a := 0) (b := hD c 16) (fun e => z e.symm) (show 0 < 16 + 1 by decide) (show hD c 16 < 16 + 1 by omega)
    have h1 : 1 * 1 ≤ c (hD c 16) * 2 ^ (16 - hD c 16) := Nat.mul_le_mul hp (Nat.two_pow_pos _)
    rw [ks, Nat.sub_zero] at t
    have e0 : hF c 0 = c 0 := uN_n (fun e => z e.symm)
    rw [e0]
    omega
/-- words and lengths given in order -/
def nx (c : Nat → Nat) : Nat → Nat
  | 0 => 0
  | n + 1 => 2 * nx c n + c (n + 1)
def dn (c : Nat → Nat) : Nat → Nat
  | 0 => 0
  | n + 1 => dn c n + c (n + 1)
theorem dn_le {c : Nat → Nat} : ∀ {n m : Nat}, n ≤ m → dn c n ≤ dn c m := by
  intro n m h
  induction m with
  | zero => rw [Nat.le_zero.mp h]; exact Nat.le_refl _
  | succ m ih =>
    by_cases e : n = m + 1
    · rw [e]; exact Nat.le_refl _
    · have := ih (by omega)
      show _ ≤ dn c m + _
      omega
theorem dn_sum (c : Nat → Nat) : ∀ n, dn c n + c 0 = sumN c (n + 1) := by
  intro n
  induction n with
  | zero => show 0 + c 0 = 0 + c 0; rfl
  | succ n ih =>
    rw [sumN, ← ih]
    show dn c n + c (n + 1) + c 0 = _
    omega
/-- of the i-th symbol: its length and its word -/
def gL (c : Nat → Nat) : Nat → Nat → Nat
  | 0, _ => 0
  | n + 1, i => if dn c n ≤ i then n + 1 else gL c n i
def gW (c : Nat → Nat) (i : Nat) : Nat := 2 * nx c (gL c 16 i - 1) + (i - dn c (gL c 16 i - 1))
theorem gL_at {c : Nat → Nat} : ∀ {m n i : Nat}, n < m → dn c n ≤ i → i < dn c (n + 1) → gL c m i = n + 1 := by
  intro m
  induction m with
  | zero => intro n i h; exact absurd h (Nat.not_lt_zero n)
  | succ m ih =>
    intro n i h h1 h2
    unfold gL
    by_cases e : n = m
    · subst e
      rw [if_pos h1]
    · have := dn_le (c := c) (n := n + 1) (m := m) (by omega)
      rw [if_neg (by omega)]
      exact ih (by omega) h1 h2
theorem gW_at {c : Nat → Nat} {n k : Nat} (h : n < 16) (hk : k < c (n + 1)) : gL c 16 (dn c n + k) = n + 1 ∧ gW c (dn c n + k) = 2 * nx c n + k := by
  have e : gL c 16 (dn c n + k) = n + 1 := gL_at h (by omega) (by show _ < dn c n + c (n + 1); omega)
  refine ⟨e, ?_⟩
  unfold gW
  rw [e, Nat.add_sub_cancel, Nat.add_sub_cancel_left]
/-- an array after d writes at the symbols' places -/
def aW (S : List Nat) (g : Nat → Nat) (o : Nat) (Z : Nat → Int32) : Nat → (Nat → Int32)
  | 0 => Z
  | d + 1 => upd (aW S g o Z d) (o + S.getD d 0) (nI (g d))
section
variable {X : px_X} {b B : Nat} {w0 w1 : px_W} {x y : rg_S} {T m : Nat} {c : Nat → Nat} {S : List Nat}
theorem nx_b {c : Nat → Nat} (hc : ∀ l, c l ≤ 257) : ∀ n, nx c n + 257 ≤ 257 * 2 ^ n := by
  intro n
  induction n with
  | zero => exact Nat.le_refl _
  | succ n ih =>
    have := hc (n + 1)
    show 2 * nx c n + c (n + 1) + 257 ≤ _
    rw [Nat.pow_succ]
    omega
/-- giveWords -/
theorem x_give2 (hT : isT T) (h256 : m ≤ 256) (hm : x.1 T 5 = nI m) (hd : dn c 16 = m) (hc : ∀ l, 1 ≤ l → l ≤ 16 → x.2.2.1 (T + 4) l = nI (c l)) (hcl : ∀ l, c l ≤ 257) (hS : ∀ i, i < m → x.2.2.1 (T + 5) i = nI (S.getD i 0) ∧ S.getD i 0 < 256) : fX0_giveWords X (rg_p lX B w0 x) (B + T) = some (rg_p lX B w0 (rg_wA (rg_wA x (T + 2) (aW S (gW c) 0 (x.2.2.1 (T + 2)) m)) (T + 3) (aW S (gL c 16) 0 (x.2.2.1 (T + 3)) m))) := by
  unfold fX0_giveWords
  have st : ∀ d, (rg_wA (rg_wA x (T + 2) (aW S (gW c) 0 (x.2.2.1 (T + 2)) d)) (T + 3) (aW S (gL c 16) 0 (x.2.2.1 (T + 3)) d)).2.2.1 (T + 4) = x.2.2.1 (T + 4) ∧ (rg_wA (rg_wA x (T + 2) (aW S (gW c) 0 (x.2.2.1 (T + 2)) d)) (T + 3) (aW S (gL c 16) 0 (x.2.2.1 (T + 3)) d)).2.2.1 (T + 5) = x.2.2.1 (T + 5) := fun d => ⟨by rw [wA_n _ _ (by omega), wA_n _ _ (by omega)], by rw [wA_n _ _ (by omega), wA_n _ _ (by omega)]⟩
  have e := rg_lpF (F := fun u (t : Int32 × Int32 × Int32 × px_W) => fX0_giveWords_6 X u (B + T) t.1 t.2.1 t.2.2.1 t.2.2.2) 16 (fun n => (nI (nx c n), nI (dn c n), nI (n + 1), rg_p lX B w0 (rg_wA (rg_wA x (T + 2) (aW S (gW c) 0 (x.2.2.1 (T + 2)) (dn c n))) (T + 3) (aW S (gL c 16) 0 (x.2.2.1 (T + 3)) (dn c n))))) (r := some (rg_p lX B w0 (rg_wA (rg_wA x (T + 2) (aW S (gW c) 0 (x.2.2.1 (T + 2)) m)) (T + 3) (aW S (gL c 16) 0 (x.2.2.1 (T + 3)) m)))) (by omega) ?_ ?_
  · refine Eq.trans ?_ e
    dsimp only
    rw [show rg_wA (rg_wA x (T + 2) (aW S (gW c) 0 (x.2.2.1 (T + 2)) (dn c 0))) (T + 3) (aW S (gL c 16) 0 (x.2.2.1 (T + 3)) (dn c 0)) = x by
      show rg_wA (rg_wA x (T + 2) (x.2.2.1 (T + 2))) (T + 3) (x.2.2.1 (T + 3)) = x
      rw [wA_id (s := x) (o := T + 2) rfl, wA_id (s := x) (o := T + 3) rfl]]
    rfl
  · intro M n hn
    dsimp only
    have hle := dn_le (c := c) (n := n + 1) (m := 16) (by omega)
    have ed : dn c (n + 1) = dn c n + c (n + 1) := rfl
    have en : nx c (n + 1) = 2 * nx c n + c (n + 1) := rfl
    have hb := nx_b hcl n
    have hpw : 2 ^ n ≤ 2 ^ 16 := Nat.pow_le_pow_right (by decide) (by omega)
    rw [show (2 : Nat) ^ 16 = 65536 from rfl] at hpw
    rw [fX0_giveWords_6.eq_2]
    refine ei_n (nI_nlt (a := 16) (by omega) (by omega)) ?_
    rw [show nI (nx c n) * 2 = nI (2 * nx c n) by rw [show (2 : Int32) = nI 2 from rfl, pk_mul, Nat.mul_comm]]
    have e := rg_lpF (F := fun u (t : Int32 × Int32 × Int32 × px_W) => fX0_giveWords_19 X (fX0_giveWords_6 X M) u (B + T) t.1 t.2.1 (nI (n + 1)) t.2.2.1 t.2.2.2) (c (n + 1)) (fun k => (nI (2 * nx c n + k), nI (dn c n + k), nI k, rg_p lX B w0 (rg_wA (rg_wA x (T + 2) (aW S (gW c) 0 (x.2.2.1 (T + 2)) (dn c n + k))) (T + 3) (aW S (gL c 16) 0 (x.2.2.1 (T + 3)) (dn c n + k))))) (r := fX0_giveWords_6 X M (B + T) (nI (nx c (n + 1))) (nI (dn c (n + 1))) (nI (n + 1 + 1)) (rg_p lX B w0 (rg_wA (rg_wA x (T + 2) (aW S (gW c) 0 (x.2.2.1 (T + 2)) (dn c (n + 1)))) (T + 3) (aW S (gL c 16) 0 (x.2.2.1 (T + 3)) (dn c (n + 1)))))) (by have := hcl (n + 1); omega) ?_ ?_
    · exact e
    · intro u k hk
      dsimp only
      have hcn := hcl (n + 1)
      obtain ⟨s1, s2⟩ := hS (dn c n + k) (by omega)
      obtain ⟨g1, g2⟩ := gW_at hn hk
      rw [fX0_giveWords_19.eq_2]
      refine ob_v (rg_C hT.o rfl) (ob_v (rg_A hT.a4 (by decide) _ (by omega) (by decide)) ?_)
      rw [(st _).1, hc (n + 1) (by omega) (by omega)]
      refine ei_n (nI_ge hk (by omega)) (ob_v (rg_I hT.o rfl) ?_)
      rw [wA_1, wA_1, hm]
      refine ei_n (nI_ge (by omega) (by omega)) (ob_v (rg_C hT.o rfl) (ob_v (rg_C hT.o rfl) (ob_v (rg_A hT.a5 (by decide) _ (by omega) (by decide)) ?_)))
      rw [(st _).2, s1]
      refine ob_v (rg_sA _ hT.a2 (by decide) _ _ s2 (by decide)) (ob_v (rg_C hT.o rfl) (ob_v (rg_C hT.o rfl) (ob_v (rg_A hT.a5 (by decide) _ (by omega) (by decide)) ?_)))
      rw [wA_n _ _ (show T + 5 ≠ T + 2 by omega), (st _).2, s1]
      refine ob_v (rg_sA _ hT.a3 (by decide) _ _ s2 (by decide)) ?_
      rw [nI_1, nI_1, nI_1]
      congr 2
      refine S_ext rfl rfl (fun o => ?_) rfl
      simp only [wA_3, id, if_true]
      rw [if_neg (show ¬ T + 2 = T + 3 by omega), if_neg (show ¬ T + 3 = T + 2 by omega)]
      have w2 : aW S (gW c) 0 (x.2.2.1 (T + 2)) (dn c n + (k + 1)) = upd (aW S (gW c) 0 (x.2.2.1 (T + 2)) (dn c n + k)) (S.getD (dn c n + k) 0) (nI (2 * nx c n + k)) := by
        show upd (aW S (gW c) 0 (x.2.2.1 (T + 2)) (dn c n + k)) (0 + S.getD (dn c n + k) 0) (nI (gW c (dn c n + k))) = _
        rw [g2, Nat.zero_add]
      have w3 : aW S (gL c 16) 0 (x.2.2.1 (T + 3)) (dn c n + (k + 1)) = upd (aW S (gL c 16) 0 (x.2.2.1 (T + 3)) (dn c n + k)) (S.getD (dn c n + k) 0) (nI (n + 1)) := by
        show upd (aW S (gL c 16) 0 (x.2.2.1 (T + 3)) (dn c n + k)) (0 + S.getD (dn c n + k) 0) (nI (gL c 16 (dn c n + k))) = _
        rw [g1, Nat.zero_add]
      rw [w2, w3]
      by_cases o3 : o = T + 3
      · rw [if_pos o3, if_pos o3]
      · rw [if_neg o3, if_neg o3, if_neg o3]
        by_cases o2 : o = T + 2
        · rw [if_pos o2, if_pos o2]
        · rw [if_neg o2, if_neg o2, if_neg o2]
    · intro u
      dsimp only
      have hcn := hcl (n + 1)
      rw [fX0_giveWords_19.eq_2]
      refine ob_v (rg_C hT.o rfl) (ob_v (rg_A hT.a4 (by decide) _ (by omega) (by decide)) ?_)
      rw [(st _).1, hc (n + 1) (by omega) (by omega)]
      refine ei_t (nI_le (Nat.le_refl _) (by omega)) ?_
      rw [fX0_giveWords_74, nI_1, ← ed, ← en]
  · intro M
    dsimp only
    rw [fX0_giveWords_6.eq_2, hd]
    exact ei_t (by decide) rfl
end
