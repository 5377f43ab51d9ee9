/-! Forge: all joins; counting and shortening -/
section
variable {X : px_X} {b B : Nat} {w0 w1 : px_W} {x y : rg_S} {s : hS} {f c : Nat → Nat} {Z : Nat → Int32}
theorem rS_g {f : Nat → Nat} : ∀ {j p : Nat}, p < 257 → (rS f j).2.1 p < 257 := by
  intro j
  induction j with
  | zero => intro p hp; exact hp
  | succ j ih =>
    intro p hp
    show (if (rS f j).2.1 p = (hL (rS f j).1 none 257).getD 0 ∨ (rS f j).2.1 p = (hL (rS f j).1 (some ((hL (rS f j).1 none 257).getD 0)) 257).getD 0 then (hL (rS f j).1 none 257).getD 0 else (rS f j).2.1 p) < 257
    split
    · cases h : hL (rS f j).1 none 257 with
      | none => exact (by decide : 0 < 257)
      | some a => exact (hL_some h).1
    · exact ih hp
theorem m_join (h256 : f 256 = 1) (hs : sumN f 257 < 2 ^ 31) (hf : ∀ p, p < 256 → y.2.2.1 51 p = nI (f p)) : ∃ y', fX12_join X (rg_p lM b w0 y) (b + 48) = some (rg_p lM b w0 y') ∧ yG y' (rS f (cn f 256)) ∧ FK y y' := by
  generalize hy1 : rg_wA (rg_wA (rg_wA y 52 (fU 257 (fun i => nI (f i)) (y.2.2.1 52))) 53 (fU 257 (fun i => nI i) (y.2.2.1 53))) 54 (fU 257 (fun _ => nI 0) (y.2.2.1 54)) = y1
  have G1 : yG y1 (rS f 0) := by
    intro p hp
    rw [← hy1]
    refine ⟨?_, ?_, ?_⟩
    · rw [wA_n _ _ (by decide), wA_n _ _ (by decide), wA_s, fU_lt hp]
      rfl
    · rw [wA_n _ _ (by decide), wA_s, fU_lt hp]
      rfl
    · rw [wA_s, fU_lt hp]
      rfl
  have F1 : FK y y1 := by
    rw [← hy1]
    exact ⟨rfl, rfl, fun o ho => by rw [wA_n _ _ (by omega), wA_n _ _ (by omega), wA_n _ _ (by omega)]⟩
  have nb : ∀ (y2 : rg_S) (j : Nat), j ≤ cn f 256 → yG y2 (rS f j) → ∀ p, p < 257 → y2.2.2.1 52 p = nI ((rS f j).1 p) ∧ (rS f j).1 p < 2 ^ 31 := fun y2 j hj hG p hp => ⟨(hG p hp).1, rS_b h256 hs hj hp⟩
  have hMb := cn_b f 256
  obtain ⟨q, e, _, _, qG, qF⟩ := rg_lpE (F := fun u (t : Int32 × Int32 × rg_S) => fX12_join_64 X u (b + 48) t.1 t.2.1 (rg_p lM b w0 t.2.2)) (E := fun t => some (rg_p lM b w0 t.2.2)) (n := cn f 256) (fun j t => t.1 = enc (hL (rS f j).1 none 257) ∧ t.2.1 = enc (hL (rS f j).1 (hL (rS f j).1 none 257) 257) ∧ yG t.2.2 (rS f j) ∧ FK y t.2.2) (by
    rintro m j ⟨a1, a2, y2⟩ hj ⟨e1, e2, lG, lF⟩
    dsimp only at e1 e2 lG lF ⊢
    subst e1
    subst e2
    obtain ⟨a, c, ha, hc, h1, h2, h3⟩ := rS_two h256 hj
    obtain ⟨y3, ej, mG, mF⟩ := m_join70 (X := X) (b := b) (w0 := w0) (k64 := fX12_join_64 X m) (a := a) (c := c) lG (fun p hp => Nat.lt_trans (rS_g hp) (by decide)) ha hc (fun p hp => by rw [← h3]; exact rS_b h256 hs (by omega) hp)
    rw [h1, h2]
    rw [← h3] at ej mG
    refine ⟨(_, _, y3), ?_, rfl, rfl, mG, lF.trans mF⟩
    rw [fX12_join_64.eq_2]
    exact ei_n (nI_nlt (b := 0) (by omega) (by omega)) ej) (by
    rintro m ⟨a1, a2, y2⟩ ⟨e1, e2, lG, lF⟩
    dsimp only at e1 e2 lG lF ⊢
    subst e2
    rw [fX12_join_64.eq_2, rS_end h256]
    exact ei_t (by show (-1 : Int32) < 0; decide) rfl) (cn f 256) FU 0 (enc (hL (rS f 0).1 none 257), enc (hL (rS f 0).1 (hL (rS f 0).1 none 257) 257), y1) (by omega) (by unfold FU; omega) ⟨rfl, rfl, G1, F1⟩
  refine ⟨q.2.2, ?_, qG, qF⟩
  unfold fX12_join
  have e2 := rg_lpF (F := fun u (t : Int32 × px_W) => fX12_join_2 X u (b + 48) t.1 t.2) 257 (fun p => (nI p, rg_p lM b w0 (rg_wA (rg_wA (rg_wA y 52 (fU p (fun i => nI (f i)) (y.2.2.1 52))) 53 (fU p (fun i => nI i) (y.2.2.1 53))) 54 (fU p (fun _ => nI 0) (y.2.2.1 54))))) (r := fX12_join_52 X (b + 48) (rg_p lM b w0 y1)) (by omega) ?_ ?_
  · have e' : fX12_join_2 X FU (b + 48) 0 (rg_p lM b w0 y) = fX12_join_52 X (b + 48) (rg_p lM b w0 y1) := by
      refine Eq.trans ?_ e2
      dsimp only
      rw [fU_0, fU_0, fU_0, wA_id (s := y) (o := 52) rfl, wA_id (s := y) (o := 53) rfl, wA_id (s := y) (o := 54) rfl, nI_0]
    refine e'.trans ?_
    unfold fX12_join_52
    exact ob_v (rg_O rfl) (ob_v (m_least (q := none) (nb y1 0 (by omega) G1) (fun k hk => by cases hk)) (ob_v (rg_O rfl) (ob_v (m_least (nb y1 0 (by omega) G1) (fun k hk => (hL_some hk).1)) e)))
  · intro m p hp
    dsimp only
    have f31 : ∀ v, v = nI (f p) → fX12_join_31 X (fX12_join_2 X m) (b + 48) (nI p) v (nI p) (b + 52) (rg_p lM b w0 (rg_wA (rg_wA (rg_wA y 52 (fU p (fun i => nI (f i)) (y.2.2.1 52))) 53 (fU p (fun i => nI i) (y.2.2.1 53))) 54 (fU p (fun _ => nI 0) (y.2.2.1 54)))) = fX12_join_2 X m (b + 48) (nI (p + 1)) (rg_p lM b w0 (rg_wA (rg_wA (rg_wA y 52 (fU (p + 1) (fun i => nI (f i)) (y.2.2.1 52))) 53 (fU (p + 1) (fun i => nI i) (y.2.2.1 53))) 54 (fU (p + 1) (fun _ => nI 0) (y.2.2.1 54)))) := by
      rintro v rfl
      unfold fX12_join_31
      refine ob_v (rg_sA _ rfl (by decide) p _ (by omega) (by decide)) (ob_v (rg_C rfl rfl) (ob_v (rg_sA _ rfl (by decide) p _ (by omega) (by decide)) (ob_v (rg_C rfl rfl) (ob_v (rg_sA _ rfl (by decide) p _ (by omega) (by decide)) ?_))))
      rw [nI_1, ← fU_s, ← fU_s, ← fU_s]
      congr 2
      refine S_ext rfl rfl (fun o => ?_) rfl
      by_cases o2 : o = 52
      · subst o2; rfl
      · by_cases o3 : o = 53
        · subst o3; rfl
        · by_cases o4 : o = 54
          · subst o4; rfl
          · simp only [wA_3]
            rw [if_neg o4, if_neg o3, if_neg o2, if_neg o4, if_neg o3, if_neg o2, if_neg o4, if_neg o3, if_neg o2]
    rw [fX12_join_2.eq_2]
    refine ei_n (nI_nlt (a := 256) (by omega) (by omega)) (ob_v (rg_C rfl rfl) ?_)
    by_cases e : p = 256
    · refine ei_t (by rw [e]; rfl) (f31 _ ?_)
      rw [e, h256]
      rfl
    · refine ei_n (fun h => e ((nI_eq (b := 256) (by omega) (by omega)).mp h)) (ob_v (rg_C rfl rfl) (ob_v (rg_A rfl (by decide) p (by omega) (by decide)) (f31 _ ?_)))
      rw [wA_n _ _ (by decide), wA_n _ _ (by decide), wA_n _ _ (by decide)]
      exact hf p (by omega)
  · intro m
    dsimp only
    rw [fX12_join_2.eq_2, hy1]
    exact ei_t (by decide) rfl
theorem m_sh106 {k72 k78 : Nat → Int32 → px_W → Option px_W} {L j : Nat} (hL : L ≤ 256) (hj : j + 2 ≤ L) (h2 : 2 ≤ c L) (hp : 0 < c j) : fX12_shorten_106 X k72 k78 (b + 48) (nI L) (nI j) (rg_p lM b w0 (rg_wA y 55 (cA 300 c Z))) = k78 (b + 48) (nI L) (rg_p lM b w0 (rg_wA y 55 (cA 300 (hT L j c) Z))) := by
  unfold fX12_shorten_106
  have e1 : nI L - 1 = nI (L - 1) := pk_sub (b := 1) (by omega)
  rw [e1, nI_1]
  refine ob_v (rg_C rfl rfl) (ob_v (rg_A rfl (by decide) _ (by omega) (by decide)) ?_)
  rw [wA_s, cA_at (by omega), show nI (c L) - 2 = nI (c L - 2) from pk_sub (b := 2) h2]
  refine ob_v (rg_sA _ rfl (by decide) _ _ (by omega) (by decide)) ?_
  rw [wA_wA, wA_s, id, cA_u (by omega)]
  refine ob_v (rg_C rfl rfl) (ob_v (rg_A rfl (by decide) _ (by omega) (by decide)) ?_)
  rw [wA_s, cA_at (by omega), nI_1]
  refine ob_v (rg_sA _ rfl (by decide) _ _ (by omega) (by decide)) ?_
  rw [wA_wA, wA_s, id, cA_u (by omega)]
  refine ob_v (rg_C rfl rfl) (ob_v (rg_A rfl (by decide) _ (by omega) (by decide)) ?_)
  rw [wA_s, cA_at (by omega), show ∀ z, nI z + 2 = nI (z + 2) from fun z => nI_add z 2]
  refine ob_v (rg_sA _ rfl (by decide) _ _ (by omega) (by decide)) ?_
  rw [wA_wA, wA_s, id, cA_u (by omega)]
  refine ob_v (rg_C rfl rfl) (ob_v (rg_A rfl (by decide) _ (by omega) (by decide)) ?_)
  have ej : uN (uN (uN c L (c L - 2)) (L - 1) (uN c L (c L - 2) (L - 1) + 1)) (j + 1) (uN (uN c L (c L - 2)) (L - 1) (uN c L (c L - 2) (L - 1) + 1) (j + 1) + 2) j = c j := by
    rw [uN_n (by omega), uN_n (by omega), uN_n (by omega)]
  rw [wA_s, cA_at (by omega), show nI (uN (uN (uN c L (c L - 2)) (L - 1) (uN c L (c L - 2) (L - 1) + 1)) (j + 1) (uN (uN c L (c L - 2)) (L - 1) (uN c L (c L - 2) (L - 1) + 1) (j + 1) + 2) j) - 1 = nI (uN (uN (uN c L (c L - 2)) (L - 1) (uN c L (c L - 2) (L - 1) + 1)) (j + 1) (uN (uN c L (c L - 2)) (L - 1) (uN c L (c L - 2) (L - 1) + 1) (j + 1) + 2) j - 1) from pk_sub (b := 1) (by rw [ej]; exact hp)]
  refine ob_v (rg_sA _ rfl (by decide) _ _ (by omega) (by decide)) ?_
  rw [wA_wA, wA_s, id, cA_u (by omega)]
  rfl
theorem m_sh91 {k72 k78 : Nat → Int32 → px_W → Option px_W} {L : Nat} (hL : L ≤ 256) (h17 : 17 ≤ L) (h2 : 2 ≤ c L) (hp : 0 < c (hD c (L - 2))) (hc : ∀ l, c l < 1000) : fX12_shorten_91 X k72 k78 FU (b + 48) (nI L) (nI (L - 2)) (rg_p lM b w0 (rg_wA y 55 (cA 300 c Z))) = k78 (b + 48) (nI L) (rg_p lM b w0 (rg_wA y 55 (cA 300 (hT L (hD c (L - 2)) c) Z))) := by
  have hle := hD_le c (L - 2)
  refine Eq.trans ?_ (m_sh106 (X := X) (k72 := k72) (j := hD c (L - 2)) hL (by omega) h2 hp)
  have e := rg_lpF (F := fun u (t : Int32) => fX12_shorten_91 X k72 k78 u (b + 48) (nI L) t (rg_p lM b w0 (rg_wA y 55 (cA 300 c Z)))) (L - 2 - hD c (L - 2)) (fun i => nI (L - 2 - i)) (r := fX12_shorten_106 X k72 k78 (b + 48) (nI L) (nI (hD c (L - 2))) (rg_p lM b w0 (rg_wA y 55 (cA 300 c Z)))) (by omega) ?_ ?_
  · exact e
  · intro m i hi
    rw [fX12_shorten_91.eq_2]
    refine ob_v (rg_C rfl rfl) (ob_v (rg_A rfl (by decide) _ (by omega) (by decide)) ?_)
    rw [wA_s, cA_at (by omega), hD_z (c := c) (j := L - 2) (i := L - 2 - i) (by omega) (by omega)]
    refine ei_t rfl ?_
    rw [nI_m1 (by omega), show L - 2 - i - 1 = L - 2 - (i + 1) by omega]
  · intro m
    rw [fX12_shorten_91.eq_2, show L - 2 - (L - 2 - hD c (L - 2)) = hD c (L - 2) by omega]
    refine ob_v (rg_C rfl rfl) (ob_v (rg_A rfl (by decide) _ (by omega) (by decide)) ?_)
    have := hc (hD c (L - 2))
    rw [wA_s, cA_at (by omega)]
    exact ei_n (nI_ne0 hp (by omega)) rfl
theorem m_sh68 (hk : kI 256 c) (hx : y.2.2.1 55 = cA 300 c Z) : fX12_shorten_68 X (b + 48) (rg_p lM b w0 y) = some (rg_p lM b w0 (rg_wA y 55 (cA 300 (hF (hY c 240)) Z))) := by
  unfold fX12_shorten_68
  have e := rg_lpF (F := fun u (t : Int32 × px_W) => fX12_shorten_72 X u (b + 48) t.1 t.2) 283 (fun n => (nI (299 - n), rg_p lM b w0 (rg_wA y 55 (cA 300 (hY c (n - 43)) Z)))) (r := some (rg_p lM b w0 (rg_wA y 55 (cA 300 (hF (hY c 240)) Z)))) (by omega) ?_ ?_
  · refine Eq.trans ?_ e
    dsimp only
    rw [show hY c (0 - 43) = c from rfl, wA_id hx]
    rfl
  · intro m n hn
    dsimp only
    rw [fX12_shorten_72.eq_2]
    refine ei_n (nI_ge (a := 16) (by omega) (by omega)) ?_
    by_cases early : n < 43
    · rw [show n - 43 = 0 by omega, show n + 1 - 43 = 0 by omega, show FU = 3999999 + 1 from rfl, fX12_shorten_78.eq_2]
      refine ob_v (rg_C rfl rfl) (ob_v (rg_A rfl (by decide) _ (by omega) (by decide)) ?_)
      rw [wA_s, cA_at (by omega), show hY c 0 (299 - n) = 0 from hk.1 _ (by omega)]
      refine ei_t (by decide) ?_
      rw [fX12_shorten_153, nI_m1 (by omega), show 299 - n - 1 = 299 - (n + 1) by omega]
    · obtain ⟨n', rfl⟩ : ∃ n', n = n' + 43 := ⟨n - 43, by omega⟩
      rw [show n' + 43 - 43 = n' by omega, show n' + 43 + 1 - 43 = n' + 1 by omega, show 299 - (n' + 43) = 256 - n' by omega, show 299 - (n' + 43 + 1) = 256 - (n' + 1) by omega]
      have i := hY_k hk (n := n') (by omega)
      obtain ⟨L, hL⟩ : ∃ L, 256 - n' = L + 1 := ⟨255 - n', by omega⟩
      rw [hL] at i ⊢
      have ev := kI_even i
      refine rg_lpF (F := fun u (w : px_W) => fX12_shorten_78 X (fX12_shorten_72 X m) u (b + 48) (nI (L + 1)) w) (hY c n' (L + 1) / 2) (fun t => rg_p lM b w0 (rg_wA y 55 (cA 300 (hW (L + 1) (hY c n') t) Z))) (by have := kI_lt (l := L + 1) i; omega) ?_ ?_
      · intro u t ht
        obtain ⟨w1, w2⟩ := hW_k i (by omega) (t := t) (by omega)
        have lt := kI_lt (l := L + 1) w1
        obtain ⟨L', rfl⟩ : ∃ L', L = L' + 1 := ⟨L - 1, by omega⟩
        have hj := kI_j (L := L') w1 (by omega) (by rw [w2]; omega)
        rw [fX12_shorten_78.eq_2]
        refine ob_v (rg_C rfl rfl) (ob_v (rg_A rfl (by decide) _ (by omega) (by decide)) ?_)
        rw [wA_s, cA_at (by omega)]
        refine ei_n (nI_ge (a := 0) (by rw [w2]; omega) (by omega)) ?_
        rw [show nI (L' + 1 + 1) - 2 = nI (L' + 1 + 1 - 2) from pk_sub (b := 2) (by omega)]
        exact m_sh91 (by omega) (by omega) (by rw [w2]; omega) hj.2 (fun l => kI_lt w1)
      · intro u
        obtain ⟨w1, w2⟩ := hW_k i (by omega) (t := hY c n' (L + 1) / 2) (by omega)
        rw [fX12_shorten_78.eq_2]
        refine ob_v (rg_C rfl rfl) (ob_v (rg_A rfl (by decide) _ (by omega) (by decide)) ?_)
        rw [wA_s, cA_at (by omega), w2, show hY c n' (L + 1) - 2 * (hY c n' (L + 1) / 2) = 0 by omega]
        refine ei_t (by decide) ?_
        rw [fX12_shorten_153, nI_m1 (by omega), show L + 1 - 1 = 256 - (n' + 1) by omega]
        show _ = fX12_shorten_72 X m (b + 48) (nI (256 - (n' + 1))) (rg_p lM b w0 (rg_wA y 55 (cA 300 (hW (256 - n') (hY c n') (hY c n' (256 - n') / 2)) Z)))
        rw [hL]
  · intro m
    dsimp only
    have i := hY_k hk (n := 240) (by omega)
    have hp := kI_hd i
    have lt := kI_lt (l := hD (hY c 240) 16) i
    have hle := hD_le (hY c 240) 16
    rw [show 283 - 43 = 240 from rfl]
    generalize hY c 240 = d at i hp lt hle ⊢
    rw [fX12_shorten_72.eq_2]
    refine ei_t (by decide) ?_
    unfold fX12_shorten_159
    have f177 : fX12_shorten_177 X (b + 48) (nI (hD d 16)) (rg_p lM b w0 (rg_wA y 55 (cA 300 d Z))) = some (rg_p lM b w0 (rg_wA y 55 (cA 300 (hF d) Z))) := by
      unfold fX12_shorten_177
      refine ob_v (rg_C rfl rfl) (ob_v (rg_A rfl (by decide) _ (by omega) (by decide)) ?_)
      rw [wA_s, cA_at (by omega), show nI (d (hD d 16)) - 1 = nI (d (hD d 16) - 1) from pk_sub (b := 1) hp]
      refine ob_v (rg_sA _ rfl (by decide) _ _ (by omega) (by decide)) ?_
      rw [wA_wA, wA_s, id, cA_u (by omega)]
      rfl
    rw [← f177]
    have e := rg_lpF (F := fun u (t : Int32) => fX12_shorten_162 X u (b + 48) t (rg_p lM b w0 (rg_wA y 55 (cA 300 d Z)))) (16 - hD d 16) (fun i => nI (16 - i)) (r := fX12_shorten_177 X (b + 48) (nI (hD d 16)) (rg_p lM b w0 (rg_wA y 55 (cA 300 d Z)))) (by omega) ?_ ?_
    · exact e
    · intro m i hi
      rw [fX12_shorten_162.eq_2]
      refine ob_v (rg_C rfl rfl) (ob_v (rg_A rfl (by decide) _ (by omega) (by decide)) ?_)
      rw [wA_s, cA_at (by omega), hD_z (c := d) (j := 16) (i := 16 - i) (by omega) (by omega)]
      refine ei_t rfl ?_
      rw [nI_m1 (by omega), show 16 - i - 1 = 16 - (i + 1) by omega]
    · intro m
      rw [fX12_shorten_162.eq_2, show 16 - (16 - hD d 16) = hD d 16 by omega]
      refine ob_v (rg_C rfl rfl) (ob_v (rg_A rfl (by decide) _ (by omega) (by decide)) ?_)
      rw [wA_s, cA_at (by omega)]
      exact ei_n (nI_ne0 hp (by omega)) rfl
end
