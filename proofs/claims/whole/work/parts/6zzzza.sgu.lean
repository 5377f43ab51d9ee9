/-! all word tables of a segment, by the class -/
section
variable {X : px_X} {b B : Nat} {w0 w1 : px_W} {x x' : rg_S} {c : sgC} {p t : Nat} {f : sgF} {q : Nat → Nat}
theorem wX.tt {t' m : Nat} {n : Nat → Nat} {S : List Nat} (h : wX x t' n S m) (F : FXt t x x') (ht : t' < 8) (ne : t' ≠ t) : wX x' t' n S m := by
  unfold wX
  rw [F.1 _ _ (by omega) (by omega), F.1 _ _ (by omega) (by omega), F.2.2.1 (55 + 5 * t' + 1) (by omega) (by omega), F.2.2.1 (55 + 5 * t' + 2) (by omega) (by omega), F.2.2.1 (55 + 5 * t' + 3) (by omega) (by omega), F.2.2.1 (55 + 5 * t' + 4) (by omega) (by omega)]
  exact h
theorem wsX.tt {T : sgW} {W : (Nat → Nat) × List Nat} (h : wsX x T) (F : FXt t x x') (hW : tbOk W.1 W.2 W.2.length ∧ 0 < lgst W.1 16 ∧ wX x' t W.1 W.2 W.2.length) : wsX x' (fun j => if j = t then some W else T j) := by
  intro t' ht'
  by_cases e : t' = t
  · rw [e]
    exact Or.inr ⟨W, if_pos rfl, hW⟩
  · rw [show (fun j => if j = t then some W else T j) t' = T t' from if_neg e]
    rcases h t' ht' with ⟨h1, h2⟩ | ⟨W', h1, h2, h3, h4⟩
    · exact Or.inl ⟨h1, by rw [F.1 _ _ (by omega) (by omega)]; exact h2⟩
    · exact Or.inr ⟨W', h1, h2, h3, h4.tt F ht' e⟩
theorem wsX.fp {T : sgW} (h : wsX x T) (F : FXp x x') : wsX x' T := by
  intro t' ht'
  rcases h t' ht' with ⟨h1, h2⟩ | ⟨W', h1, h2, h3, h4⟩
  · exact Or.inl ⟨h1, by rw [F.1 _ _ (by omega)]; exact h2⟩
  · refine Or.inr ⟨W', h1, h2, h3, ?_⟩
    unfold wX
    rw [F.1 _ _ (by omega), F.1 _ _ (by omega), F.2]
    exact h4
/-- one table -/
theorem x_tab {most : Nat} {T : sgW} (ht : t < 8) (hmo : most < 256) (p1 : 1 ≤ p) (h : kX x c p) (hT : wsX x T) : ∃ x1, FXt t x x1 ∧ ((∃ f, sgB (sgCk c 16 1 p 0 0 (fun _ => 0)) (fun a => sgB (sgSk c most a.2.1 a.1 []) fun e => (.inr (e.1, (a.2.2, e.2)) : sgF ⊕ (Nat × (Nat → Nat) × List Nat))) = .inl f ∧ ftX x1 f ∧ ((fX8_readCounts X (rg_p lX B w0 x) (B + 40) (B + (55 + 5 * t)) = some (0, rg_p lX B w0 x1)) ∨ ∃ x2, fX8_readCounts X (rg_p lX B w0 x) (B + 40) (B + (55 + 5 * t)) = some (1, rg_p lX B w0 x2) ∧ fX8_readSymbols X (rg_p lX B w0 x2) (B + 40) (B + (55 + 5 * t)) (nI most) = some (0, rg_p lX B w0 x1))) ∨ ∃ p' W, sgB (sgCk c 16 1 p 0 0 (fun _ => 0)) (fun a => sgB (sgSk c most a.2.1 a.1 []) fun e => (.inr (e.1, (a.2.2, e.2)) : sgF ⊕ (Nat × (Nat → Nat) × List Nat))) = .inr (p', W) ∧ p + 16 ≤ p' ∧ kX x1 c p' ∧ wsX x1 (fun j => if j = t then some W else T j) ∧ ∃ x2, fX8_readCounts X (rg_p lX B w0 x) (B + 40) (B + (55 + 5 * t)) = some (1, rg_p lX B w0 x2) ∧ fX8_readSymbols X (rg_p lX B w0 x2) (B + 40) (B + (55 + 5 * t)) (nI most) = some (1, rg_p lX B w0 x1)) := by
  have wo := wd_o ht
  have a1 := wd_a (t := t) (j := 1) ht (by decide) (by decide)
  have a3 := wd_a (t := t) (j := 3) ht (by decide) (by decide)
  rw [if_pos (by decide)] at a1 a3
  obtain ⟨v, x1, e1, F1, o1⟩ := x_ck (X := X) (B := B) (w0 := w0) (c := c) ht 16 1 p 0 0 FU (fun _ => 0) x (by omega) (by omega) (by unfold FU; omega) p1 rfl rfl (fun k hk => by rw [show k = 0 by omega]; decide) (fun _ => Nat.zero_le _) (by omega) (fun j a b => absurd b (by omega)) h
  have e1' : fX8_readCounts X (rg_p lX B w0 x) (B + 40) (B + (55 + 5 * t)) = some (v, rg_p lX B w0 x1) := by
    unfold fX8_readCounts
    exact e1
  rcases o1 with ⟨f, r1, r2, r3⟩ | ⟨q1, s', n', r1, r2, r3, r4⟩
  · rw [r1]
    exact ⟨x1, F1, Or.inl ⟨f, rfl, r3, Or.inl (by rw [← r2]; exact e1')⟩⟩
  · obtain ⟨⟨d1, d2, d3⟩, d4, d5, d6, d7⟩ := sgCk_ok (fun i hi => (h.2.2.2.2.2.2 i hi).2) 16 1 p 0 0 (fun _ => 0) (by omega) (by omega) rfl rfl (fun k hk => by rw [show k = 0 by omega]; decide) (fun _ => Nat.zero_le _) (by omega) r1
    rw [r2] at e1'
    rw [r1]
    generalize hx2 : (rg_wA x1 54 fun i => if i < 256 then 0 else x1.2.2.1 54 i) = x2
    have F2 : FXys t x1 x2 := by
      rw [← hx2]
      exact FXys.wA (Or.inl rfl)
    obtain ⟨v3, x3, e3, F3, o3⟩ := x_sk (X := X) (B := B) (w0 := w0) (c := c) (m := s') (most := most) ht d3 hmo s' q1 FU [] x2 (by rw [List.length_nil]; omega) (by unfold FU; omega) (by rw [← hx2]; exact r3.w (by decide)) (by
      intro s hs
      rw [← hx2, wA_s, if_pos hs, if_neg List.not_mem_nil]) (fun j hj => absurd hj (by rw [List.length_nil]; omega))
    have e3' : fX8_readSymbols X (rg_p lX B w0 x1) (B + 40) (B + (55 + 5 * t)) (nI most) = some (v3, rg_p lX B w0 x3) := by
      unfold fX8_readSymbols
      refine ob_v (rg_C wo rfl) (ob_v (rg_A a3 (by decide) 16 (by decide) (by decide)) (ob_v (rg_C wo rfl) (ob_v (rg_A a1 (by decide) 16 (by decide) (by decide)) (ob_v (rg_C rfl rfl) (ob_v (rg_fill rfl (by decide) 0) ?_)))))
      rw [hx2, (r4.2.2 16 (by omega) (by omega)).1, (r4.2.2 16 (by omega) (by omega)).2.2, nI_add, show dn n' (16 - 1) + n' 16 = s' from d1]
      exact e3
    have F23 := F1.trans (F2.t.trans F3.t)
    show ∃ x1, _ ∧ ((∃ f, sgB (sgSk c most s' q1 []) (fun e => (.inr (e.1, (n', e.2)) : sgF ⊕ (Nat × (Nat → Nat) × List Nat))) = .inl f ∧ _) ∨ ∃ p' W, sgB (sgSk c most s' q1 []) (fun e => (.inr (e.1, (n', e.2)) : sgF ⊕ (Nat × (Nat → Nat) × List Nat))) = .inr (p', W) ∧ _)
    rcases o3 with ⟨f, s1, s2, s3⟩ | ⟨p2, S', s1, s2, s3, s4⟩
    · rw [s1]
      exact ⟨x3, F23, Or.inl ⟨f, rfl, s3, Or.inr ⟨x1, e1', by rw [← s2]; exact e3'⟩⟩⟩
    · obtain ⟨t1, t2, t3, t4⟩ := sgSk_ok hmo s' q1 [] (fun i hi => absurd hi (by rw [List.length_nil]; omega)) (fun i j hi => absurd hi (by rw [List.length_nil]; omega)) s1
      rw [List.length_nil, Nat.zero_add] at t1
      rw [s1]
      refine ⟨x3, F23, Or.inr ⟨p2, (n', S'), rfl, by omega, s3, hT.tt F23 ⟨⟨by show S'.length ≤ 256; omega, by show dn n' 16 = S'.length; omega, fun l => by show n' l ≤ 257; have := d5 l; omega, d4, t2, t3⟩, ?_, ?_⟩, x1, e1', by rw [← s2]; exact e3'⟩⟩
      · rcases Nat.eq_zero_or_pos (lgst n' 16) with z | z
        · have := lgst_0 16 z
          omega
        · exact z
      · have F3' := F2.trans F3
        refine ⟨by rw [F3'.1 _ _ (by omega)]; exact r4.1, fun hl => by rw [F3'.1 _ _ (by omega)]; exact r4.2.1 hl, ?_, fun i hi => s4 i (by have : i < S'.length := hi; omega)⟩
        rw [F3'.2.2.1 (55 + 5 * t + 1) (by omega) (by omega), F3'.2.2.1 (55 + 5 * t + 2) (by omega) (by omega), F3'.2.2.1 (55 + 5 * t + 3) (by omega) (by omega)]
        exact r4.2.2
theorem x_ws : ∀ (r p M told : Nat) (T : sgW) (x : rg_S), c.2.1 < p + r → told + 2 ≤ p → (told = 0 ∨ p < c.2.2.1) → r + 1 < M → kX x c p → wsX x T → ∃ v x', fX8_readWordTables_4 X M (B + 40) 1 (nI told) (rg_p lX B w0 x) = some (v, rg_p lX B w0 x') ∧ FXws x x' ∧ ((∃ f, sgWs c r p T = .inl f ∧ v = 0 ∧ ftX x' f) ∨ ∃ p' T', sgWs c r p T = .inr (p', T') ∧ v = 1 ∧ kX x' c p' ∧ wsX x' T') := by
  intro r
  induction r with
  | zero =>
    intro p M told T x hr _ _ _ h _
    have := h.2.2.2.2.2.1.2.2.2
    omega
  | succ r ih =>
    intro p M told T x hr ht2 hen hM h hT
    have hL := h.2.2.2.2.2.1
    obtain ⟨M, rfl⟩ : ∃ M', M = M' + 1 := ⟨M - 1, by omega⟩
    obtain ⟨M0, hM0⟩ : ∃ M', M = M' + 1 := ⟨M - 1, by omega⟩
    obtain ⟨v, x1, e1, F1, o1⟩ := x_in (X := X) (B := B) (w0 := w0) (lo := 0) (hi := 19) h (by omega) (by omega)
    have st : ∀ z, fX8_readWordTables_30 X (fX8_readWordTables_4 X M) (B + 40) (nI told) (rg_p lX B w0 x) = z → fX8_readWordTables_4 X (M + 1) (B + 40) 1 (nI told) (rg_p lX B w0 x) = z := by
      intro z hz
      rw [fX8_readWordTables_4.eq_2]
      refine ei_n (by decide) (ei_n (nI_ge (b := 16384) (by omega) (by omega)) ?_)
      by_cases t0 : told = 0
      · exact ei_t (by rw [t0]; rfl) hz
      · refine ei_n (nI_ne0 (by omega) (by omega)) (ob_v (rg_I rfl rfl) (ob_v (rg_I rfl rfl) ?_))
        rw [h.1, h.2.2.1]
        exact ei_n (nI_ge (by omega) (by omega)) hz
    have fin : ∀ (z : rg_S), fX8_readWordTables_116 X (fX8_readWordTables_4 X M) (B + 40) (nI told) (rg_p lX B w0 z) = some (0, rg_p lX B w0 z) := by
      intro z
      unfold fX8_readWordTables_116 fX8_readWordTables_117
      rw [hM0, fX8_readWordTables_4.eq_2]
      exact ei_t rfl rfl
    unfold sgWs
    rcases o1 with ⟨f, r1, r2, r3⟩ | ⟨u, p1, r1, r2, r3, r4⟩
    · rw [r1]
      refine ⟨0, x1, st _ ?_, F1.w, Or.inl ⟨f, rfl, rfl, r3⟩⟩
      unfold fX8_readWordTables_30
      exact ob_v (rg_O rfl) (ob_v e1 (ei_t r2 rfl))
    · obtain ⟨g1, g2, g3, g4, g5, g6⟩ := sgI_p r1
      have nv : ¬ v = -1 := by rw [r3]; exact ne1 (by omega)
      rw [r1]
      show ∃ v x', _ ∧ _ ∧ ((∃ f, (if 3 < u ∧ u < 16 then .inl (6, p) else sgB (sgCk c 16 1 p1 0 0 (fun _ => 0)) fun a => sgB (sgSk c (if u < 4 then 11 else 255) a.2.1 a.1 []) fun e => if e.1 < c.2.2.1 then sgWs c r e.1 (fun t => if t = (if u < 4 then u else u - 12) then some (a.2.2, e.2) else T t) else .inr (e.1, fun t => if t = (if u < 4 then u else u - 12) then some (a.2.2, e.2) else T t)) = .inl f ∧ _) ∨ ∃ p' T', (if 3 < u ∧ u < 16 then .inl (6, p) else sgB (sgCk c 16 1 p1 0 0 (fun _ => 0)) fun a => sgB (sgSk c (if u < 4 then 11 else 255) a.2.1 a.1 []) fun e => if e.1 < c.2.2.1 then sgWs c r e.1 (fun t => if t = (if u < 4 then u else u - 12) then some (a.2.2, e.2) else T t) else .inr (e.1, fun t => if t = (if u < 4 then u else u - 12) then some (a.2.2, e.2) else T t)) = .inr (p', T') ∧ _)
      by_cases d : 3 < u ∧ u < 16
      · rw [if_pos d]
        obtain ⟨x2, e2, F2, f2⟩ := x_ref (X := X) (B := B) (w0 := w0) r4 (by omega)
        rw [show (6, p1 - 1) = (6, p) by rw [g1]; rfl] at f2
        refine ⟨0, x2, st _ ?_, (F1.trans F2).w, Or.inl ⟨_, rfl, rfl, f2⟩⟩
        unfold fX8_readWordTables_30
        refine ob_v (rg_O rfl) (ob_v e1 (ei_n nv (ei_n (by show ¬ v ≤ 3; rw [r3]; exact nI_ge (a := 3) (b := u) d.1 (by omega) |> fun e => by exact e) (ei_n (by show ¬ (16 : Int32) ≤ v; rw [r3]; exact nI_ge (b := 16) d.2 (by omega)) ?_))))
        unfold fX8_readWordTables_56
        exact ob_v (rg_O rfl) (ob_v e2 rfl)
      · rw [if_neg d]
        obtain ⟨x2, F2, o2⟩ := x_tab (X := X) (B := B) (w0 := w0) (c := c) (p := p1) (most := if u < 4 then 11 else 255) (T := T) (t := if u < 4 then u else u - 12) (by split <;> omega) (by split <;> omega) (by omega) r4 (hT.fp F1)
        generalize hmo : (if u < 4 then 11 else 255) = most at *
        generalize htt : (if u < 4 then u else u - 12) = t at *
        have t8 : t < 8 := by
          rw [← htt]
          split <;> omega
        have st2 : ∀ z, (fX8_readCounts X (rg_p lX B w0 x1) (B + 40) (B + (55 + 5 * t))).bind (fun q20 => if q20.1 = 0 then fX8_readWordTables_116 X (fX8_readWordTables_4 X M) (B + 40) (nI told) q20.2 else fX8_readWordTables_106 X (fX8_readWordTables_4 X M) (B + 40) (nI told) (nI most) (B + (55 + 5 * t)) (B + 40) q20.2) = z → fX8_readWordTables_4 X (M + 1) (B + 40) 1 (nI told) (rg_p lX B w0 x) = z := by
          intro z hz
          refine st _ ?_
          unfold fX8_readWordTables_30
          have e61 : fX8_readWordTables_61 X (fX8_readWordTables_4 X M) (B + 40) (nI told) (nI u) (rg_p lX B w0 x1) = z := by
            unfold fX8_readWordTables_61 fX8_readWordTables_78
            refine ob_v (rg_C rfl rfl) ?_
            have aq : aQ (rg_p lX B w0 x1) 7 (B + 49) (nI t) = some (B + (55 + 5 * t)) := rg_Q rfl (by decide) _ t8 (by decide) (by
              rcases (show t = 0 ∨ t = 1 ∨ t = 2 ∨ t = 3 ∨ t = 4 ∨ t = 5 ∨ t = 6 ∨ t = 7 by omega) with e | e | e | e | e | e | e | e <;> rw [e] <;> rfl)
            by_cases u4 : u < 4
            · rw [if_pos u4] at htt hmo
              refine ei_n (nI_ge (b := 4) u4 (by omega)) (ob_v (by rw [htt]; exact aq) (ob_v (rg_O rfl) ?_))
              rw [← hz]
              congr 1
              funext q20
              rw [if_neg (show ¬ (4 : Int32) ≤ nI u from nI_ge (b := 4) u4 (by omega)), ← hmo]
              rfl
            · rw [if_neg u4] at htt hmo
              refine ei_t (nI_le (a := 4) (by omega) (by omega)) (ob_v (by rw [show nI u - 12 = nI (u - 12) from pk_sub (b := 12) (by omega), htt]; exact aq) (ob_v (rg_O rfl) ?_))
              rw [← hz]
              congr 1
              funext q20
              rw [if_pos (show (4 : Int32) ≤ nI u from nI_le (a := 4) (by omega) (by omega)), ← hmo]
              rfl
          refine ob_v (rg_O rfl) (ob_v e1 (ei_n nv ?_))
          dsimp only
          rw [r3]
          exact ei_c (fun _ => e61) (fun n3 => ei_t (nI_le (a := 16) (by
            rcases Nat.lt_or_ge u 4 with z | z
            · exact absurd (nI_le (a := u) (b := 3) (by omega) (by omega)) n3
            · omega) (by omega)) e61)
        have F12 : FXws x x2 := F1.w.trans (F2.w t8)
        -- the same in one piece
        have eB : ∀ {β : Type} (k : Nat × (Nat → Nat) × List Nat → sgF ⊕ β), sgB (sgB (sgCk c 16 1 p1 0 0 (fun _ => 0)) (fun a => sgB (sgSk c most a.2.1 a.1 []) fun e => (.inr (e.1, (a.2.2, e.2)) : sgF ⊕ (Nat × (Nat → Nat) × List Nat)))) k = sgB (sgCk c 16 1 p1 0 0 (fun _ => 0)) fun a => sgB (sgSk c most a.2.1 a.1 []) fun e => k (e.1, (a.2.2, e.2)) := by
          intro β k
          cases sgCk c 16 1 p1 0 0 (fun _ => 0) with
          | inl f => rfl
          | inr a =>
            show sgB (sgB (sgSk c most a.2.1 a.1 []) _) k = sgB (sgSk c most a.2.1 a.1 []) _
            cases sgSk c most a.2.1 a.1 [] with
            | inl f => rfl
            | inr e => rfl
        rw [← eB fun z => if z.1 < c.2.2.1 then sgWs c r z.1 (fun j => if j = t then some z.2 else T j) else .inr (z.1, fun j => if j = t then some z.2 else T j)]
        rcases o2 with ⟨f, s1, s2, s3⟩ | ⟨p2, W, s1, s2, s3, s4, x3, s5, s6⟩
        · rw [s1]
          refine ⟨0, x2, st2 _ ?_, F12, Or.inl ⟨f, rfl, rfl, s2⟩⟩
          rcases s3 with s3 | ⟨x3, s3, s4⟩
          · exact ob_v s3 (ei_t rfl (fin x2))
          · refine ob_v s3 (ei_n (by show ¬ (1 : Int32) = 0; decide) ?_)
            unfold fX8_readWordTables_106
            exact ob_v (rg_O rfl) (ob_v s4 (ei_t rfl (fin x2)))
        · rw [s1]
          have st3 : ∀ z, fX8_readWordTables_4 X M (B + 40) 1 (nI (told + 1)) (rg_p lX B w0 x2) = z → fX8_readWordTables_4 X (M + 1) (B + 40) 1 (nI told) (rg_p lX B w0 x) = z := by
            intro z hz
            refine st2 _ (ob_v s5 (ei_n (by show ¬ (1 : Int32) = 0; decide) ?_))
            unfold fX8_readWordTables_106
            refine ob_v (rg_O rfl) (ob_v s6 (ei_n (by show ¬ (1 : Int32) = 0; decide) ?_))
            unfold fX8_readWordTables_117
            rw [nI_1]
            exact hz
          show ∃ v x', _ ∧ _ ∧ ((∃ f, (if p2 < c.2.2.1 then sgWs c r p2 (fun j => if j = t then some W else T j) else .inr (p2, fun j => if j = t then some W else T j)) = .inl f ∧ _) ∨ ∃ p' T', (if p2 < c.2.2.1 then sgWs c r p2 (fun j => if j = t then some W else T j) else .inr (p2, fun j => if j = t then some W else T j)) = .inr (p', T') ∧ _)
          by_cases d2 : p2 < c.2.2.1
          · rw [if_pos d2]
            obtain ⟨v3, x3, e3, F3, o3⟩ := ih p2 M (told + 1) _ x2 (by omega) (by omega) (Or.inr d2) (by omega) s3 s4
            exact ⟨v3, x3, st3 _ e3, F12.trans F3, o3⟩
          · rw [if_neg d2]
            refine ⟨1, x2, st3 _ ?_, F12, Or.inr ⟨_, _, rfl, rfl, s3, s4⟩⟩
            rw [hM0, fX8_readWordTables_4.eq_2]
            have hb := s3.2.2.2.2.2.1
            refine ei_n (by decide) (ei_c (fun _ => rfl) (fun _ => ei_n (nI_ne0 (by omega) (by omega)) (ob_v (rg_I rfl rfl) (ob_v (rg_I rfl rfl) ?_))))
            rw [s3.1, s3.2.2.1]
            exact ei_t (nI_le (by omega) (by omega)) rfl
end
