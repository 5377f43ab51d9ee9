/-! what members and bands are; tables and first scans, by the class -/
def mmOk (n : Nat) (cs mb : sg4) (i : Nat) : Prop := (∀ k, k < i → (mb k).1 < n ∧ (mb k).2.1 < 4 ∧ (mb k).2.2.1 < 4 ∧ (mb k).2.2.2 < 16384) ∧ (∀ j k, j < k → k < i → (mb j).1 < (mb k).1) ∧ sumN (fun k => (cs (mb k).1).2.1 * (cs (mb k).1).2.2.1) i ≤ 10
theorem sumN_cg {f g : Nat → Nat} : ∀ n, (∀ k, k < n → f k = g k) → sumN f n = sumN g n
  | 0, _ => rfl
  | n + 1, h => by
    rw [sumN.eq_2, sumN.eq_2, sumN_cg n (fun k hk => h k (by omega)), h n (by omega)]
section
variable {c : sgC} {cs : sg4} {n : Nat}
theorem sgMb_ok {p' : Nat} {mb' : sg4} (hL : c.2.1 ≤ 16384) : ∀ (r i pv sm p : Nat) (mb : sg4), mmOk n cs mb i → (∀ k, k < i → (mb k).1 < pv) → sm = sumN (fun k => (cs (mb k).1).2.1 * (cs (mb k).1).2.2.1) i → sgMb c cs n r i pv sm p mb = .inr (p', mb') → mmOk n cs mb' (i + r) ∧ p + 2 * r = p' := by
  intro r
  induction r with
  | zero =>
    intro i pv sm p mb h _ _ e
    have e1 := congrArg Prod.fst (Sum.inr.inj e)
    have e2 := congrArg Prod.snd (Sum.inr.inj e)
    dsimp only at e1 e2
    subst e1 e2
    exact ⟨h, rfl⟩
  | succ r ih =>
    intro i pv sm p mb h hpv hsm e
    unfold sgMb at e
    cases e1 : sgN c p with
    | inl q => rw [e1] at e; cases e
    | inr a =>
      obtain ⟨u, p1⟩ := a
      rw [e1] at e
      have g1 := sgN_p e1
      have Xle := sgX_le (cs := cs) (v := u) n
      have e : (if sgX cs u n ≤ pv then .inl (7, p) else if 10 < sm + (cs (sgX cs u n - 1)).2.1 * (cs (sgX cs u n - 1)).2.2.1 then .inl (6, p) else sgB (sgI c 0 51 p1) fun t => if 3 < t.1 % 16 then .inl (6, p1) else sgMb c cs n r (i + 1) (sgX cs u n) (sm + (cs (sgX cs u n - 1)).2.1 * (cs (sgX cs u n - 1)).2.2.1) t.2 (uG mb i (sgX cs u n - 1, t.1 / 16, t.1 % 16, p))) = .inr (p', mb') := e
      generalize sgX cs u n = XX at *
      split at e
      · cases e
      · rename_i d1
        split at e
        · cases e
        · rename_i d2
          cases e2 : sgI c 0 51 p1 with
          | inl q => rw [e2] at e; cases e
          | inr a2 =>
            obtain ⟨t, p2⟩ := a2
            rw [e2] at e
            have g2 := sgI_p e2
            have e : (if 3 < t % 16 then .inl (6, p1) else sgMb c cs n r (i + 1) XX (sm + (cs (XX - 1)).2.1 * (cs (XX - 1)).2.2.1) p2 (uG mb i (XX - 1, t / 16, t % 16, p))) = .inr (p', mb') := e
            split at e
            · cases e
            · rename_i d3
              have cg : ∀ k, k < i → uG mb i (XX - 1, t / 16, t % 16, p) k = mb k := fun k hk => uG_n _ _ (by omega)
              have ss : sumN (fun k => (cs (uG mb i (XX - 1, t / 16, t % 16, p) k).1).2.1 * (cs (uG mb i (XX - 1, t / 16, t % 16, p) k).1).2.2.1) (i + 1) = sm + (cs (XX - 1)).2.1 * (cs (XX - 1)).2.2.1 := by
                rw [sumN.eq_2, uG_s, hsm]
                congr 1
                exact sumN_cg i (fun k hk => by rw [cg k hk])
              obtain ⟨i1, i2⟩ := ih (i + 1) XX _ p2 (uG mb i (XX - 1, t / 16, t % 16, p)) (by
                refine ⟨fun k hk => ?_, fun j k hj hk => ?_, by omega⟩
                · by_cases z : k = i
                  · rw [z, uG_s]
                    exact ⟨by show XX - 1 < n; omega, by show t / 16 < 4; omega, by show t % 16 < 4; omega, by show p < 16384; omega⟩
                  · rw [uG_n _ _ z]
                    exact h.1 k (by omega)
                · rw [cg j (by omega)]
                  by_cases z : k = i
                  · rw [z, uG_s]
                    have := hpv j (by omega)
                    show (mb j).1 < XX - 1
                    omega
                  · rw [uG_n _ _ z]
                    exact h.2.1 j k hj (by omega)) (by
                intro k hk
                by_cases z : k = i
                · rw [z, uG_s]
                  show XX - 1 < XX
                  omega
                · rw [uG_n _ _ z]
                  have := hpv k (by omega)
                  omega) ss.symm e
              exact ⟨by rw [show i + (r + 1) = i + 1 + r by omega]; exact i1, by omega⟩
theorem sgBn_ok {kd sm p fi la bf bb p' : Nat} (hkd : kd = 192 ∨ kd = 194) (e : sgBn c kd sm p = .inr (fi, la, bf, bb, p')) : fi ≤ la ∧ la ≤ 63 ∧ bb ≤ 13 ∧ (bf = 0 ∨ bf = bb + 1) ∧ (fi = 0 → 0 < la → bf = 0) ∧ (0 < fi → sm = 1) ∧ (kd = 192 → fi = 0 ∧ la = 63 ∧ bf = 0 ∧ bb = 0) ∧ (kd = 194 → fi = 0 → la = 0) ∧ p' = p + 3 := by
  unfold sgBn at e
  cases e1 : sgI c 0 (if kd = 194 ∧ sm = 1 then 63 else 0) p with
  | inl q => rw [e1] at e; cases e
  | inr a =>
    obtain ⟨u, p1⟩ := a
    rw [e1] at e
    have g1 := sgI_p e1
    have e : (sgB (sgI c (if kd = 194 then u else 63) (if kd = 194 ∧ u = 0 then 0 else 63) p1) fun l => sgB (sgI c 0 (if kd = 194 then 255 else 0) l.2) fun b => if 13 < b.1 % 16 ∨ b.1 / 16 ≠ 0 ∧ b.1 / 16 ≠ b.1 % 16 + 1 then .inl (6, l.2) else .inr (u, l.1, b.1 / 16, b.1 % 16, b.2)) = .inr (fi, la, bf, bb, p') := e
    cases e2 : sgI c (if kd = 194 then u else 63) (if kd = 194 ∧ u = 0 then 0 else 63) p1 with
    | inl q => rw [e2] at e; cases e
    | inr a2 =>
      obtain ⟨l, p2⟩ := a2
      rw [e2] at e
      have g2 := sgI_p e2
      have e : (sgB (sgI c 0 (if kd = 194 then 255 else 0) p2) fun b => if 13 < b.1 % 16 ∨ b.1 / 16 ≠ 0 ∧ b.1 / 16 ≠ b.1 % 16 + 1 then .inl (6, p2) else .inr (u, l, b.1 / 16, b.1 % 16, b.2)) = .inr (fi, la, bf, bb, p') := e
      cases e3 : sgI c 0 (if kd = 194 then 255 else 0) p2 with
      | inl q => rw [e3] at e; cases e
      | inr a3 =>
        obtain ⟨w, p3⟩ := a3
        rw [e3] at e
        have g3 := sgI_p e3
        have e : (if 13 < w % 16 ∨ w / 16 ≠ 0 ∧ w / 16 ≠ w % 16 + 1 then (.inl (6, p2) : sgF ⊕ (Nat × Nat × Nat × Nat × Nat)) else .inr (u, l, w / 16, w % 16, p3)) = .inr (fi, la, bf, bb, p') := e
        split at e
        · cases e
        · rename_i d
          have E := Sum.inr.inj e
          have E1 := congrArg (fun z => z.1) E
          have E2 := congrArg (fun z => z.2.1) E
          have E3 := congrArg (fun z => z.2.2.1) E
          have E4 := congrArg (fun z => z.2.2.2.1) E
          have E5 := congrArg (fun z => z.2.2.2.2) E
          dsimp only at E1 E2 E3 E4 E5
          subst E1 E2 E3 E4 E5
          obtain ⟨a1, a2, a3, a4, a5, a6⟩ := g1
          obtain ⟨b1, b2, b3, b4, b5, b6⟩ := g2
          obtain ⟨c1, c2, c3, c4, c5, c6⟩ := g3
          clear e e1 e2 e3 E a4 b4 c4
          rcases hkd with k | k
          · rw [if_neg (by omega)] at a6 b5 c6
            rw [if_neg (by omega)] at b6
            refine ⟨by omega, by omega, by omega, by omega, by omega, by omega, fun _ => by omega, fun z => by omega, by omega⟩
          · rw [if_pos k] at b5 c6
            by_cases u0 : u = 0
            · rw [if_pos ⟨k, u0⟩] at b6
              refine ⟨by omega, by omega, by omega, by omega, by omega, by omega, fun z => by omega, fun _ _ => by omega, by omega⟩
            · rw [if_neg (fun z => u0 z.2)] at b6
              by_cases s1 : sm = 1
              · rw [if_pos ⟨k, s1⟩] at a6
                refine ⟨by omega, by omega, by omega, by omega, by omega, by omega, fun z => by omega, fun _ z => by omega, by omega⟩
              · rw [if_neg (fun z => s1 z.2)] at a6
                omega
end
section
variable {X : px_X} {b B : Nat} {w0 w1 : px_W} {x x' : rg_S} {c : sgC} {p P n nn : Nat} {cs mb : sg4} {lt q : Nat → Nat} {T : sgW}
theorem wsX.z (h : wsX x T) {t : Nat} (ht : t < 8) : x.1 (55 + 5 * t) 4 = 0 ↔ (T t).isNone = true := by
  rcases h t ht with ⟨h1, h2⟩ | ⟨W, h1, h2, h3, h4⟩
  · rw [h1]
    exact ⟨fun _ => rfl, fun _ => h2⟩
  · rw [h1, h4.1]
    have := lgst_le (c := W.1) 16
    exact ⟨fun e => absurd e (nI_ne0 h3 (by omega)), fun e => absurd e (by show ¬ false = true; decide)⟩
theorem x_wtb (t : Nat) (ht : t < 8) : aQ (rg_p lX B w0 x) 7 (B + 49) (nI t) = some (B + (55 + 5 * t)) := rg_Q rfl (by decide) _ ht (by decide) (by
  rcases (show t = 0 ∨ t = 1 ∨ t = 2 ∨ t = 3 ∨ t = 4 ∨ t = 5 ∨ t = 6 ∨ t = 7 by omega) with e | e | e | e | e | e | e | e <;> rw [e] <;> rfl)
theorem x_tb {fi la bf : Nat} (nn4 : nn ≤ 4) (n4 : n ≤ 4) (fl : fi ≤ 63) (l6 : la ≤ 63) (hb : bf ≤ 16) (h0 : x.1 41 0 = nI nn) (h1 : x.1 41 1 = nI fi) (h2 : x.1 41 2 = nI la) (h3 : x.1 41 3 = nI bf) (hm : mmX x nn mb) (hmo : mmOk n cs mb nn) (hc : csX x P n cs) (ok : csOk n cs) (hq : qX x q) (hq2 : ∀ i, q i ≤ 255) (hT : wsX x T) : ∀ (r i M : Nat), i + r = nn → r < M → (∃ f x', sgTb fi la bf q T cs mb r i = .inl f ∧ FXp x x' ∧ ftX x' f ∧ fX8_readScan_71 X M (B + 40) (nI i) (rg_p lX B w0 x) = some (0, rg_p lX B w0 x')) ∨ (sgTb fi la bf q T cs mb r i = .inr () ∧ fX8_readScan_71 X M (B + 40) (nI i) (rg_p lX B w0 x) = fX8_readScan_98 X (B + 40) (rg_p lX B w0 x)) := by
  intro r
  induction r with
  | zero =>
    intro i M hi hM
    obtain ⟨M, rfl⟩ : ∃ M', M = M' + 1 := ⟨M - 1, by omega⟩
    refine Or.inr ⟨rfl, ?_⟩
    rw [fX8_readScan_71.eq_2]
    refine ob_v (rg_C rfl rfl) (ob_v (rg_I rfl rfl) ?_)
    rw [h0]
    exact ei_t (nI_le (by omega) (by omega)) rfl
  | succ r ih =>
    intro i M hi hM
    obtain ⟨M, rfl⟩ : ∃ M', M = M' + 1 := ⟨M - 1, by omega⟩
    have mi := hm i (by omega)
    have mo := hmo.1 i (by omega)
    have okc := ok _ mo.1
    have cc := hc _ mo.1
    have start : ∀ z, (fX8_hasItsTables X (rg_p lX B w0 x) (B + 40) (nI i)).bind (fun q63 => if q63.1 = 0 then some (0, q63.2) else fX8_readScan_71 X M (B + 40) (nI (i + 1)) q63.2) = z → fX8_readScan_71 X (M + 1) (B + 40) (nI i) (rg_p lX B w0 x) = z := by
      intro z hz
      rw [fX8_readScan_71.eq_2]
      refine ob_v (rg_C rfl rfl) (ob_v (rg_I rfl rfl) ?_)
      rw [h0]
      refine ei_n (nI_ge (by omega) (by omega)) (ob_v (rg_O rfl) ?_)
      rw [nI_1]
      exact hz
    have dc := hT.z (t := (mb i).2.1) (by omega)
    have ac := hT.z (t := 4 + (mb i).2.2.1) (by omega)
    have hq0 := hq (64 * (cs (mb i).1).2.2.2) (by omega)
    have hq3 := hq2 (64 * (cs (mb i).1).2.2.2)
    have e112 : ∀ s0 : Int32, (s0 = 0 ↔ la = 0) → fX8_hasItsTables_112 X (B + 40) (nI i) (nI (mb i).2.2.2) s0 (rg_p lX B w0 x) = if 0 < la ∧ (T (4 + (mb i).2.2.1)).isNone = true then fX8_hasItsTables_139 X (B + 40) (nI (mb i).2.2.2) (rg_p lX B w0 x) else some (1, rg_p lX B w0 x) := by
      intro s0 hs
      unfold fX8_hasItsTables_112
      by_cases l0 : la = 0
      · rw [if_neg (show ¬ (0 < la ∧ (T (4 + (mb i).2.2.1)).isNone = true) from fun z => by have := z.1; omega)]
        exact ei_t (hs.mpr l0) rfl
      · refine ei_n (fun e => l0 (hs.mp e)) (ob_v (rg_C rfl rfl) (ob_v (rg_C rfl rfl) (ob_v (rg_C rfl rfl) (ob_v (rg_A rfl (by decide) _ (by omega) (by decide)) ?_))))
        rw [mi.2.2.1, show (4 : Int32) + nI (mb i).2.2.1 = nI (4 + (mb i).2.2.1) from nI_add 4 _]
        refine ob_v (x_wtb _ (by omega)) (ob_v (rg_I (wd_o (by omega)) rfl) ?_)
        by_cases z : (T (4 + (mb i).2.2.1)).isNone = true
        · rw [if_pos (show 0 < la ∧ (T (4 + (mb i).2.2.1)).isNone = true from ⟨by omega, z⟩)]
          exact ei_t (ac.mpr z) rfl
        · rw [if_neg (show ¬ (0 < la ∧ (T (4 + (mb i).2.2.1)).isNone = true) from fun e => z e.2)]
          exact ei_n (fun e => z (ac.mp e)) rfl
    have e86 : ∀ a3 : Int32, (a3 = 0 ↔ ¬ (fi = 0 ∧ bf = 0)) → fX8_hasItsTables_70 X (B + 40) (nI i) (nI (mb i).2.2.2) a3 (rg_p lX B w0 x) = if ((fi = 0 ∧ bf = 0) ∧ (T (mb i).2.1).isNone = true) ∨ (0 < la ∧ (T (4 + (mb i).2.2.1)).isNone = true) then fX8_hasItsTables_139 X (B + 40) (nI (mb i).2.2.2) (rg_p lX B w0 x) else some (1, rg_p lX B w0 x) := by
      intro a3 ha
      have e : ∀ s0 : Int32, (s0 = 0 ↔ la = 0) → fX8_hasItsTables_86 X (B + 40) (nI i) (nI (mb i).2.2.2) a3 s0 (rg_p lX B w0 x) = if ((fi = 0 ∧ bf = 0) ∧ (T (mb i).2.1).isNone = true) ∨ (0 < la ∧ (T (4 + (mb i).2.2.1)).isNone = true) then fX8_hasItsTables_139 X (B + 40) (nI (mb i).2.2.2) (rg_p lX B w0 x) else some (1, rg_p lX B w0 x) := by
        intro s0 hs
        have e1 := e112 s0 hs
        have tail : (¬ ((fi = 0 ∧ bf = 0) ∧ (T (mb i).2.1).isNone = true)) → fX8_hasItsTables_112 X (B + 40) (nI i) (nI (mb i).2.2.2) s0 (rg_p lX B w0 x) = if ((fi = 0 ∧ bf = 0) ∧ (T (mb i).2.1).isNone = true) ∨ (0 < la ∧ (T (4 + (mb i).2.2.1)).isNone = true) then fX8_hasItsTables_139 X (B + 40) (nI (mb i).2.2.2) (rg_p lX B w0 x) else some (1, rg_p lX B w0 x) := by
          intro nd
          rw [e1]
          by_cases z : 0 < la ∧ (T (4 + (mb i).2.2.1)).isNone = true
          · rw [if_pos z, if_pos (Or.inr z)]
          · rw [if_neg z, if_neg (fun e => e.elim nd z)]
        unfold fX8_hasItsTables_86
        by_cases d : fi = 0 ∧ bf = 0
        · refine ei_n (fun e => ha.mp e d) (ob_v (rg_C rfl rfl) (ob_v (rg_C rfl rfl) (ob_v (rg_C rfl rfl) (ob_v (rg_A rfl (by decide) _ (by omega) (by decide)) ?_))))
          rw [mi.2.1]
          refine ob_v (x_wtb _ (by omega)) (ob_v (rg_I (wd_o (by omega)) rfl) ?_)
          by_cases z : (T (mb i).2.1).isNone = true
          · rw [if_pos (Or.inl ⟨d, z⟩)]
            exact ei_t (dc.mpr z) rfl
          · exact ei_n (fun e => z (dc.mp e)) (tail (fun e => z e.2))
        · exact ei_t (ha.mpr d) (tail (fun e => d e.1))
      unfold fX8_hasItsTables_70
      refine ob_v (rg_C rfl rfl) (ob_v (rg_I rfl rfl) ?_)
      rw [h2]
      by_cases l0 : la = 0
      · exact ei_t (by rw [l0]; decide) (e 0 ⟨fun _ => l0, fun _ => rfl⟩)
      · exact ei_n (nI_nle (by omega) (by omega)) (e 1 ⟨fun z => absurd z (by decide), fun z => absurd z l0⟩)
    have start2 : ∀ z, (if q (64 * (cs (mb i).1).2.2.2) = 0 then (gO (rg_p lX B w0 x) (B + 40) 8).bind fun o71 => (fX8_fail X (rg_p lX B w0 x) (B + 40) 8 (nI (mb i).2.2.2)).bind fun q72 => some (0, q72.2) else if ((fi = 0 ∧ bf = 0) ∧ (T (mb i).2.1).isNone = true) ∨ (0 < la ∧ (T (4 + (mb i).2.2.1)).isNone = true) then fX8_hasItsTables_139 X (B + 40) (nI (mb i).2.2.2) (rg_p lX B w0 x) else some (1, rg_p lX B w0 x)) = z → fX8_hasItsTables X (rg_p lX B w0 x) (B + 40) (nI i) = z := by
      intro z hz
      unfold fX8_hasItsTables
      refine ob_v (rg_C rfl rfl) (ob_v (rg_C rfl rfl) (ob_v (rg_A rfl (by decide) _ (by omega) (by decide)) (ob_v (rg_C rfl rfl) (ob_v (rg_C rfl rfl) (ob_v (rg_C rfl rfl) (ob_v (rg_C rfl rfl) (ob_v (rg_A rfl (by decide) _ (by omega) (by decide)) ?_)))))))
      rw [mi.1, mi.2.2.2]
      refine ob_v (rg_A rfl (by decide) _ (by omega) (by decide)) ?_
      rw [cc.2.2.2, show (64 : Int32) * nI (cs (mb i).1).2.2.2 = nI (64 * (cs (mb i).1).2.2.2) from by rw [show (64 : Int32) = nI 64 from rfl, pk_mul]]
      refine ob_v (rg_A rfl (by decide) _ (by omega) (by decide)) ?_
      rw [hq0]
      by_cases d : q (64 * (cs (mb i).1).2.2.2) = 0
      · rw [if_pos d] at hz
        exact ei_t (by rw [d]; rfl) hz
      · rw [if_neg d] at hz
        refine ei_n (nI_ne0 (by omega) (by omega)) (ob_v (rg_C rfl rfl) (ob_v (rg_I rfl rfl) ?_))
        rw [h1]
        by_cases f0 : fi = 0
        · refine ei_t (by rw [f0]; rfl) (ob_v (rg_C rfl rfl) (ob_v (rg_I rfl rfl) ?_))
          rw [h3]
          by_cases b0 : bf = 0
          · exact ei_t (by rw [b0]; rfl) ((e86 1 ⟨fun z => absurd z (by decide), fun z => absurd ⟨f0, b0⟩ z⟩).trans hz)
          · exact ei_n (nI_ne0 (by omega) (by omega)) ((e86 0 ⟨fun _ z => b0 z.2, fun _ => rfl⟩).trans hz)
        · exact ei_n (nI_ne0 (by omega) (by omega)) ((e86 0 ⟨fun _ z => f0 z.1, fun _ => rfl⟩).trans hz)
    unfold sgTb
    by_cases d1 : q (64 * (cs (mb i).1).2.2.2) = 0
    · rw [if_pos d1] at start2 ⊢
      obtain ⟨x2, e2, F2, f1, f2⟩ := x_fail (X := X) (B := B) (w0 := w0) (x := x) (f := 8) (q := (mb i).2.2.2)
      exact Or.inl ⟨_, x2, rfl, F2, ftX.i f1 f2 (by decide) (by decide) (by omega), start _ (ob_v (v := (0, rg_p lX B w0 x2)) (start2 _ (ob_v (rg_O rfl) (ob_v e2 rfl))) (ei_t rfl rfl))⟩
    · rw [if_neg d1] at start2 ⊢
      by_cases d2 : ((fi = 0 ∧ bf = 0) ∧ (T (mb i).2.1).isNone = true) ∨ (0 < la ∧ (T (4 + (mb i).2.2.1)).isNone = true)
      · rw [if_pos d2] at start2 ⊢
        obtain ⟨x2, e2, F2, f1, f2⟩ := x_fail (X := X) (B := B) (w0 := w0) (x := x) (f := 8) (q := (mb i).2.2.2 + 1)
        refine Or.inl ⟨_, x2, rfl, F2, ftX.i f1 f2 (by decide) (by decide) (by omega), start _ (ob_v (v := (0, rg_p lX B w0 x2)) (start2 _ ?_) (ei_t rfl rfl))⟩
        unfold fX8_hasItsTables_139
        refine ob_v (rg_O rfl) ?_
        rw [nI_1]
        exact ob_v e2 rfl
      · rw [if_neg d2] at start2 ⊢
        have st2 : fX8_readScan_71 X (M + 1) (B + 40) (nI i) (rg_p lX B w0 x) = fX8_readScan_71 X M (B + 40) (nI (i + 1)) (rg_p lX B w0 x) := start _ (ob_v (v := (1, rg_p lX B w0 x)) (start2 _ rfl) (ei_n (by show ¬ (1 : Int32) = 0; decide) rfl))
        rw [st2]
        exact ih (i + 1) M (by omega) (by omega)
theorem x_fst (hP : isP P) (hr : x.2.1 40 1 = P) (hn : x.1 P 2 = nI n) (n4 : n ≤ 4) (hl : laX x lt) : ∀ (r j M : Nat), j + r = n → r < M → (∀ k, k < j → lt (64 * k) = 0) → fX8_isFirstScan_2 X M (B + 40) (nI j) (rg_p lX B w0 x) = some (if (∀ k, k < n → lt (64 * k) = 0) then 1 else 0, rg_p lX B w0 x) := by
  intro r
  induction r with
  | zero =>
    intro j M hj hM hk
    obtain ⟨M, rfl⟩ : ∃ M', M = M' + 1 := ⟨M - 1, by omega⟩
    rw [if_pos (fun k h => hk k (by omega)), fX8_isFirstScan_2.eq_2]
    refine ob_v (gP hr) (ob_v (rg_I hP.o rfl) ?_)
    rw [hn]
    exact ei_t (nI_le (by omega) (by omega)) rfl
  | succ r ih =>
    intro j M hj hM hk
    obtain ⟨M, rfl⟩ : ∃ M', M = M' + 1 := ⟨M - 1, by omega⟩
    have hlj := hl (64 * j) (by omega)
    rw [fX8_isFirstScan_2.eq_2]
    refine ob_v (gP hr) (ob_v (rg_I hP.o rfl) ?_)
    rw [hn]
    refine ei_n (nI_ge (by omega) (by omega)) (ob_v (rg_C rfl rfl) ?_)
    rw [show (64 : Int32) * nI j = nI (64 * j) from by rw [show (64 : Int32) = nI 64 from rfl, pk_mul]]
    refine ob_v (rg_A rfl (by decide) _ (by omega) (by decide)) ?_
    rw [hlj.1, nI_1]
    by_cases z : lt (64 * j) = 0
    · refine ei_t (by rw [z]; rfl) (ih (j + 1) M (by omega) (by omega) (fun k hk2 => ?_))
      rcases Nat.lt_or_ge k j with w | w
      · exact hk k w
      · rw [show k = j by omega]
        exact z
    · rw [if_neg (show ¬ (∀ k, k < n → lt (64 * k) = 0) from fun e => z (e j (by omega)))]
      exact ei_n (fun e => z ((ltI_eq (b := 0) (by omega) (by omega)).mp e)) rfl
theorem x_all (hP : isP P) (hr : x.2.1 40 1 = P) (hn : x.1 P 2 = nI n) (n4 : n ≤ 4) (hl : laX x lt) : ∀ (r j M : Nat), j + r = n → r < M → (∀ k, k < j → lt (64 * k) ≠ 0) → fX8_allWereInScans_2 X M (B + 40) (nI j) (rg_p lX B w0 x) = some (if (∀ k, k < n → lt (64 * k) ≠ 0) then 1 else 0, rg_p lX B w0 x) := by
  intro r
  induction r with
  | zero =>
    intro j M hj hM hk
    obtain ⟨M, rfl⟩ : ∃ M', M = M' + 1 := ⟨M - 1, by omega⟩
    rw [if_pos (fun k h => hk k (by omega)), fX8_allWereInScans_2.eq_2]
    refine ob_v (gP hr) (ob_v (rg_I hP.o rfl) ?_)
    rw [hn]
    exact ei_t (nI_le (by omega) (by omega)) rfl
  | succ r ih =>
    intro j M hj hM hk
    obtain ⟨M, rfl⟩ : ∃ M', M = M' + 1 := ⟨M - 1, by omega⟩
    have hlj := hl (64 * j) (by omega)
    rw [fX8_allWereInScans_2.eq_2]
    refine ob_v (gP hr) (ob_v (rg_I hP.o rfl) ?_)
    rw [hn]
    refine ei_n (nI_ge (by omega) (by omega)) (ob_v (rg_C rfl rfl) ?_)
    rw [show (64 : Int32) * nI j = nI (64 * j) from by rw [show (64 : Int32) = nI 64 from rfl, pk_mul]]
    refine ob_v (rg_A rfl (by decide) _ (by omega) (by decide)) ?_
    rw [hlj.1, nI_1]
    by_cases z : lt (64 * j) = 0
    · rw [if_neg (show ¬ (∀ k, k < n → lt (64 * k) ≠ 0) from fun e => e j (by omega) z)]
      exact ei_t (by rw [z]; rfl) rfl
    · refine ei_n (fun e => z ((ltI_eq (b := 0) (by omega) (by omega)).mp e)) (ih (j + 1) M (by omega) (by omega) (fun k hk2 => ?_))
      rcases Nat.lt_or_ge k j with w | w
      · exact hk k w
      · rw [show k = j by omega]
        exact z
end
