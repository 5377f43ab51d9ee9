/-! paintFrom on both sides -/
theorem first_bad (ok : Nat → Prop) : ∀ n, (∀ c, c < n → ok c) ∨ ∃ c, c < n ∧ ¬ ok c ∧ ∀ d, d < c → ok d := by
  intro n
  induction n with
  | zero => exact Or.inl (fun c hc => absurd hc (Nat.not_lt_zero c))
  | succ n ih =>
    rcases ih with h | ⟨c, hc, h1, h2⟩
    · by_cases e : ok n
      · exact Or.inl (fun c hc => by
          by_cases ec : c = n
          · rw [ec]; exact e
          · exact h c (by omega))
      · exact Or.inr ⟨n, by omega, e, h⟩
    · exact Or.inr ⟨c, by omega, h1, h2⟩
theorem Rel.dr {x y : rg_S} {P s c : Nat} (h : Rel x y) (hP : x.2.1 0 5 = P) (hp : isP P) : Rel (xPh x P s c) y := by
  have hP' : P = 7 ∨ P = 15 := hp
  have fA : ∀ o, o ≠ P + 1 → o ≠ P + 2 → (xPh x P s c).2.2.1 o = x.2.2.1 o := fun o o1 o2 => by rw [xPh_A, if_neg o2, if_neg o1]
  obtain ⟨h1, h2, h3, h4, h4b, ⟨Q, q1, q2, q3⟩, h6⟩ := h
  refine ⟨h1.c rfl (fA 2 (by omega) (by omega)) rfl rfl, h2.c ⟨rfl, rfl⟩ (fun _ _ => rfl) (fun o ho => fA _ (by omega) (by omega)) rfl rfl, h3, h4.c (fun _ _ _ _ => rfl) (fun p hp => fA _ (by omega) (by omega)) (fun _ _ _ => rfl), h4b, ⟨Q, q1, q2, ?_⟩, h6.c (fA 37 (by omega) (by omega)) (fun _ _ _ => rfl)⟩
  rcases q3 with q3 | ⟨t1, t2, g, hg⟩
  · exact Or.inl q3
  · refine Or.inr ⟨t1, t2, g, hg.c (fun _ _ => rfl) (fun j j1 j2 => fA _ (by omega) (by omega)) (fun _ _ _ => rfl) (fun _ _ _ => rfl)⟩
/-- the bounds that paintFrom asks -/
def pCond (a1 a2 a3 a4 a5 : Int32) : Prop := ¬ a1 < 1 ∧ ¬ 32 < a1 ∧ ¬ a2 < 1 ∧ ¬ 32 < a2 ∧ ¬ a3 < 1 ∧ ¬ 4 < a3 ∧ ¬ a5 < 1 ∧ ¬ 5000 < a5 ∧ ¬ a4 < 0 ∧ a4 < ((1 : Int32) <<< ((2 * a3) &&& 31))
theorem pC_le0 (a : Int32) : a ≤ 0 ↔ a < 1 := by
  rw [i_le, i_lt, show (0 : Int32).toInt = 0 from by decide, show (1 : Int32).toInt = 1 from by decide]
  omega
theorem pC_33 (a : Int32) : 33 ≤ a ↔ 32 < a := by
  rw [i_le, i_lt, show (33 : Int32).toInt = 33 from by decide, show (32 : Int32).toInt = 32 from by decide]
  omega
theorem pC_5 (a : Int32) : 5 ≤ a ↔ 4 < a := by
  rw [i_le, i_lt, show (5 : Int32).toInt = 5 from by decide, show (4 : Int32).toInt = 4 from by decide]
  omega
theorem pC_5001 (a : Int32) : 5001 ≤ a ↔ 5000 < a := by
  rw [i_le, i_lt, show (5001 : Int32).toInt = 5001 from by decide, show (5000 : Int32).toInt = 5000 from by decide]
  omega
theorem i_nlt (a c : Int32) : ¬ a < c ↔ c ≤ a := by
  rw [i_le, i_lt]
  omega
theorem pn_of {a : Int32} {m : Nat} {k : Int32} (hk : k.toInt = m) (h1 : ¬ a < 1) (h2 : ¬ k < a) : ∃ w, 1 ≤ w ∧ w ≤ m ∧ a = nI w := by
  rw [i_lt, show (1 : Int32).toInt = 1 from by decide] at h1
  rw [i_lt, hk] at h2
  refine ⟨a.toInt.toNat, by omega, by omega, ?_⟩
  rw [← iI_nat (by omega)]
  exact iI_of a
theorem pn_4 {n : Nat} (h1 : 1 ≤ n) (h2 : n ≤ 4) : ((1 : Int32) <<< ((2 * nI n) &&& 31)) = nI (4 ^ n) ∧ 4 ^ n ≤ 256 := by
  rcases (show n = 1 ∨ n = 2 ∨ n = 3 ∨ n = 4 by omega) with rfl | rfl | rfl | rfl <;> decide
section
variable {X : px_X} {b B : Nat} {w0 w1 : px_W} {x y : rg_S}
theorem x_paintN {a1 a2 a3 a4 a5 : Int32} (hn : ¬ pCond a1 a2 a3 a4 a5) (w : px_W) : fX11_paintFrom X w (B + 0) a1 a2 a3 a4 a5 = some (0, w) := by
  unfold fX11_paintFrom
  exact ei_c (fun _ => rfl) (fun h1 => ei_c (fun _ => rfl) (fun h2 => ei_c (fun _ => rfl) (fun h3 => ei_c (fun _ => rfl) (fun h4 => ei_c (fun _ => rfl) (fun h5 => ei_c (fun _ => rfl) (fun h6 => ei_c (fun _ => rfl) (fun h7 => ei_c (fun _ => rfl) (fun h8 => ei_c (fun _ => rfl) (fun h9 => ei_c (fun h10 => absurd ⟨h1, h2, h3, h4, h5, h6, h7, h8, h9, h10⟩ hn) (fun _ => rfl))))))))))
theorem m_paintN {a1 a2 a3 a4 a5 : Int32} (hn : ¬ pCond a1 a2 a3 a4 a5) (w : px_W) : fX15_paintFrom X w (b + 0) a1 a2 a3 a4 a5 = some (0, w) := by
  have z := m_p70 (X := X) (b := b) a1 a2 a3 a4 a5 w
  have z61 : ∀ h, fX15_paintFrom_61 X (b + 0) a1 a2 a3 a4 a5 a3 2 1 a4 w = some (0, w) ∨ h → fX15_paintFrom_61 X (b + 0) a1 a2 a3 a4 a5 a3 2 1 a4 w = some (0, w) ∨ h := fun _ h => h
  unfold fX15_paintFrom
  refine ei_c (fun _ => z) (fun h1 => ei_c (fun _ => z) (fun h2 => ei_c (fun _ => z) (fun h3 => ei_c (fun _ => z) (fun h4 => ei_c (fun _ => z) (fun h5 => ei_c (fun _ => z) (fun h6 => ei_c (fun _ => z) (fun h7 => ei_c (fun _ => z) (fun h8 => ei_c (fun _ => z) (fun h9 => ei_c (fun h => absurd h h6) (fun _ => ?_))))))))))
  unfold fX15_paintFrom_61
  refine ei_c (fun _ => z) (fun h10 => absurd ?_ hn)
  rw [pC_le0] at h1 h3 h5 h7
  rw [pC_33] at h2 h4
  rw [pC_5] at h6
  rw [pC_5001] at h8
  exact ⟨h1, h2, h3, h4, h5, h6, h7, h8, h9, by
    have := (i_nlt a4 ((1 : Int32) <<< ((2 * a3) &&& 31)))
    exact Decidable.byContradiction (fun h => h10 (this.mp h))⟩
theorem o_paint (hst : px_st X) (hr : Rel x y) (a1 a2 a3 a4 a5 : Int32) : op2' B b (fun w => fX11_paintFrom X w (B + 0) a1 a2 a3 a4 a5) (fun w => fX15_paintFrom X w (b + 0) a1 a2 a3 a4 a5) x y := by
  intro w0
  dsimp only
  by_cases hcd : pCond a1 a2 a3 a4 a5
  · obtain ⟨c1, c2, c3, c4, c5, c6, c7, c8, c9, c10⟩ := hcd
    -- up to the question of sizes
    have dx : ∀ w, fX11_paintFrom X w (B + 0) a1 a2 a3 a4 a5 = fX11_paintFrom_66 X FU (B + 0) a1 a2 a3 a4 a5 0 w := fun w => by
      unfold fX11_paintFrom
      exact ei_n c1 (ei_n c2 (ei_n c3 (ei_n c4 (ei_n c5 (ei_n c6 (ei_n c7 (ei_n c8 (ei_n c9 (ei_t c10 rfl)))))))))
    have dy : ∀ w, fX15_paintFrom X w (b + 0) a1 a2 a3 a4 a5 = fX15_paintFrom_76 X FU (b + 0) a1 a2 a3 a4 a5 1 0 w := fun w => by
      unfold fX15_paintFrom
      refine ei_n (fun e => c1 ((pC_le0 _).mp e)) (ei_n (fun e => c2 ((pC_33 _).mp e)) (ei_n (fun e => c3 ((pC_le0 _).mp e)) (ei_n (fun e => c4 ((pC_33 _).mp e)) (ei_n (fun e => c5 ((pC_le0 _).mp e)) (ei_n (fun e => c6 ((pC_5 _).mp e)) (ei_n (fun e => c7 ((pC_le0 _).mp e)) (ei_n (fun e => c8 ((pC_5001 _).mp e)) (ei_n c9 (ei_n (fun e => c6 ((pC_5 _).mp e)) ?_)))))))))
      unfold fX15_paintFrom_61
      exact ei_n (fun e => (i_nlt _ _).mpr e c10) rfl
    obtain ⟨w, w1, w2, rfl⟩ := pn_of (m := 32) (by decide) c1 c2
    obtain ⟨h, h1, h2, rfl⟩ := pn_of (m := 32) (by decide) c3 c4
    obtain ⟨n, n1, n2, rfl⟩ := pn_of (m := 4) (by decide) c5 c6
    obtain ⟨p, p1, p2, rfl⟩ := pn_of (m := 5000) (by decide) c7 c8
    obtain ⟨e4, l4⟩ := pn_4 n1 n2
    obtain ⟨s, hs, rfl⟩ : ∃ s, s < 256 ∧ a4 = nI s := by
      rw [e4, i_lt, n_t (by omega)] at c10
      rw [i_lt, show (0 : Int32).toInt = 0 from by decide] at c9
      refine ⟨a4.toInt.toNat, by omega, ?_⟩
      rw [← iI_nat (by omega)]
      exact iI_of a4
    obtain ⟨WW, HH, r4⟩ := hr.2.2.2.1
    obtain ⟨Q, hP1, hR, h5⟩ := hr.2.2.2.2.2.1
    obtain ⟨P, hP, hQ, hPQ, hR'⟩ : ∃ P, isP P ∧ isP Q ∧ P ≠ Q ∧ x.2.1 0 5 = P := by
      unfold isP
      exact ⟨x.2.1 0 5, by omega, by omega, by omega, rfl⟩
    have ex : ∀ c, c < 4 → x.1 (24 + 2 * c) 0 = nI (WW c) ∧ x.1 (24 + 2 * c) 1 = nI (HH c) ∧ WW c ≤ 32 ∧ HH c ≤ 32 := fun c hc => by
      obtain ⟨q1, q2, q3, q4, q5, q6, q7, q8, q9⟩ := r4 c hc
      exact ⟨q5, q6, q2, q4⟩
    have ey : ∀ c, c < 4 → y.2.2.1 73 c = nI (WW c) ∧ y.2.2.1 74 c = nI (HH c) ∧ WW c ≤ 32 ∧ HH c ≤ 32 := fun c hc => by
      obtain ⟨q1, q2, q3, q4, q5, q6, q7, q8, q9⟩ := r4 c hc
      exact ⟨q7, q8, q2, q4⟩
    rcases first_bad (fun c => WW c = w ∧ HH c = h) n with hall | ⟨c0, hc0, hbad, hbef⟩
    · have hg : gOk (pG w h n s) := pG_ok w1 w2 h1 h2 n1 n2
      have hby : ∀ c i j, c < n → i < w → j < h → isB8 (y.2.2.1 72 (1024 * c + (w * j + i))) := fun c i j hc hi hj => by
        have hrr := row_lt hi hj
        have hm : w * h ≤ 32 * 32 := Nat.mul_le_mul w2 h2
        exact hr.2.2.2.2.1 _ (by omega)
      obtain ⟨x3, e3, f1, f2, f3, f4, f5, f6⟩ := x_p139 (X := X) (B := B) (w0 := w0) (Q := Q) (I := fun c i j => y.2.2.1 72 (1024 * c + (w * j + i))) hst hP hR hR' rfl hg w2 h2 p2 (fun c hc => by
        obtain ⟨q1, q2, q3, q4, q5, q6, q7, q8, q9⟩ := r4 c (by omega)
        obtain ⟨u1, u2⟩ := hall c hc
        rw [u1] at q5 q9
        rw [u2] at q6 q9
        exact ⟨w1, w2, h1, h2, q5, q6, fun i j hi hj => by rw [q9 i j hi hj, Nat.add_assoc]⟩) hby (fun u t hu ht => hr.2.2.2.2.2.2.1 3 u t (by decide) hu ht)
      refine ⟨1, xTD x3 P Q, ?_, fun w1' => ?_⟩
      · rw [dx]
        refine x_p66 hP hR' ex w2 h2 n2 hs (Nat.le_refl n) hall (fun m => ?_)
        rw [fX11_paintFrom_66.eq_2]
        exact ei_t (nI_le (Nat.le_refl _) (by omega)) e3
      · obtain ⟨y3, e5, k1, k2, k3, k4, k5, k6⟩ := m_p122 (X := X) (b := b) (w0 := w1') (y := y) (I := fun c i j => y.2.2.1 72 (1024 * c + (w * j + i))) (g := pG w h n s) rfl hg w2 h2 p2 hs (fun c hc => by
          obtain ⟨q1, q2, q3, q4⟩ := ey c (by omega)
          obtain ⟨u1, u2⟩ := hall c hc
          rw [← u1, ← u2]
          exact ⟨q1, q2⟩) (fun c i j _ _ _ => rfl) hby hr.2.2.2.2.2.2.2.1 hr.2.2.2.2.2.2.2.2.1
        refine ⟨y3, ?_, ?_⟩
        · rw [dy]
          refine m_p76 ey n2 (Nat.le_refl n) hall (fun m hm => ?_)
          rw [show m = (m - 1) + 1 by omega, fX15_paintFrom_76.eq_2]
          exact ei_t (nI_le (Nat.le_refl _) (by omega)) e5
        · have hb : gBs (pG w h n s) (pG w h n s).2.2.1 ≤ 192 := Nat.le_trans (gP_bs hg w2 h2 (Nat.le_refl _)) (by show 16 * n ≤ 192; omega)
          refine Rel.newpic hr hP hQ hPQ f1 f2 f3 k1 k2 k3 (g := pG w h n s) ⟨hg, hb, f4, k4, fun i hi => ⟨by rw [f5 i hi, k5 i hi], ?_⟩, fun i hi => ?_⟩
          · obtain ⟨c, q, k, hc, hq, hk, rfl⟩ := fl_in hi
            rw [k5 _ hi]
            unfold pnV
            rw [flV_at (show c < 4 from Nat.lt_of_lt_of_le hc n2) hq hk, show (64 * (gBs (pG w h n s) c + q) + k) % 64 = k by omega]
            exact fwV_ok _ _ _
          · have hi' : i < 64 * n := hi
            have e1 := f6 (i / 64) (i % 64) (show i / 64 < n by omega) (by omega)
            have e2 := k6 (i / 64) (i % 64) (show i / 64 < n by omega) (by omega)
            rw [show 64 * (i / 64) + i % 64 = i by omega] at e1 e2
            exact ⟨by rw [e1, e2], _, (pS_in _ _ _).1, (pS_in _ _ _).2, e2⟩
    · refine ⟨0, xPh x P s c0, ?_, fun w1' => ⟨y, ?_, hr.dr hR' hP⟩⟩
      · rw [dx]
        refine x_p66 hP hR' ex w2 h2 n2 hs (show c0 ≤ n by omega) hbef (fun m => ?_)
        obtain ⟨d0, d1, d2, d3⟩ := ex c0 (by omega)
        rw [fX11_paintFrom_66.eq_2]
        refine ei_n (nI_ge hc0 (by omega)) (ob_v (rg_C rfl rfl) (ob_v (x_plane (by omega)) (ob_v (rg_O (pl_o (by omega))) (ob_v (x_isz (x := xPh x P s c0) (by omega) d0 d1 d2 d3 w2 h2) ?_))))
        dsimp only
        rw [if_neg hbad]
        exact ei_t rfl rfl
      · rw [dy]
        refine m_p76 ey n2 (show c0 ≤ n by omega) hbef (fun m hm => ?_)
        obtain ⟨d0, d1, d2, d3⟩ := ey c0 (by omega)
        have z : ∀ m, 1 ≤ m → fX15_paintFrom_113 X (fX15_paintFrom_76 X m) (b + 0) (nI w) (nI h) (nI n) (nI s) (nI p) (nI c0) (rg_p lM b w1' y) = some (0, rg_p lM b w1' y) := by
          intro m hm
          unfold fX15_paintFrom_113 fX15_paintFrom_114
          rw [show m = (m - 1) + 1 by omega, fX15_paintFrom_76.eq_2]
          unfold fX15_paintFrom_122
          exact ei_c (fun _ => ei_t rfl rfl) (fun _ => ei_t rfl (ei_t rfl rfl))
        rw [show m = (m - 1) + 1 by omega, fX15_paintFrom_76.eq_2]
        refine ei_n (nI_ge hc0 (by omega)) (ei_n (by decide) (ob_v (rg_C rfl rfl) (ob_v (rg_A rfl (by decide) _ (by omega) (by decide)) ?_)))
        rw [d0]
        refine ei_c (fun eW => ob_v (rg_C rfl rfl) (ob_v (rg_A rfl (by decide) _ (by omega) (by decide)) ?_)) (fun _ => z _ (by omega))
        rw [d1]
        refine ei_c (fun eH => absurd ⟨(nI_eq (by omega) (by omega)).mp eW, (nI_eq (by omega) (by omega)).mp eH⟩ hbad) (fun _ => z _ (by omega))
  · exact ⟨0, x, x_paintN hcd _, fun w1 => ⟨y, m_paintN hcd _, hr⟩⟩
end
