/-! a scan's mask, and a scan that is set, by the reference -/
def mkN (cm : Nat → Nat) : Nat → Nat
  | 0 => 0
  | i + 1 => mkN cm i ||| 2 ^ cm i
theorem or_16 : ∀ v : Fin 16, ∀ c : Fin 4, nI v.val ||| ((1 : Int32) <<< (nI c.val &&& 31)) = nI (v.val ||| 2 ^ c.val) ∧ v.val ||| 2 ^ c.val < 16 := by decide +kernel
theorem or_b : ∀ v : Fin 16, ∀ c k : Fin 4, vb (nI (v.val ||| 2 ^ c.val)) k.val = if k.val = c.val then 1 else vb (nI v.val) k.val := by decide +kernel
theorem or_nn : ∀ v : Fin 16, ∀ n : Fin 5, (∀ k : Fin 4, n.val ≤ k.val → vb (nI v.val) k.val = 0) → v.val < 2 ^ n.val := by decide +kernel
theorem or_0 : ∀ v : Fin 16, ∀ k : Fin 4, vb (nI v.val) k.val = 1 → 0 < v.val := by decide +kernel
theorem vb_z : ∀ k : Fin 4, vb (nI 0) k.val = 0 := by decide +kernel
section
variable {cm : Nat → Nat} {n : Nat} {g : gG}
theorem mkN_ok (n4 : n ≤ 4) : ∀ i, (∀ j, j < i → cm j < n) → mkN cm i < 16 ∧ ∀ k, k < 4 → (vb (nI (mkN cm i)) k = 1 ∧ ∃ j, j < i ∧ cm j = k) ∨ (vb (nI (mkN cm i)) k = 0 ∧ ¬ ∃ j, j < i ∧ cm j = k) := by
  intro i
  induction i with
  | zero =>
    intro _
    exact ⟨show 0 < 16 by decide, fun k hk => Or.inr ⟨vb_z ⟨k, hk⟩, fun ⟨j, hj, _⟩ => absurd hj (Nat.not_lt_zero _)⟩⟩
  | succ i ih =>
    intro h
    obtain ⟨h1, h2⟩ := ih (fun j hj => h j (by omega))
    have hc := h i (by omega)
    have g1 := or_16 ⟨mkN cm i, h1⟩ ⟨cm i, by omega⟩
    refine ⟨g1.2, fun k hk => ?_⟩
    have g2 := or_b ⟨mkN cm i, h1⟩ ⟨cm i, by omega⟩ ⟨k, hk⟩
    have g2 : vb (nI (mkN cm (i + 1))) k = if k = cm i then 1 else vb (nI (mkN cm i)) k := g2
    rw [g2]
    by_cases e : k = cm i
    · rw [if_pos e]
      exact Or.inl ⟨rfl, i, by omega, e.symm⟩
    · rw [if_neg e]
      rcases h2 k hk with ⟨a1, j, a2, a3⟩ | ⟨a1, a2⟩
      · exact Or.inl ⟨a1, j, by omega, a3⟩
      · refine Or.inr ⟨a1, fun ⟨j, hj, ej⟩ => ?_⟩
        by_cases q : j = i
        · rw [q] at ej; exact e ej.symm
        · exact a2 ⟨j, by omega, ej⟩
theorem mkN_s {i : Nat} (n4 : n ≤ 4) (h : ∀ j, j < i + 1 → cm j < n) : nI (mkN cm i) ||| ((1 : Int32) <<< (nI (cm i) &&& 31)) = nI (mkN cm (i + 1)) := by
  obtain ⟨h1, _⟩ := mkN_ok n4 i (fun j hj => h j (by omega))
  have hc := h i (by omega)
  exact (or_16 ⟨mkN cm i, h1⟩ ⟨cm i, by omega⟩).1
theorem mkN_r {mm : Nat} (hg : gOk g) (h : mOk g cm mm) : mkR (nI (mkN cm mm)) cm mm ∧ 0 < mkN cm mm ∧ mkN cm mm < 2 ^ g.2.2.1 := by
  have n4 := hg.2.2.2.2.2.1
  obtain ⟨h1, h2⟩ := mkN_ok n4 mm (fun j hj => h.2.2.1 j hj)
  have m4 : mm ≤ 4 := by have := h.2.1; omega
  refine ⟨fun k hk => ?_, ?_, ?_⟩
  · rcases h2 k hk with ⟨a1, j, a2, a3⟩ | ⟨a1, a2⟩
    · refine Or.inl ⟨?_, a1⟩
      rw [← a3]
      exact mbM_i m4 a2
    · exact Or.inr ⟨mbM_n (fun i hi e => a2 ⟨i, hi, e⟩), a1⟩
  · have c0 := h.2.2.1 0 (by have := h.1; omega)
    rcases h2 (cm 0) (by omega) with ⟨a1, _⟩ | ⟨_, a2⟩
    · exact or_0 ⟨mkN cm mm, h1⟩ ⟨cm 0, by omega⟩ a1
    · exact absurd ⟨0, by have := h.1; omega, rfl⟩ a2
  · refine or_nn ⟨mkN cm mm, h1⟩ ⟨g.2.2.1, by omega⟩ (fun k hk => ?_)
    rcases h2 k.val k.isLt with ⟨_, j, a2, a3⟩ | ⟨a1, _⟩
    · have := h.2.2.1 j a2
      have hk : g.2.2.1 ≤ k.val := hk
      omega
    · exact a1
end
section
variable {X : px_X} {b B : Nat} {w0 w1 : px_W} {y y' : rg_S} {cm : Nat → Nat} {mm fi la bf bb : Nat} {g : gG}
theorem m_scanR (hg : gOk g) (hm : mOk g cm mm) (h2 : y.1 24 2 = nI g.2.2.1) (fl : fi ≤ la) (l6 : la ≤ 63) (b9 : bb ≤ 9) (hbf : bf = 0 ∨ bf = bb + 1) (hc : fi = 0 ∧ la = 63 ∧ bf = 0 ∧ bb = 0 ∨ fi = 0 ∧ la = 0 ∨ 1 ≤ fi ∧ mm = 1) : fX13_scan X (rg_p lM b w0 y) (b + 24) (nI (mkN cm mm)) (nI fi) (nI la) (nI bf) (nI bb) = some (1, rg_p lM b w0 (ySc y (mkN cm mm) (fi, la, bf, bb))) := by
  have h4 := hg.2.2.2.2.2.1
  obtain ⟨mr, mk0, mkl⟩ := mkN_r hg hm
  have pw4 : 2 ^ g.2.2.1 ≤ 2 ^ 4 := Nat.pow_le_pow_right (by decide) h4
  have pw4 : 2 ^ g.2.2.1 ≤ 16 := pw4
  generalize hk : mkN cm mm = k at *
  have n10 : ¬ (1 : Int32) = 0 := by decide
  have e148 : fX13_scan_148 X (b + 24) (nI k) (nI fi) (nI la) (nI bf) (nI bb) (rg_p lM b w0 y) = some (1, rg_p lM b w0 (ySc y k (fi, la, bf, bb))) := by
    unfold fX13_scan_148
    exact ob_v (rg_pI rfl rfl _) (ob_v (rg_pI rfl rfl _) (ob_v (rg_pI rfl rfl _) (ob_v (rg_pI rfl rfl _) (ob_v (rg_pI rfl rfl _) rfl))))
  have e45 : fX13_scan_45 X (b + 24) (nI k) (nI fi) (nI la) (nI bf) (nI bb) 1 (rg_p lM b w0 y) = some (1, rg_p lM b w0 (ySc y k (fi, la, bf, bb))) := by
    unfold fX13_scan_45 fX13_scan_71 fX13_scan_72 fX13_scan_86 fX13_scan_87 fX13_scan_123 fX13_scan_124
    rcases hc with ⟨q1, q2, q3, q4⟩ | ⟨q1, q2⟩ | ⟨q1, q2⟩
    · refine ei_t (by rw [q1]; rfl) (ei_t (by rw [q2]; rfl) (ei_t (by rw [q3]; rfl) (ei_t (by rw [q4]; rfl) (ei_t (by rw [q1]; rfl) (ei_n (by rw [q2]; decide) (ei_t (by rw [q1]; decide) (ei_n n10 (ei_n n10 e148))))))))
    · refine ei_t (by rw [q1]; rfl) (ei_n (by rw [q2]; decide) (ei_t (by rw [q1]; rfl) (ei_t (by rw [q2]; rfl) (ei_t (by rw [q1]; decide) (ei_n n10 (ei_t rfl (ei_n n10 e148)))))))
    · have f0 : ¬ nI fi = 0 := nI_ne0 (by omega) (by omega)
      refine ei_n f0 (ei_n f0 (ei_n (nI_nlt (b := 1) q1 (by omega)) (ei_n (nI_nlt (a := 63) (by omega) (by omega)) (ei_n (nI_nlt fl (by omega)) (ei_n (nI_nlt (a := 63) (by omega) (by omega)) (ob_v (m_onesR hg hm mr) (ei_t (by rw [q2]; rfl) (ei_n n10 (ei_t rfl (ei_t rfl (ei_n n10 e148)))))))))))
  unfold fX13_scan fX13_scan_40
  refine ei_n (nI_nle mk0 (by omega)) (ob_v (rg_I rfl rfl) ?_)
  rw [h2, pw_n (by omega)]
  refine ei_n (nI_ge (by omega) (by omega)) (ei_n (nI_nlt (b := 0) (by omega) (by omega)) (ei_n (nI_nlt (a := 9) (by omega) (by omega)) ?_))
  rcases hbf with q | q
  · exact ei_t (by rw [q]; rfl) e45
  · refine ei_n (nI_ne0 (by omega) (by omega)) (ei_t ?_ e45)
    rw [q, nI_1]
theorem m_restart {iv : Nat} (h : iv < 65536) : fX13_restart X (rg_p lM b w0 y) (b + 24) (nI iv) = some (1, rg_p lM b w0 (rg_wI y 24 27 (nI iv))) := by
  unfold fX13_restart
  exact ei_n (nI_nlt (b := 0) (by omega) (by omega)) (ei_t (nI_le (b := 65535) (by omega) (by omega)) (ob_v (rg_pI rfl rfl _) rfl))
theorem m_tabsR {n c td ta : Nat} (hn : y.1 24 2 = nI n) (hc : c < n) (n4 : n ≤ 4) (h1 : td < 4) (h2 : ta < 4) : fX13_tables X (rg_p lM b w0 y) (b + 24) (nI c) (nI td) (nI (4 + ta)) = some (1, rg_p lM b w0 (wRa (wRa y 39 c (nI td)) 40 c (nI (4 + ta)))) := by
  unfold fX13_tables
  refine ei_n (nI_nlt (b := 0) (by omega) (by omega)) (ob_v (rg_I rfl rfl) ?_)
  rw [hn]
  refine ei_n (nI_ge hc (by omega)) (ei_n (nI_nlt (b := 0) (by omega) (by omega)) (ei_n (nI_nlt (a := 3) (by omega) (by omega)) (ei_n (nI_nlt (b := 4) (by omega) (by omega)) (ei_t (nI_le (b := 7) (by omega) (by omega)) (ob_v (rg_C rfl rfl) (ob_v (rg_sA id rfl (by decide) _ _ (by omega) (by decide)) (ob_v (rg_C rfl rfl) (ob_v (rg_sA id rfl (by decide) _ _ (by omega) (by decide)) rfl))))))))
end
