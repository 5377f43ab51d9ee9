/-! which words a scan sends; no bits wait without a run -/
def aG (Q : Nat → Prop) (a : aS) : Prop := (∀ t s, eW t s ∈ a.1 → Q t ∧ s < 256) ∧ (a.2.1 = 0 → a.2.2.1 = [])
theorem eW_ne_v {t s n : Nat} {v : Int32} {l : List Nat} : eW t s ∉ bts l := by
  intro h
  unfold bts at h
  obtain ⟨c, _, e⟩ := List.mem_map.mp h
  unfold eV eW at e
  cases e
section
variable {Q : Nat → Prop} {a : aS} {t : Nat}
theorem aG_w {s : Nat} (h : aG Q a) (hQ : Q t) (hs : s < 256) : aG Q (ap [eW t s] a) := by
  refine ⟨fun t' s' h' => ?_, h.2⟩
  rcases List.mem_append.mp h' with h' | h'
  · exact h.1 t' s' h'
  · have e := List.mem_singleton.mp h'
    unfold eW at e
    injection e with e
    injection e with e1 e2
    rw [e1, e2]
    exact ⟨hQ, hs⟩
theorem aG_r (v : (Int32 × Nat) ⊕ (Option Nat)) (h : aG Q a) : aG Q (ap [.inr v] a) := by
  refine ⟨fun t' s' h' => ?_, h.2⟩
  rcases List.mem_append.mp h' with h' | h'
  · exact h.1 t' s' h'
  · have e := List.mem_singleton.mp h'
    unfold eW at e
    cases e
theorem sz_15 {n : Nat} (h : n ≤ 32767) : sz n ≤ 15 := by
  by_cases z : n = 0
  · rw [z]; decide
  · unfold sz
    rw [if_neg z]
    have := (Nat.log2_lt z (k := 15)).mpr (by omega)
    omega
theorem aG_send {R N n : Nat} (hR : R ≤ 32767) (hB : aB R N n a) (h : aG Q a) (hQ : a.2.1 = 0 ∨ Q t) : aG Q (aSend t a) := by
  unfold aSend
  split
  · exact h
  · rename_i z
    have q := hQ.resolve_left z
    have s := sz_15 (n := a.2.1) (Nat.le_trans hB.1 hR)
    refine ⟨fun t' s' h' => ?_, fun _ => rfl⟩
    rcases List.mem_append.mp h' with h' | h'
    · exact h.1 t' s' h'
    · unfold aRun at h'
      rcases List.mem_append.mp h' with h' | h'
      · rcases List.mem_cons.mp h' with e | h'
        · unfold eW at e
          injection e with e
          injection e with e1 e2
          rw [e1, e2]
          exact ⟨q, by omega⟩
        · have e := List.mem_singleton.mp h'
          unfold eW eV at e
          cases e
      · exact absurd h' (eW_ne_v (n := 0) (v := 0))
theorem aG_come (h : aG Q a) : aG Q (aCome a) := by
  refine ⟨fun t' s' h' => ?_, h.2⟩
  rcases List.mem_append.mp h' with h' | h'
  · exact h.1 t' s' h'
  · exact absurd h' (eW_ne_v (n := 0) (v := 0))
theorem aG_long (h : aG Q a) : aG Q (aLong a) := ⟨h.1, fun e => absurd e (by show a.2.1 + 1 ≠ 0; omega)⟩
theorem aG_full {R N n : Nat} (hR : R ≤ 32767) (hB : aB R N n a) (h : aG Q a) (hQ : Q t) : aG Q (aFull t a) := by
  unfold aFull
  split
  · exact aG_send hR hB h (Or.inr hQ)
  · exact h
theorem aG_16 (hQ : Q t) : ∀ (n : Nat) (a : aS), aG Q a → aG Q (a16 t n a)
  | 0, _, h => h
  | n + 1, _, h => aG_16 hQ n _ (aG_w h hQ (by decide))
theorem aG_oLp {bits fr : Nat} {Z : Nat → Int} (hZ : ∀ k, k ≤ 63 → (Z k).natAbs ≤ 1024) (h : aB 32766 900 0 a) (hb : a.2.2.1 = []) (hQ : Q t) (hG : aG Q a) : ∀ n, fr + n ≤ 64 → aG Q (oLp t bits Z fr a n).2
  | 0, _ => hG
  | n + 1, hn => by
    have i := aG_oLp (bits := bits) (fr := fr) hZ h hb hQ hG n (by omega)
    obtain ⟨i1, i2, _⟩ := oLp_b (t := t) (bits := bits) (fr := fr) (Z := Z) h hb n
    rw [oLp.eq_2]
    unfold oSt
    split
    · exact i
    · have := am_le bits (Z (fr + n))
      have := hZ (fr + n) (by omega)
      have := sz_1 (n := am bits (Z (fr + n))) (by omega)
      exact aG_r _ (aG_w (aG_16 hQ _ _ (aG_send (by decide) i2 i (Or.inr hQ))) hQ (by omega))
theorem aG_oth {first last bits : Nat} {Z : Nat → Int} (hl : last ≤ 63) (hZ : ∀ k, k ≤ 63 → (Z k).natAbs ≤ 1024) (h : aB 32766 900 0 a) (hb : a.2.2.1 = []) (hQ : Q t) (hG : aG Q a) : aG Q (aOth first last bits t Z a) := by
  by_cases mx : max 1 first ≤ last + 1
  · have i := aG_oLp (bits := bits) (fr := max 1 first) hZ h hb hQ hG (last + 1 - max 1 first) (by omega)
    obtain ⟨i1, i2, _⟩ := oLp_b (t := t) (bits := bits) (fr := max 1 first) (Z := Z) h hb (last + 1 - max 1 first)
    unfold aOth oEnd
    generalize oLp t bits Z (max 1 first) a (last + 1 - max 1 first) = q at *
    split
    · exact i
    · split
      · exact aG_w i hQ (by decide)
      · exact aG_full (by decide) (aB_long i2) (aG_long i) hQ
  · unfold aOth
    rw [show last + 1 - max 1 first = 0 by omega]
    exact hG
theorem aG_m16 {R N n : Nat} (hR : R ≤ 32767) (hQ : Q t) : ∀ (k : Nat) (a : aS), aB R N n a → aG Q a → aG Q (m16 t k a)
  | 0, _, _, h => h
  | k + 1, a, b, h => by
    have b1 : aB R N n (ap [eW t 240] (aSend t a)) := aB_ap _ (aB_send t b)
    exact aG_m16 (n := n) hR hQ k _ ((aB_come b1).m (Nat.le_refl _) (Nat.le_refl _) (Nat.zero_le _)) (aG_come (aG_w (aG_send hR b h (Or.inr hQ)) hQ (by decide)))
theorem aG_mLp {bits fr N : Nat} {Z : Nat → Int} (h : aB 32766 900 0 a) (hQ : Q t) (hG : aG Q a) : ∀ n, n ≤ N → aG Q (mLp t bits (lNw bits Z fr N) Z fr a n).2
  | 0, _ => hG
  | n + 1, hn => by
    have i := aG_mLp (N := N) (bits := bits) (fr := fr) (Z := Z) h hQ hG n (by omega)
    obtain ⟨i1, i2⟩ := mLp_b (t := t) (bits := bits) (l := lNw bits Z fr N) (fr := fr) (Z := Z) h n
    obtain ⟨q1, _, q3⟩ := mQ_b (t := t) (l := lNw bits Z fr N) (k := fr + n) i2
    have gq : aG Q (mQ t (lNw bits Z fr N) (fr + n) (mLp t bits (lNw bits Z fr N) Z fr a n)).2 := by
      unfold mQ
      split
      · exact aG_m16 (by decide) hQ _ _ i2 i
      · exact i
    rw [mLp.eq_2]
    unfold mSt
    split
    · exact i
    · split
      · rename_i e1
        have := q3 (lNw_lt (show n < N by omega) e1)
        exact aG_come (aG_r _ (aG_w (aG_send (by decide) q1 gq (Or.inr hQ)) hQ (by omega)))
      · exact ⟨gq.1, gq.2⟩
theorem aG_more {first last bits : Nat} {Z : Nat → Int} (h : aB 32766 900 0 a) (hQ : Q t) (hG : aG Q a) : aG Q (aMore first last bits t Z a) := by
  have i := aG_mLp (bits := bits) (fr := first) (Z := Z) h hQ hG (last + 1 - first) (Nat.le_refl _)
  obtain ⟨i1, i2⟩ := mLp_b (t := t) (bits := bits) (l := lNw bits Z first (last + 1 - first)) (fr := first) (Z := Z) h (last + 1 - first)
  unfold aMore mEnd
  generalize mLp t bits (lNw bits Z first (last + 1 - first)) Z first a (last + 1 - first) = q at *
  split
  · exact i
  · exact aG_full (by decide) (aB_long i2) (aG_long i) hQ
theorem aG_blk {first last bf bits c : Nat} {Z : Nat → Int} (hl : last ≤ 63) (hZ : ∀ k, k ≤ 63 → -1024 ≤ Z k ∧ Z k ≤ 1023) (h : aIv first bf a) (h1 : first = 0 → bf = 0 → Q c) (h2 : 0 < last → Q (4 + c)) (hG : aG Q a) : aG Q (aBlk first last bf bits c Z a) := by
  have hz := hZ 0 (by decide)
  have k1 : aIv first bf (if first = 0 then aDir bf bits c (Z 0) a else a) ∧ aG Q (if first = 0 then aDir bf bits c (Z 0) a else a) := by
    split
    · rename_i f0
      refine ⟨⟨pr_dir h.1 (div_b bits hz.1 hz.2), fun e => ?_, fun e => ?_⟩, ?_⟩
      · rw [dir_2.1]; exact h.2.1 e
      · rw [dir_2.2.1]; exact h.2.2 e
      · unfold aDir
        split
        · exact aG_r _ hG
        · rename_i b0
          have d := div_b bits hz.1 hz.2
          have e := h.1.2.2.2.2.2 c
          have := sz_11 (n := (Z 0 / 2 ^ bits - a.2.2.2.2 c).natAbs) (by omega)
          exact aG_r _ (aG_w ⟨hG.1, hG.2⟩ (h1 f0 (by omega)) (by omega))
    · exact ⟨h, hG⟩
  unfold aBlk
  generalize (if first = 0 then aDir bf bits c (Z 0) a else a) = a1 at *
  split
  · exact k1.2
  · rename_i l0
    split
    · rename_i b0
      exact aG_oth hl (fun k hk => by have := hZ k hk; omega) k1.1.1 (k1.1.2.2 b0) (h2 (by omega)) k1.2
    · exact aG_more k1.1.1 (h2 (by omega)) k1.2
end
/-- the tables of a scan -/
def tbQ (c0 m : Nat) (p : scP) (t : Nat) : Prop := (p.1 = 0 ∧ p.2.2.1 = 0 ∧ c0 ≤ t ∧ t < c0 + m) ∨ (0 < p.2.1 ∧ 4 + c0 ≤ t ∧ t < 4 + c0 + m)
section
variable {g : gG} {c0 m : Nat} {p : scP} {Z : Nat → Int} {iv u t : Nat} {a : aS}
theorem aG_c (hl : p.2.1 ≤ 63) (hg : gOk g) (hs : scOk g c0 m) (hZ : ∀ i, i < 64 * gBs g g.2.2.1 → -1024 ≤ Z i ∧ Z i ≤ 1023) (hff : p.1 = 0 → 0 < p.2.1 → p.2.2.1 = 0) (hu : u < scU g c0 m) {c : Nat} (h : aIv p.1 p.2.2.1 a) (hG : aG (tbQ c0 m p) a) : ∀ j, j ≤ scB g c0 m c → aG (tbQ c0 m p) (aC g m p Z u c a j)
  | 0, _ => hG
  | j + 1, hj => by
    have q := (scQ_lt hg hs hu (show j < scB g c0 m c by omega)).2
    obtain ⟨k1, k2, _, _⟩ := scB_c hs (show j < scB g c0 m c by omega)
    exact aG_blk hl (fun k hk => hZ _ (by omega)) (aIv_c hg hs hZ hff hu h j (by omega)) (fun e1 e2 => Or.inl ⟨e1, e2, k1, k2⟩) (fun e => Or.inr ⟨e, by omega, by omega⟩) (aG_c hl hg hs hZ hff hu h hG j (by omega))
theorem aG_un (hl : p.2.1 ≤ 63) (hg : gOk g) (hs : scOk g c0 m) (hZ : ∀ i, i < 64 * gBs g g.2.2.1 → -1024 ≤ Z i ∧ Z i ≤ 1023) (hff : p.1 = 0 → 0 < p.2.1 → p.2.2.1 = 0) (hu : u < scU g c0 m) (h : aIv p.1 p.2.2.1 a) (hG : aG (tbQ c0 m p) a) : ∀ c, aG (tbQ c0 m p) (aUn g c0 m p Z u a c)
  | 0 => hG
  | c + 1 => aG_c hl hg hs hZ hff hu (aIv_un hg hs hZ hff hu h c) (aG_un hl hg hs hZ hff hu h hG c) _ (Nat.le_refl _)
theorem aG_sd (hg : gOk g) (hs : scOk g c0 m) (hp : p.1 ≤ p.2.1) (h : aIv p.1 p.2.2.1 a) (hG : aG (tbQ c0 m p) a) : aG (tbQ c0 m p) (aSend (4 + c0) a) := by
  have hcm := hs.cm hg
  refine aG_send (by decide) h.1 hG ?_
  by_cases f0 : p.1 = 0
  · exact Or.inl (h.2.1 f0)
  · exact Or.inr (Or.inr ⟨by omega, by omega, by omega⟩)
theorem aG_us (hl : p.2.1 ≤ 63) (hp : p.1 ≤ p.2.1) (hg : gOk g) (hs : scOk g c0 m) (hZ : ∀ i, i < 64 * gBs g g.2.2.1 → -1024 ≤ Z i ∧ Z i ≤ 1023) (hff : p.1 = 0 → 0 < p.2.1 → p.2.2.1 = 0) : ∀ u, u ≤ scU g c0 m → aG (tbQ c0 m p) (aUs g c0 m p Z iv u)
  | 0, _ => ⟨fun _ _ h => (by cases h), fun _ => rfl⟩
  | u + 1, hu => by
    have hI := aIv_us (iv := iv) hg hs hZ hff u (by omega)
    have i := aG_us hl hp hg hs hZ hff u (by omega)
    refine aG_un hl hg hs hZ hff (by omega) (aIv_rs hI) ?_ _
    unfold aRs
    split
    · have := aG_r (.inr (some (208 + (u / iv - 1) % 8))) (aG_r (.inr none) (aG_sd hg hs hp hI i))
      exact ⟨this.1, this.2⟩
    · exact i
theorem aG_all (hl : p.2.1 ≤ 63) (hp : p.1 ≤ p.2.1) (hg : gOk g) (hs : scOk g c0 m) (hZ : ∀ i, i < 64 * gBs g g.2.2.1 → -1024 ≤ Z i ∧ Z i ≤ 1023) (hff : p.1 = 0 → 0 < p.2.1 → p.2.2.1 = 0) : aG (tbQ c0 m p) (aAll g c0 m p Z iv) := aG_r (.inr none) (aG_sd hg hs hp (aIv_us (iv := iv) hg hs hZ hff _ (Nat.le_refl _)) (aG_us hl hp hg hs hZ hff _ (Nat.le_refl _)))
/-- a scan's end: no run, no bits, nothing to come -/
theorem all_0 (hl : p.2.1 ≤ 63) (hp : p.1 ≤ p.2.1) (hg : gOk g) (hs : scOk g c0 m) (hZ : ∀ i, i < 64 * gBs g g.2.2.1 → -1024 ≤ Z i ∧ Z i ≤ 1023) (hff : p.1 = 0 → 0 < p.2.1 → p.2.2.1 = 0) : (aAll g c0 m p Z iv).2.1 = 0 ∧ (aAll g c0 m p Z iv).2.2.1 = [] ∧ (aAll g c0 m p Z iv).2.2.2.1 = [] := by
  have r : (aAll g c0 m p Z iv).2.1 = 0 := sd_r
  have hI := aIv_send (t := 4 + c0) (aIv_us (iv := iv) hg hs hZ hff (scU g c0 m) (Nat.le_refl _))
  exact ⟨r, (aG_all (iv := iv) hl hp hg hs hZ hff).2 r, List.eq_nil_of_length_eq_zero (Nat.le_zero.mp hI.1.2.2.1)⟩
end
