/-! how much a scan can send; times of symbols -/
theorem ln_ap (v : ev) (a : aS) : (ap [v] a).1.length = a.1.length + 1 := by
  show (a.1 ++ [v]).length = _
  rw [List.length_append, List.length_singleton]
theorem ln_send {R N n : Nat} (t : Nat) {a : aS} (h : aB R N n a) : (aSend t a).1.length ≤ a.1.length + (2 + N) := by
  unfold aSend
  split
  · omega
  · show (a.1 ++ aRun t a).length ≤ _
    have : (aRun t a).length = 2 + a.2.2.1.length := by
      unfold aRun bts
      rw [List.length_append, List.length_map]
      rfl
    rw [List.length_append, this]
    have := h.2.1
    omega
theorem ln_come {R N n : Nat} {a : aS} (h : aB R N n a) : (aCome a).1.length ≤ a.1.length + n := by
  show (a.1 ++ bts a.2.2.2.1).length ≤ _
  unfold bts
  rw [List.length_append, List.length_map]
  have := h.2.2.1
  omega
theorem ln_full {R N n : Nat} (t : Nat) {a : aS} (h : aB R N n a) : (aFull t a).1.length ≤ a.1.length + (2 + N) := by
  unfold aFull
  split
  · exact ln_send t h
  · omega
theorem ln_16 (t : Nat) : ∀ (n : Nat) (a : aS), (a16 t n a).1.length = a.1.length + n
  | 0, _ => rfl
  | n + 1, a => by
    rw [a16.eq_2, ln_16 t n, ln_ap]
    omega
theorem ln_oLp {t bits fr : Nat} {Z : Nat → Int} {a : aS} (h : aB 32766 900 0 a) (hb : a.2.2.1 = []) : ∀ n, n ≤ 64 → (oLp t bits Z fr a n).2.1.length ≤ a.1.length + 1000 * n
  | 0, _ => Nat.le_refl _
  | n + 1, hn => by
    have i := ln_oLp (t := t) (bits := bits) (fr := fr) (Z := Z) h hb n (by omega)
    obtain ⟨i1, i2, _⟩ := oLp_b (t := t) (bits := bits) (fr := fr) (Z := Z) h hb n
    rw [oLp.eq_2]
    unfold oSt
    split
    · show (oLp t bits Z fr a n).2.1.length ≤ _
      omega
    · rw [ln_ap, ln_ap, ln_16]
      have := ln_send t i2
      omega
theorem ln_oth {first last bits t : Nat} {Z : Nat → Int} {a : aS} (hl : last ≤ 63) (h : aB 32766 900 0 a) (hb : a.2.2.1 = []) : (aOth first last bits t Z a).1.length ≤ a.1.length + 66000 := by
  have i := ln_oLp (t := t) (bits := bits) (fr := max 1 first) (Z := Z) h hb (last + 1 - max 1 first) (by omega)
  obtain ⟨i1, i2, _⟩ := oLp_b (t := t) (bits := bits) (fr := max 1 first) (Z := Z) h hb (last + 1 - max 1 first)
  unfold aOth
  generalize oLp t bits Z (max 1 first) a (last + 1 - max 1 first) = q at *
  have e : (aLong q.2).1.length = q.2.1.length := rfl
  unfold oEnd
  split
  · omega
  · split
    · rw [ln_ap]
      omega
    · have := ln_full t (aB_long i2)
      omega
theorem ln_m16 {R N n : Nat} (t : Nat) : ∀ (k : Nat) (a : aS), aB R N n a → (m16 t k a).1.length ≤ a.1.length + k * (3 + N + n)
  | 0, _, _ => by rw [Nat.zero_mul]; exact Nat.le_refl _
  | k + 1, a, h => by
    have h1 : aB R N n (ap [eW t 240] (aSend t a)) := aB_ap _ (aB_send t h)
    have i := ln_m16 (n := n) t k (aCome (ap [eW t 240] (aSend t a))) ((aB_come h1).m (Nat.le_refl _) (Nat.le_refl _) (Nat.zero_le _))
    have c := ln_come h1
    have s := ln_send t h
    rw [ln_ap] at c
    rw [m16.eq_2, Nat.succ_mul]
    omega
theorem ln_mQ {t l k R N n : Nat} {p : Nat × aS} (h : aB R N n p.2) (hp : p.1 ≤ 64) : (mQ t l k p).2.1.length ≤ p.2.1.length + 4 * (3 + N + n) := by
  unfold mQ
  split
  · have := ln_m16 t (p.1 / 16) p.2 h
    have : p.1 / 16 * (3 + N + n) ≤ 4 * (3 + N + n) := Nat.mul_le_mul_right _ (by omega)
    show (m16 t (p.1 / 16) p.2).1.length ≤ _
    omega
  · omega
theorem ln_mLp {t bits l fr : Nat} {Z : Nat → Int} {a : aS} (h : aB 32766 900 0 a) : ∀ n, n ≤ 64 → (mLp t bits l Z fr a n).2.1.length ≤ a.1.length + 5000 * n
  | 0, _ => Nat.le_refl _
  | n + 1, hn => by
    have i := ln_mLp (t := t) (bits := bits) (l := l) (fr := fr) (Z := Z) h n (by omega)
    obtain ⟨i1, i2⟩ := mLp_b (t := t) (bits := bits) (l := l) (fr := fr) (Z := Z) h n
    have q := ln_mQ (t := t) (l := l) (k := fr + n) i2 (by omega)
    obtain ⟨q1, _, _⟩ := mQ_b (t := t) (l := l) (k := fr + n) i2
    rw [mLp.eq_2]
    unfold mSt
    split
    · show (mLp t bits l Z fr a n).2.1.length ≤ _
      omega
    · split
      · have s := ln_send t q1
        have b1 := aB_ap [eV (if Z (fr + n) < 0 then nI 0 else nI 1) 1] (aB_ap [eW t (16 * (mQ t l (fr + n) (mLp t bits l Z fr a n)).1 + 1)] (aB_send t q1))
        have c := ln_come b1
        rw [ln_ap, ln_ap] at c
        show (aCome _).1.length ≤ _
        omega
      · show (mQ t l (fr + n) (mLp t bits l Z fr a n)).2.1.length ≤ _
        omega
theorem ln_more {first last bits t : Nat} {Z : Nat → Int} {a : aS} (hl : last ≤ 63) (h : aB 32766 900 0 a) : (aMore first last bits t Z a).1.length ≤ a.1.length + 322000 := by
  have i := ln_mLp (t := t) (bits := bits) (l := lNw bits Z first (last + 1 - first)) (fr := first) (Z := Z) h (last + 1 - first) (by omega)
  obtain ⟨i1, i2⟩ := mLp_b (t := t) (bits := bits) (l := lNw bits Z first (last + 1 - first)) (fr := first) (Z := Z) h (last + 1 - first)
  unfold aMore
  generalize mLp t bits (lNw bits Z first (last + 1 - first)) Z first a (last + 1 - first) = q at *
  have e : (aLong q.2).1.length = q.2.1.length := rfl
  unfold mEnd
  split
  · omega
  · have := ln_full t (aB_long i2)
    omega
theorem ln_dir {bf bits c : Nat} {v : Int} {a : aS} : (aDir bf bits c v a).1.length ≤ a.1.length + 2 := by
  unfold aDir
  split
  · rw [ln_ap]
    omega
  · rw [ln_ap, ln_ap]
    show a.1.length + 1 + 1 ≤ _
    omega
theorem ln_blk {first last bf bits c : Nat} {Z : Nat → Int} {a : aS} (hl : last ≤ 63) (h : aIv first bf a) (hz : -1024 ≤ Z 0 ∧ Z 0 ≤ 1023) : (aBlk first last bf bits c Z a).1.length ≤ a.1.length + 330000 := by
  have h1 : aIv first bf (if first = 0 then aDir bf bits c (Z 0) a else a) := by
    split
    · refine ⟨pr_dir h.1 (div_b bits hz.1 hz.2), fun e => ?_, fun e => ?_⟩
      · rw [dir_2.1]; exact h.2.1 e
      · rw [dir_2.2.1]; exact h.2.2 e
    · exact h
  have l1 : (if first = 0 then aDir bf bits c (Z 0) a else a).1.length ≤ a.1.length + 2 := by
    split
    · exact ln_dir
    · omega
  unfold aBlk
  generalize (if first = 0 then aDir bf bits c (Z 0) a else a) = a1 at *
  split
  · omega
  · split
    · rename_i q
      have := ln_oth (first := first) (last := last) (bits := bits) (t := 4 + c) (Z := Z) hl h1.1 (h1.2.2 q)
      omega
    · have := ln_more (first := first) (last := last) (bits := bits) (t := 4 + c) (Z := Z) hl h1.1
      omega
section
variable {g : gG} {c0 m : Nat} {p : scP} {Z : Nat → Int} {iv u t : Nat} {a : aS}
theorem ln_aC (hl : p.2.1 ≤ 63) (hg : gOk g) (hs : scOk g c0 m) (hZ : ∀ i, i < 64 * gBs g g.2.2.1 → -1024 ≤ Z i ∧ Z i ≤ 1023) (hff : p.1 = 0 → 0 < p.2.1 → p.2.2.1 = 0) (hu : u < scU g c0 m) {c : Nat} (h : aIv p.1 p.2.2.1 a) : ∀ j, j ≤ scB g c0 m c → (aC g m p Z u c a j).1.length ≤ a.1.length + 330000 * j
  | 0, _ => Nat.le_refl _
  | j + 1, hj => by
    have q := (scQ_lt hg hs hu (show j < scB g c0 m c by omega)).2
    have i := ln_aC (c := c) hl hg hs hZ hff hu h j (by omega)
    have b := ln_blk (bits := p.2.2.2) (c := c) (Z := fun k => Z (64 * (gBs g c + scQ g m u c j) + k)) hl (aIv_c (c := c) hg hs hZ hff hu h j (by omega)) (hZ _ (by omega))
    have k := Nat.add_le_add_right i 330000
    rw [Nat.add_assoc, ← Nat.mul_succ] at k
    exact Nat.le_trans b k
theorem scB_4 (hg : gOk g) {c : Nat} (hc : c < g.2.2.1) : scB g c0 m c ≤ 4 := by
  have f := hg.2.2.2.2.2.2 c hc
  unfold scB
  split
  · split
    · omega
    · exact Nat.mul_le_mul f.1.2 f.2.2
  · omega
theorem ln_aUn (hl : p.2.1 ≤ 63) (hg : gOk g) (hs : scOk g c0 m) (hZ : ∀ i, i < 64 * gBs g g.2.2.1 → -1024 ≤ Z i ∧ Z i ≤ 1023) (hff : p.1 = 0 → 0 < p.2.1 → p.2.2.1 = 0) (hu : u < scU g c0 m) (h : aIv p.1 p.2.2.1 a) : ∀ c, c ≤ g.2.2.1 → (aUn g c0 m p Z u a c).1.length ≤ a.1.length + 1320000 * c
  | 0, _ => Nat.le_refl _
  | c + 1, hc => by
    have i := ln_aUn hl hg hs hZ hff hu h c (by omega)
    have b := ln_aC (c := c) hl hg hs hZ hff hu (aIv_un hg hs hZ hff hu h c) (scB g c0 m c) (Nat.le_refl _)
    have := scB_4 (c0 := c0) (m := m) hg (c := c) (by omega)
    rw [aUn.eq_2]
    omega
theorem ln_us (hl : p.2.1 ≤ 63) (hg : gOk g) (hs : scOk g c0 m) (hZ : ∀ i, i < 64 * gBs g g.2.2.1 → -1024 ≤ Z i ∧ Z i ≤ 1023) (hff : p.1 = 0 → 0 < p.2.1 → p.2.2.1 = 0) : ∀ u, u ≤ scU g c0 m → (aUs g c0 m p Z iv u).1.length ≤ 5281000 * u
  | 0, _ => Nat.le_refl _
  | u + 1, hu => by
    have i := ln_us hl hg hs hZ hff u (by omega)
    have hI := aIv_us (iv := iv) hg hs hZ hff u (by omega)
    have b := ln_aUn hl hg hs hZ hff (u := u) (by omega) (aIv_rs (t := 4 + c0) (iv := iv) (u := u) hI) g.2.2.1 (Nat.le_refl _)
    have r : (aRs iv (4 + c0) u (aUs g c0 m p Z iv u)).1.length ≤ (aUs g c0 m p Z iv u).1.length + 904 := by
      unfold aRs
      split
      · show (ap [eA (some _)] (ap [eA none] (aSend (4 + c0) (aUs g c0 m p Z iv u)))).1.length ≤ _
        rw [ln_ap, ln_ap]
        have := ln_send (4 + c0) hI.1
        omega
      · omega
    have := hg.2.2.2.2.2.1
    rw [aUs.eq_2]
    omega
theorem ln_all (hl : p.2.1 ≤ 63) (hg : gOk g) (hs : scOk g c0 m) (hZ : ∀ i, i < 64 * gBs g g.2.2.1 → -1024 ≤ Z i ∧ Z i ≤ 1023) (hff : p.1 = 0 → 0 < p.2.1 → p.2.2.1 = 0) : (aAll g c0 m p Z iv).1.length ≤ 1352000000 := by
  have i := ln_us (iv := iv) hl hg hs hZ hff (scU g c0 m) (Nat.le_refl _)
  have hI := aIv_us (iv := iv) hg hs hZ hff (scU g c0 m) (Nat.le_refl _)
  have s := ln_send (4 + c0) hI.1
  have := scU_lt hg hs
  unfold aAll
  rw [ln_ap]
  omega
end
/-- the times of a table's symbols, as the best words want them -/
def fF (E : List ev) (t : Nat) : Nat → Nat := fun s => if s < 256 then cnt E t s else if s = 256 then 1 else 0
theorem fF_256 (E : List ev) (t : Nat) : fF E t 256 = 1 := rfl
theorem fF_lt {E : List ev} {t s : Nat} (h : s < 256) : fF E t s = cnt E t s := if_pos h
theorem fF_ge {E : List ev} {t s : Nat} (h : 257 ≤ s) : fF E t s = 0 := by
  unfold fF
  rw [if_neg (by omega), if_neg (by omega)]
theorem cnt_sum (t : Nat) : ∀ (E : List ev) (n : Nat), sumN (cnt E t) n ≤ E.length := by
  intro E
  induction E with
  | nil =>
    intro n
    induction n with
    | zero => exact Nat.le_refl _
    | succ n ih => rw [sumN.eq_2]; exact ih
  | cons v E ih =>
    intro n
    have e : ∀ s, cnt (v :: E) t s = cnt E t s + if isW t s v = true then 1 else 0 := by
      intro s
      unfold cnt
      rw [List.countP_cons]
    have k : ∀ n, sumN (cnt (v :: E) t) n ≤ sumN (cnt E t) n + 1 ∧ ((∃ s, n ≤ s ∧ isW t s v = true) → sumN (cnt (v :: E) t) n = sumN (cnt E t) n) := by
      intro n
      induction n with
      | zero => exact ⟨Nat.le_succ _, fun _ => rfl⟩
      | succ n ih2 =>
        have u : ∀ s s', isW t s v = true → isW t s' v = true → s = s' := by
          intro s s' h1 h2
          match v with
          | .inl p =>
            have a1 : (p.1 == t && p.2 == s) = true := h1
            have a2 : (p.1 == t && p.2 == s') = true := h2
            rw [Bool.and_eq_true] at a1 a2
            exact (beq_iff_eq.mp a1.2).symm.trans (beq_iff_eq.mp a2.2)
          | .inr _ => exact absurd (show false = true from h1) Bool.false_ne_true
        rw [sumN.eq_2, sumN.eq_2, e n]
        by_cases w : isW t n v = true
        · rw [if_pos w]
          have := ih2.2 ⟨n, Nat.le_refl _, w⟩
          refine ⟨by omega, fun ⟨s, hs, hw⟩ => ?_⟩
          have := u n s w hw
          omega
        · rw [if_neg w]
          refine ⟨by have := ih2.1; omega, fun ⟨s, hs, hw⟩ => ?_⟩
          have := ih2.2 ⟨s, by omega, hw⟩
          omega
    have := (k n).1
    have := ih n
    rw [List.length_cons]
    omega
theorem fF_sum {E : List ev} {t : Nat} (h : E.length ≤ 1352000000) : sumN (fF E t) 257 < 2 ^ 31 := by
  have e : ∀ n, n ≤ 256 → sumN (fF E t) n = sumN (cnt E t) n := by
    intro n
    induction n with
    | zero => intro _; rfl
    | succ n ih =>
      intro hn
      rw [sumN.eq_2, sumN.eq_2, ih (by omega), fF_lt (by omega)]
  rw [show (257 : Nat) = 256 + 1 from rfl, sumN.eq_2, e 256 (Nat.le_refl _), fF_256]
  have := cnt_sum t E 256
  omega
