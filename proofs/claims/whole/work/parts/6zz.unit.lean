/-! units of a scan, pure: which blocks, in which order -/
def gOA (g : gG) (c : Nat) : Nat := gUp (gUp (g.1 * g.2.2.2.1 c) (gH g)) 8
def gOD (g : gG) (c : Nat) : Nat := gUp (gUp (g.2.1 * g.2.2.2.2 c) (gV_ g)) 8
theorem oa_le {w h m : Nat} (hw : 1 ≤ w) (hw2 : w ≤ 64) (h1 : 1 ≤ h) (h2 : h ≤ m) (h3 : m ≤ 2) : 1 ≤ gUp (gUp (w * h) m) 8 ∧ gUp (gUp (w * h) m) 8 ≤ gUp w (8 * m) * h := by
  unfold gUp
  rcases (show m = 1 ∨ m = 2 by omega) with rfl | rfl
  · obtain rfl : h = 1 := by omega
    omega
  · rcases (show h = 1 ∨ h = 2 by omega) with rfl | rfl
    · omega
    · omega
theorem gOk.oa {g : gG} (h : gOk g) {c : Nat} (hc : c < g.2.2.1) : 1 ≤ gOA g c ∧ gOA g c ≤ gAc g c := oa_le h.1 h.2.1 (h.2.2.2.2.2.2 c hc).1.1 (gMx_ge hc) h.h.2
theorem gOk.od {g : gG} (h : gOk g) {c : Nat} (hc : c < g.2.2.1) : 1 ≤ gOD g c ∧ gOD g c ≤ gDn g c := oa_le h.2.2.1 h.2.2.2.1 (h.2.2.2.2.2.2 c hc).2.1 (gMx_ge hc) h.v.2
/-- how many blocks of a component lie in a unit; which one; how many units -/
def scB (g : gG) (c0 m c : Nat) : Nat := if c0 ≤ c ∧ c < c0 + m then (if m = 1 then 1 else g.2.2.2.1 c * g.2.2.2.2 c) else 0
def scQ (g : gG) (m u c j : Nat) : Nat := if m = 1 then u / gOA g c * gAc g c + u % gOA g c else (u / gUA g * g.2.2.2.2 c + j / g.2.2.2.1 c) * gAc g c + (u % gUA g * g.2.2.2.1 c + j % g.2.2.2.1 c)
def scU (g : gG) (c0 m : Nat) : Nat := if m = 1 then gOA g c0 * gOD g c0 else gUA g * gUD g
/-- which scans there are: of one component, or of all -/
def scOk (g : gG) (c0 m : Nat) : Prop := m = 1 ∧ c0 < g.2.2.1 ∨ m ≠ 1 ∧ c0 = 0 ∧ m = g.2.2.1
theorem rc_lt {i j A D : Nat} (hi : i < D) (hj : j < A) : i * A + j < A * D := by
  have := Nat.mul_le_mul_right A (Nat.succ_le_of_lt hi)
  rw [Nat.succ_mul, Nat.mul_comm D A] at this
  omega
theorem rc_lt' {i j A D : Nat} (hi : i < D) (hj : j < A) : i * A + j < D * A := by
  rw [Nat.mul_comm D A]
  exact rc_lt hi hj
theorem scQ_lt {g : gG} {c0 m u c j : Nat} (hg : gOk g) (hs : scOk g c0 m) (hu : u < scU g c0 m) (hj : j < scB g c0 m c) : c < g.2.2.1 ∧ gBs g c + scQ g m u c j < gBs g g.2.2.1 := by
  have hc : c < g.2.2.1 := by
    unfold scB at hj
    unfold scOk at hs
    split at hj
    · omega
    · omega
  refine ⟨hc, ?_⟩
  have hb := gBs_mono (g := g) (c := c + 1) (d := g.2.2.1) (by omega)
  have hbs : gBs g (c + 1) = gBs g c + gAc g c * gDn g c := rfl
  have key : scQ g m u c j < gAc g c * gDn g c := by
    unfold scQ
    unfold scU at hu
    unfold scB at hj
    by_cases m1 : m = 1
    · rw [if_pos m1] at hu ⊢
      rw [if_pos m1] at hj
      have e : c = c0 := by
        split at hj
        · omega
        · omega
      rw [← e] at hu
      have oa := hg.oa hc
      have od := hg.od hc
      have u1 : u / gOA g c < gOD g c := (Nat.div_lt_iff_lt_mul (by omega)).mpr (by rw [Nat.mul_comm]; exact hu)
      have u2 := Nat.mod_lt u (show 0 < gOA g c by omega)
      exact rc_lt (by omega) (by omega)
    · rw [if_neg m1] at hu ⊢
      rw [if_neg m1] at hj
      have hj' : j < g.2.2.2.1 c * g.2.2.2.2 c := by
        split at hj
        · exact hj
        · omega
      have f := hg.2.2.2.2.2.2 c hc
      have ua := hg.ua
      have ud := hg.ud
      have u1 : u / gUA g < gUD g := (Nat.div_lt_iff_lt_mul (by omega)).mpr (by rw [Nat.mul_comm]; exact hu)
      have u2 := Nat.mod_lt u (show 0 < gUA g by omega)
      have j1 : j / g.2.2.2.1 c < g.2.2.2.2 c := (Nat.div_lt_iff_lt_mul (by omega)).mpr (by rw [Nat.mul_comm]; exact hj')
      have j2 := Nat.mod_lt j (show 0 < g.2.2.2.1 c by omega)
      refine rc_lt ?_ ?_
      · exact rc_lt' u1 j1
      · exact rc_lt' u2 j2
  omega
/-- first, last, before, bits -/
abbrev scP : Type := Nat × Nat × Nat × Nat
def aC (g : gG) (m : Nat) (p : scP) (Z : Nat → Int) (u c : Nat) (a : aS) : Nat → aS
  | 0 => a
  | j + 1 => aBlk p.1 p.2.1 p.2.2.1 p.2.2.2 c (fun k => Z (64 * (gBs g c + scQ g m u c j) + k)) (aC g m p Z u c a j)
def aUn (g : gG) (c0 m : Nat) (p : scP) (Z : Nat → Int) (u : Nat) (a : aS) : Nat → aS
  | 0 => a
  | c + 1 => aC g m p Z u c (aUn g c0 m p Z u a c) (scB g c0 m c)
def aZr (a : aS) : aS := (a.1, a.2.1, a.2.2.1, a.2.2.2.1, fun _ => 0)
def rsA (iv u : Nat) : Prop := 0 < iv ∧ 0 < u ∧ u % iv = 0
def aMk (iv t u : Nat) (a : aS) : aS := aZr (ap [eA (some (208 + (u / iv - 1) % 8))] (ap [eA none] (aSend t a)))
def aRs (iv t u : Nat) (a : aS) : aS := if 0 < iv ∧ 0 < u ∧ u % iv = 0 then aMk iv t u a else a
def a00 : aS := ([], 0, [], [], fun _ => 0)
def aUs (g : gG) (c0 m : Nat) (p : scP) (Z : Nat → Int) (iv : Nat) : Nat → aS
  | 0 => a00
  | u + 1 => aUn g c0 m p Z u (aRs iv (4 + c0) u (aUs g c0 m p Z iv u)) g.2.2.1
def aAll (g : gG) (c0 m : Nat) (p : scP) (Z : Nat → Int) (iv : Nat) : aS := ap [eA none] (aSend (4 + c0) (aUs g c0 m p Z iv (scU g c0 m)))
section
variable {g : gG} {c0 m : Nat} {p : scP} {Z : Nat → Int} {iv u t : Nat} {a : aS}
theorem gr_aC (c i : Nat) : ∀ j, gr (aC g m p Z u c a i) (aC g m p Z u c a (i + j))
  | 0 => gr.rfl
  | j + 1 => (gr_aC c i j).trans (gr_blk _ _ _ _ _ _ _)
theorem gr_aC0 (c j : Nat) : gr a (aC g m p Z u c a j) := by
  have := gr_aC (g := g) (m := m) (p := p) (Z := Z) (u := u) (a := a) c 0 j
  rw [Nat.zero_add] at this
  exact this
theorem gr_aUn (i : Nat) : ∀ j, gr (aUn g c0 m p Z u a i) (aUn g c0 m p Z u a (i + j))
  | 0 => gr.rfl
  | j + 1 => (gr_aUn i j).trans (gr_aC0 _ _)
theorem gr_mk : gr a (aMk iv t u a) := (gr_send t a).trans ((gr_ap _ _).trans (gr_ap _ _))
theorem gr_rs : gr a (aRs iv t u a) := by
  unfold aRs
  split
  · exact gr_mk
  · exact gr.rfl
theorem gr_aUn0 (c : Nat) : gr a (aUn g c0 m p Z u a c) := by
  have := gr_aUn (g := g) (c0 := c0) (m := m) (p := p) (Z := Z) (u := u) (a := a) 0 c
  rw [Nat.zero_add] at this
  exact this
theorem gr_us (i : Nat) : ∀ j, gr (aUs g c0 m p Z iv i) (aUs g c0 m p Z iv (i + j))
  | 0 => gr.rfl
  | j + 1 => (gr_us i j).trans (gr_rs.trans (gr_aUn0 _))
theorem aIv_c (hg : gOk g) (hs : scOk g c0 m) (hZ : ∀ i, i < 64 * gBs g g.2.2.1 → -1024 ≤ Z i ∧ Z i ≤ 1023) (hff : p.1 = 0 → 0 < p.2.1 → p.2.2.1 = 0) (hu : u < scU g c0 m) {c : Nat} (h : aIv p.1 p.2.2.1 a) : ∀ j, j ≤ scB g c0 m c → aIv p.1 p.2.2.1 (aC g m p Z u c a j)
  | 0, _ => h
  | j + 1, hj => by
    have q := (scQ_lt hg hs hu (show j < scB g c0 m c by omega)).2
    exact aIv_blk (aIv_c hg hs hZ hff hu h j (by omega)) (hZ _ (by omega)) hff
theorem aIv_un (hg : gOk g) (hs : scOk g c0 m) (hZ : ∀ i, i < 64 * gBs g g.2.2.1 → -1024 ≤ Z i ∧ Z i ≤ 1023) (hff : p.1 = 0 → 0 < p.2.1 → p.2.2.1 = 0) (hu : u < scU g c0 m) (h : aIv p.1 p.2.2.1 a) : ∀ c, aIv p.1 p.2.2.1 (aUn g c0 m p Z u a c)
  | 0 => h
  | c + 1 => aIv_c hg hs hZ hff hu (aIv_un hg hs hZ hff hu h c) _ (Nat.le_refl _)
theorem aIv_send {first bf : Nat} (h : aIv first bf a) : aIv first bf (aSend t a) := ⟨aB_send t h.1, fun _ => sd_r, fun e => sd_b (h.2.2 e)⟩
theorem aIv_rs {first bf : Nat} (h : aIv first bf a) : aIv first bf (aRs iv t u a) := by
  unfold aRs
  split
  · have h1 := aIv_send (t := t) h
    exact ⟨⟨h1.1.1, h1.1.2.1, h1.1.2.2.1, h1.1.2.2.2.1, h1.1.2.2.2.2.1, fun _ => (show (0 : Int).natAbs ≤ 1024 by decide)⟩, h1.2⟩
  · exact h
theorem aIv_00 {first bf : Nat} : aIv first bf a00 := ⟨⟨Nat.zero_le _, Nat.zero_le _, Nat.zero_le _, fun _ h => (by cases h), fun _ h => (by cases h), fun _ => (show (0 : Int).natAbs ≤ 1024 by decide)⟩, fun _ => rfl, fun _ => rfl⟩
theorem aIv_us (hg : gOk g) (hs : scOk g c0 m) (hZ : ∀ i, i < 64 * gBs g g.2.2.1 → -1024 ≤ Z i ∧ Z i ≤ 1023) (hff : p.1 = 0 → 0 < p.2.1 → p.2.2.1 = 0) : ∀ u, u ≤ scU g c0 m → aIv p.1 p.2.2.1 (aUs g c0 m p Z iv u)
  | 0, _ => aIv_00
  | u + 1, hu => aIv_un hg hs hZ hff (by omega) (aIv_rs (aIv_us hg hs hZ hff u (by omega))) _
end
