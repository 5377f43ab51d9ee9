/-! mixCanvas -/
def mxO (q : Nat) (a b c : Int32) : Int32 := mmax 0 (mmin 255 (if q = 0 then a + ((91881 * (c - 128) + 32768) >>> (16 &&& 31)) else if q = 1 then a + (((-22554) * (b - 128) - 46802 * (c - 128) + 32768) >>> (16 &&& 31)) else a + ((116130 * (b - 128) + 32768) >>> (16 &&& 31))))
def mxC (q : Nat) (a b c : Int32) : Int32 := if q = 0 then (19595 * a + 38470 * b + 7471 * c + 32768) >>> (16 &&& 31) else if q = 1 then ((-11059) * a - 21709 * b + 32768 * c + 8421375) >>> (16 &&& 31) else (32768 * a - 27439 * b - 5329 * c + 8421375) >>> (16 &&& 31)
def mxW (q : Nat) (a b c : Int32) : Int32 := if q = 0 then a else if q = 1 then b else c
def mxT (k q : Nat) (a b c d : Int32) : Int32 := if k = 0 then mxO q a b c else if k = 1 then mxC q a b c else if k = 2 then 255 - mxW q a b c else if k = 3 then (mxW q a b c * (255 - d) + 127) / 255 else if k = 4 then mxC 0 a b c else if k = 5 then 255 - mxO q a b c else mxC q (255 - a) (255 - b) (255 - c)
section
variable {X : px_X} {b B : Nat} {w0 w1 : px_W}
theorem m_limit {w : px_W} (z : Int32) : fX15_limit X w z.toInt64 = some (mmax 0 (mmin 255 z), w) := by
  have e0 : (0 : Int32).toInt = 0 := by decide
  have e255 : (255 : Int32).toInt = 255 := by decide
  have l0 : (0 : Int64).toInt = 0 := by decide
  have l255 : (255 : Int64).toInt = 255 := by decide
  have c0 : 0 ≤ lg_cmp z.toInt64 0 ↔ 0 ≤ z.toInt := by rw [lg_cmp_ge, l_le, l0, Int32.toInt_toInt64]
  have c1 : lg_cmp z.toInt64 255 ≤ 0 ↔ z.toInt ≤ 255 := by rw [lg_cmp_le, l_le, l255, Int32.toInt_toInt64]
  unfold fX15_limit mmax mmin
  by_cases h0 : 0 ≤ z.toInt
  · rw [if_pos (c0.mpr h0)]
    by_cases h1 : z.toInt ≤ 255
    · rw [if_pos (c1.mpr h1), Int32.toInt32_toInt64]
      by_cases h2 : z < 255
      · rw [if_pos h2]
        by_cases h3 : 0 < z
        · rw [if_pos h3]
        · rw [if_neg h3]
          rw [i_lt, e0] at h3
          rw [show z = 0 from (i_eq z 0).mpr (by omega)]
      · rw [if_neg h2, if_pos (by decide)]
        rw [i_lt, e255] at h2
        rw [show z = 255 from (i_eq z 255).mpr (by omega)]
    · rw [if_neg (fun e => h1 (c1.mp e)), if_neg (show ¬ z < 255 by rw [i_lt, e255]; omega), if_pos (show (0 : Int32) < 255 by decide)]
  · rw [if_neg (fun e => h0 (c0.mp e)), if_pos (show z < 255 by rw [i_lt, e255]; omega), if_neg (show ¬ 0 < z by rw [i_lt, e0]; omega)]
theorem m_open {w : px_W} {q : Nat} (hq : q < 3) (a b c : Int32) : fX15_openTone X w (nI q) a b c = some (mxO q a b c, w) := by
  unfold fX15_openTone mxO fX15_openTone_84
  rcases (show q = 0 ∨ q = 1 ∨ q = 2 by omega) with rfl | rfl | rfl
  · rw [if_pos nI_0, m_limit, ob_s, if_pos rfl]
  · rw [if_neg (by decide), if_pos (by decide), m_limit, ob_s, if_neg (by decide), if_pos rfl]
  · rw [if_neg (by decide), if_neg (by decide), m_limit, ob_s, if_neg (by decide), if_neg (by decide)]
theorem m_close {w : px_W} {q : Nat} (hq : q < 3) (a b c : Int32) : fX15_closeTone X w (nI q) a b c = some (mxC q a b c, w) := by
  unfold fX15_closeTone mxC
  rcases (show q = 0 ∨ q = 1 ∨ q = 2 by omega) with rfl | rfl | rfl
  · rw [if_pos nI_0, if_pos rfl]
  · rw [if_neg (by decide), if_pos (by decide), if_neg (by decide), if_pos rfl]
  · rw [if_neg (by decide), if_neg (by decide), if_neg (by decide), if_neg (by decide)]
theorem m_tone_ {w : px_W} {k q : Nat} (hk : k < 7) (hq : q < 3) (a b c d : Int32) : fX15_tone_19 X (nI k) (nI q) a b c d (mxW q a b c) w = some (mxT k q a b c d, w) := by
  unfold fX15_tone_19 mxT
  have z : fX15_closeTone X w 0 a b c = some (mxC 0 a b c, w) := m_close (q := 0) (by omega) a b c
  rcases (show k = 0 ∨ k = 1 ∨ k = 2 ∨ k = 3 ∨ k = 4 ∨ k = 5 ∨ k = 6 by omega) with rfl | rfl | rfl | rfl | rfl | rfl | rfl
  · rw [if_pos nI_0, m_open hq, ob_s, if_pos rfl]
  · rw [if_neg (by decide), if_pos (by decide), m_close hq, ob_s, if_neg (by decide), if_pos rfl]
  · rw [if_neg (by decide), if_neg (by decide), if_pos (by decide), if_neg (by decide), if_neg (by decide), if_pos rfl]
  · rw [if_neg (by decide), if_neg (by decide), if_neg (by decide), if_pos (by decide), if_neg (by decide), if_neg (by decide), if_neg (by decide), if_pos rfl]
    unfold dI
    rw [if_neg (by decide), ob_s]
  · rw [if_neg (by decide), if_neg (by decide), if_neg (by decide), if_neg (by decide), if_pos (by decide), if_neg (by decide), if_neg (by decide), if_neg (by decide), if_neg (by decide), if_pos rfl, z, ob_s]
  · rw [if_neg (by decide), if_neg (by decide), if_neg (by decide), if_neg (by decide), if_neg (by decide), if_pos (by decide), if_neg (by decide), if_neg (by decide), if_neg (by decide), if_neg (by decide), if_neg (by decide), if_pos rfl, m_open hq, ob_s]
  · rw [if_neg (by decide), if_neg (by decide), if_neg (by decide), if_neg (by decide), if_neg (by decide), if_neg (by decide), if_neg (by decide), if_neg (by decide), if_neg (by decide), if_neg (by decide), if_neg (by decide), if_neg (by decide), m_close hq, ob_s]
theorem m_tone {w : px_W} {k q : Nat} (hk : k < 7) (hq : q < 3) (a b c d : Int32) : fX15_tone X w (nI k) (nI q) a b c d = some (mxT k q a b c d, w) := by
  rw [← m_tone_ (X := X) (w := w) hk hq]
  unfold fX15_tone
  rcases (show q = 0 ∨ q = 1 ∨ q = 2 by omega) with rfl | rfl | rfl
  · rw [if_pos nI_0]; rfl
  · rw [if_neg (by decide), if_pos (by decide)]; rfl
  · rw [if_neg (by decide), if_neg (by decide)]; rfl
end
theorem mxO_0 (a b c : Int32) : mxO 0 a b c = mmax 0 (mmin 255 (a + ((91881 * (c - 128) + 32768) >>> (16 &&& 31)))) := by
  unfold mxO
  rw [if_pos rfl]
theorem mxO_1 (a b c : Int32) : mxO 1 a b c = mmax 0 (mmin 255 (a + (((-22554) * (b - 128) - 46802 * (c - 128) + 32768) >>> (16 &&& 31)))) := by
  unfold mxO
  rw [if_neg (by decide), if_pos rfl]
theorem mxO_2 (a b c : Int32) : mxO 2 a b c = mmax 0 (mmin 255 (a + ((116130 * (b - 128) + 32768) >>> (16 &&& 31)))) := by
  unfold mxO
  rw [if_neg (by decide), if_neg (by decide)]
theorem mxC_0 (a b c : Int32) : mxC 0 a b c = (19595 * a + 38470 * b + 7471 * c + 32768) >>> (16 &&& 31) := by
  unfold mxC
  rw [if_pos rfl]
theorem mxC_1 (a b c : Int32) : mxC 1 a b c = ((-11059) * a - 21709 * b + 32768 * c + 8421375) >>> (16 &&& 31) := by
  unfold mxC
  rw [if_neg (by decide), if_pos rfl]
theorem mxC_2 (a b c : Int32) : mxC 2 a b c = (32768 * a - 27439 * b - 5329 * c + 8421375) >>> (16 &&& 31) := by
  unfold mxC
  rw [if_neg (by decide), if_neg (by decide)]
theorem mxT_0 (q : Nat) (a b c d : Int32) : mxT 0 q a b c d = mxO q a b c := by unfold mxT; rw [if_pos rfl]
theorem mxT_1 (q : Nat) (a b c d : Int32) : mxT 1 q a b c d = mxC q a b c := by unfold mxT; rw [if_neg (by decide), if_pos rfl]
theorem mxT_2 (q : Nat) (a b c d : Int32) : mxT 2 q a b c d = 255 - mxW q a b c := by unfold mxT; rw [if_neg (by decide), if_neg (by decide), if_pos rfl]
theorem mxT_3 (q : Nat) (a b c d : Int32) : mxT 3 q a b c d = (mxW q a b c * (255 - d) + 127) / 255 := by unfold mxT; rw [if_neg (by decide), if_neg (by decide), if_neg (by decide), if_pos rfl]
theorem mxT_4 (q : Nat) (a b c d : Int32) : mxT 4 q a b c d = mxC 0 a b c := by unfold mxT; rw [if_neg (by decide), if_neg (by decide), if_neg (by decide), if_neg (by decide), if_pos rfl]
theorem mxT_5 (q : Nat) (a b c d : Int32) : mxT 5 q a b c d = 255 - mxO q a b c := by unfold mxT; rw [if_neg (by decide), if_neg (by decide), if_neg (by decide), if_neg (by decide), if_neg (by decide), if_pos rfl]
theorem mxT_6 (q : Nat) (a b c d : Int32) : mxT 6 q a b c d = mxC q (255 - a) (255 - b) (255 - c) := by unfold mxT; rw [if_neg (by decide), if_neg (by decide), if_neg (by decide), if_neg (by decide), if_neg (by decide), if_neg (by decide)]
theorem mxW_0 (a b c : Int32) : mxW 0 a b c = a := rfl
theorem mxW_1 (a b c : Int32) : mxW 1 a b c = b := rfl
theorem mxW_2 (a b c : Int32) : mxW 2 a b c = c := rfl
/-- three samples at a place are written -/
def mx3 (x : rg_S) (i : Nat) (a b c : Int32) : rg_S := rg_wA (rg_wA (rg_wA x 25 (upd (x.2.2.1 25) i a)) 27 (upd (x.2.2.1 27) i b)) 29 (upd (x.2.2.1 29) i c)
theorem upd_upd (f : Nat → Int32) (i : Nat) (a b : Int32) : upd (upd f i a) i b = upd f i b := by
  funext j
  unfold upd
  split <;> rfl
theorem S_ext {s t : rg_S} (h1 : s.1 = t.1) (h2 : s.2.1 = t.2.1) (h3 : ∀ o, s.2.2.1 o = t.2.2.1 o) (h4 : s.2.2.2 = t.2.2.2) : s = t := Prod.ext h1 (Prod.ext h2 (Prod.ext (funext h3) h4))
theorem mx3_A (x : rg_S) (i : Nat) (a b c : Int32) (o : Nat) : (mx3 x i a b c).2.2.1 o = if o = 29 then upd (x.2.2.1 29) i c else if o = 27 then upd (x.2.2.1 27) i b else if o = 25 then upd (x.2.2.1 25) i a else x.2.2.1 o := rfl
theorem mx3_2 (x : rg_S) (i : Nat) (a b c a' b' c' : Int32) : mx3 (mx3 x i a b c) i a' b' c' = mx3 x i a' b' c' := by
  refine S_ext rfl rfl (fun o => ?_) rfl
  simp only [mx3_A, if_true, if_false, reduceIte, Nat.reduceEqDiff, upd_upd]
  by_cases h1 : o = 29
  · rw [if_pos h1, if_pos h1]
  by_cases h2 : o = 27
  · subst h2; simp
  by_cases h3 : o = 25
  · subst h3; simp
  rw [if_neg h1, if_neg h1, if_neg h2, if_neg h2, if_neg h3, if_neg h3, if_neg h1, if_neg h2, if_neg h3]
section
variable {X : px_X} {b B : Nat} {w0 w1 : px_W} {x : rg_S} {i : Nat}
theorem x_pl0 : aQ (rg_p lX B w0 x) 6 (B + 23) 0 = some (B + 24) := x_plane (p := 0) (by decide)
theorem x_pl1 : aQ (rg_p lX B w0 x) 6 (B + 23) 1 = some (B + 26) := x_plane (p := 1) (by decide)
theorem x_pl2 : aQ (rg_p lX B w0 x) 6 (B + 23) 2 = some (B + 28) := x_plane (p := 2) (by decide)
theorem x_pl3 : aQ (rg_p lX B w0 x) 6 (B + 23) 3 = some (B + 30) := x_plane (p := 3) (by decide)
theorem x_setMix (hi : i < 1024) (a c d : Int32) : fX11_setMix X (rg_p lX B w0 x) (B + 0) (nI i) a c d = some (rg_p lX B w0 (mx3 x i a c d)) := by
  unfold fX11_setMix
  refine ob_v (rg_C rfl rfl) (ob_v x_pl0 (ob_v (rg_C rfl rfl) (ob_v (rg_sA _ rfl (by decide) i _ hi (by decide)) ?_)))
  refine ob_v (rg_C rfl rfl) (ob_v x_pl1 (ob_v (rg_C rfl rfl) (ob_v (rg_sA _ rfl (by decide) i _ hi (by decide)) ?_)))
  refine ob_v (rg_C rfl rfl) (ob_v x_pl2 (ob_v (rg_C rfl rfl) (ob_v (rg_sA _ rfl (by decide) i _ hi (by decide)) ?_)))
  rfl
theorem x_grey (hi : i < 1024) : fX11_greyAt X (rg_p lX B w0 x) (B + 0) (nI i) = some (mxC 0 (x.2.2.1 25 i) (x.2.2.1 27 i) (x.2.2.1 29 i), rg_p lX B w0 x) := by
  unfold fX11_greyAt
  refine ob_v (rg_C rfl rfl) (ob_v x_pl0 (ob_v (rg_C rfl rfl) (ob_v (rg_A rfl (by decide) i hi (by decide)) ?_)))
  refine ob_v (rg_C rfl rfl) (ob_v x_pl1 (ob_v (rg_C rfl rfl) (ob_v (rg_A rfl (by decide) i hi (by decide)) ?_)))
  refine ob_v (rg_C rfl rfl) (ob_v x_pl2 (ob_v (rg_C rfl rfl) (ob_v (rg_A rfl (by decide) i hi (by decide)) ?_)))
  unfold mxC
  rw [if_pos rfl]
theorem x_openMix (hi : i < 1024) : fX11_openMix X (rg_p lX B w0 x) (B + 0) (nI i) = some (rg_p lX B w0 (mx3 x i (mxO 0 (x.2.2.1 25 i) (x.2.2.1 27 i) (x.2.2.1 29 i)) (mxO 1 (x.2.2.1 25 i) (x.2.2.1 27 i) (x.2.2.1 29 i)) (mxO 2 (x.2.2.1 25 i) (x.2.2.1 27 i) (x.2.2.1 29 i)))) := by
  unfold fX11_openMix fX11_limit
  refine ob_v (rg_C rfl rfl) (ob_v x_pl0 (ob_v (rg_C rfl rfl) (ob_v (rg_A rfl (by decide) i hi (by decide)) ?_)))
  refine ob_v (rg_C rfl rfl) (ob_v x_pl1 (ob_v (rg_C rfl rfl) (ob_v (rg_A rfl (by decide) i hi (by decide)) ?_)))
  refine ob_v (rg_C rfl rfl) (ob_v x_pl2 (ob_v (rg_C rfl rfl) (ob_v (rg_A rfl (by decide) i hi (by decide)) ?_)))
  rw [ob_s, ob_s, ob_s]
  refine ob_v (rg_O rfl) ?_
  rw [x_setMix hi, ob_s, mxO_0, mxO_1, mxO_2]
theorem x_closeMix (hi : i < 1024) : fX11_closeMix X (rg_p lX B w0 x) (B + 0) (nI i) = some (rg_p lX B w0 (mx3 x i (mxC 0 (x.2.2.1 25 i) (x.2.2.1 27 i) (x.2.2.1 29 i)) (mxC 1 (x.2.2.1 25 i) (x.2.2.1 27 i) (x.2.2.1 29 i)) (mxC 2 (x.2.2.1 25 i) (x.2.2.1 27 i) (x.2.2.1 29 i)))) := by
  unfold fX11_closeMix
  refine ob_v (rg_C rfl rfl) (ob_v x_pl0 (ob_v (rg_C rfl rfl) (ob_v (rg_A rfl (by decide) i hi (by decide)) ?_)))
  refine ob_v (rg_C rfl rfl) (ob_v x_pl1 (ob_v (rg_C rfl rfl) (ob_v (rg_A rfl (by decide) i hi (by decide)) ?_)))
  refine ob_v (rg_C rfl rfl) (ob_v x_pl2 (ob_v (rg_C rfl rfl) (ob_v (rg_A rfl (by decide) i hi (by decide)) ?_)))
  refine ob_v (rg_O rfl) ?_
  rw [x_grey hi, ob_s]
  refine ob_v (rg_O rfl) ?_
  rw [x_setMix hi, ob_s, mxC_1, mxC_2]
theorem x_invertMix (hi : i < 1024) : fX11_invertMix X (rg_p lX B w0 x) (B + 0) (nI i) = some (rg_p lX B w0 (mx3 x i (255 - x.2.2.1 25 i) (255 - x.2.2.1 27 i) (255 - x.2.2.1 29 i))) := by
  unfold fX11_invertMix
  refine ob_v (rg_C rfl rfl) (ob_v x_pl0 (ob_v (rg_C rfl rfl) (ob_v (rg_A rfl (by decide) i hi (by decide)) ?_)))
  refine ob_v (rg_C rfl rfl) (ob_v x_pl1 (ob_v (rg_C rfl rfl) (ob_v (rg_A rfl (by decide) i hi (by decide)) ?_)))
  refine ob_v (rg_C rfl rfl) (ob_v x_pl2 (ob_v (rg_C rfl rfl) (ob_v (rg_A rfl (by decide) i hi (by decide)) ?_)))
  refine ob_v (rg_O rfl) ?_
  rw [x_setMix hi, ob_s]
theorem x_darkenMix (hi : i < 1024) : fX11_darkenMix X (rg_p lX B w0 x) (B + 0) (nI i) = some (rg_p lX B w0 (mx3 x i ((x.2.2.1 25 i * (255 - x.2.2.1 31 i) + 127) / 255) ((x.2.2.1 27 i * (255 - x.2.2.1 31 i) + 127) / 255) ((x.2.2.1 29 i * (255 - x.2.2.1 31 i) + 127) / 255))) := by
  have d255 : ∀ z : Int32, dI z 255 = some (z / 255) := fun z => by unfold dI; rw [if_neg (by decide)]
  unfold fX11_darkenMix
  refine ob_v (rg_C rfl rfl) (ob_v x_pl3 (ob_v (rg_C rfl rfl) (ob_v (rg_A rfl (by decide) i hi (by decide)) ?_)))
  refine ob_v (rg_C rfl rfl) (ob_v x_pl0 (ob_v (rg_C rfl rfl) (ob_v (rg_A rfl (by decide) i hi (by decide)) (ob_v (d255 _) ?_))))
  refine ob_v (rg_C rfl rfl) (ob_v x_pl1 (ob_v (rg_C rfl rfl) (ob_v (rg_A rfl (by decide) i hi (by decide)) (ob_v (d255 _) ?_))))
  refine ob_v (rg_C rfl rfl) (ob_v x_pl2 (ob_v (rg_C rfl rfl) (ob_v (rg_A rfl (by decide) i hi (by decide)) (ob_v (d255 _) ?_))))
  refine ob_v (rg_O rfl) ?_
  rw [x_setMix hi, ob_s]
theorem x_mixPlace {k : Nat} (hk : k < 7) (hi : i < 1024) : fX11_mixPlace X (rg_p lX B w0 x) (B + 0) (nI k) (nI i) = some (rg_p lX B w0 (mx3 x i (mxT k 0 (x.2.2.1 25 i) (x.2.2.1 27 i) (x.2.2.1 29 i) (x.2.2.1 31 i)) (mxT k 1 (x.2.2.1 25 i) (x.2.2.1 27 i) (x.2.2.1 29 i) (x.2.2.1 31 i)) (mxT k 2 (x.2.2.1 25 i) (x.2.2.1 27 i) (x.2.2.1 29 i) (x.2.2.1 31 i)))) := by
  have us : ∀ (f : Nat → Int32) (a : Int32), upd f i a i = a := fun f a => if_pos rfl
  unfold fX11_mixPlace
  rcases (show k = 0 ∨ k = 1 ∨ k = 2 ∨ k = 3 ∨ k = 4 ∨ k = 5 ∨ k = 6 by omega) with rfl | rfl | rfl | rfl | rfl | rfl | rfl
  · rw [if_pos nI_0]
    refine ob_v (rg_O rfl) ?_
    rw [x_openMix hi, ob_s, mxT_0, mxT_0, mxT_0]
  · rw [if_neg (by decide), if_pos (by decide)]
    refine ob_v (rg_O rfl) ?_
    rw [x_closeMix hi, ob_s, mxT_1, mxT_1, mxT_1]
  · rw [if_neg (by decide), if_neg (by decide), if_pos (by decide)]
    refine ob_v (rg_O rfl) ?_
    rw [x_invertMix hi, ob_s, mxT_2, mxT_2, mxT_2, mxW_0, mxW_1, mxW_2]
  · rw [if_neg (by decide), if_neg (by decide), if_neg (by decide), if_pos (by decide)]
    refine ob_v (rg_O rfl) ?_
    rw [x_darkenMix hi, ob_s, mxT_3, mxT_3, mxT_3, mxW_0, mxW_1, mxW_2]
  · rw [if_neg (by decide), if_neg (by decide), if_neg (by decide), if_neg (by decide), if_pos (by decide)]
    refine ob_v (rg_O rfl) ?_
    rw [x_grey hi, ob_s]
    refine ob_v (rg_O rfl) ?_
    rw [x_setMix hi, ob_s, mxT_4, mxT_4, mxT_4]
  · rw [if_neg (by decide), if_neg (by decide), if_neg (by decide), if_neg (by decide), if_neg (by decide), if_pos (by decide)]
    refine ob_v (rg_O rfl) ?_
    rw [x_openMix hi, ob_s]
    refine ob_v (rg_O rfl) ?_
    rw [x_invertMix hi, ob_s, mx3_2, mxT_5, mxT_5, mxT_5]
    simp only [mx3_A, if_true, if_false, reduceIte, Nat.reduceEqDiff, us]
  · rw [if_neg (by decide), if_neg (by decide), if_neg (by decide), if_neg (by decide), if_neg (by decide), if_neg (by decide)]
    refine ob_v (rg_O rfl) ?_
    rw [x_invertMix hi, ob_s]
    refine ob_v (rg_O rfl) ?_
    rw [x_closeMix hi, ob_s, mx3_2, mxT_6, mxT_6, mxT_6]
    simp only [mx3_A, if_true, if_false, reduceIte, Nat.reduceEqDiff, us]
end
