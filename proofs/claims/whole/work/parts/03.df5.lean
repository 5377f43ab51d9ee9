def fX15_saveScan_220 (X : px_X)  (a0 : Nat) (a1 : Int32) (a2 : Int32) (a3 : Int32) (a4 : Int32) (a5 : Int32) (a10 : Int32) (w : px_W) : Option (px_W) :=
  (gO w a0 15).bind fun o70 =>
  (fX15_begin X w a0 218 (4 + (2 * a10))).bind fun q71 =>
  (gO q71 a0 15).bind fun o72 =>
  (fX15_put X q71 a0 a10).bind fun q73 =>
  fX15_saveScan_242 X  FU a0 a1 a2 a3 a4 a5 0 q73
def fX15_saveScan_171 (X : px_X)  : Nat → Nat → Int32 → Int32 → Int32 → Int32 → Int32 → Int32 → Int32 → Int32 → px_W → Option (px_W)
  | 0, _, _, _, _, _, _, _, _, _, _ => none
  | m + 1, a0, a1, a2, a3, a4, a5, a8, a10, a11, w =>
    if 8 ≤ a11 then (
      fX15_saveScan_220 X  a0 a1 a2 a3 a4 a5 a10 w
    ) else (
      (rI a11 4).bind fun v75 =>
      if ((a1 >>> (v75 &&& 31)) &&& 1) = 1 then (
        if 4 ≤ a11 then (
          if a3 ≤ 0 then (
            fX15_saveScan_214 X (fX15_saveScan_171 X  m) a0 a1 a2 a3 a4 a5 a8 a10 a11 w
          ) else (
            fX15_saveScan_208 X (fX15_saveScan_171 X  m) a0 a1 a2 a3 a4 a5 a8 a10 a11 w
          )
        ) else (
          if a8 = 0 then (
            fX15_saveScan_214 X (fX15_saveScan_171 X  m) a0 a1 a2 a3 a4 a5 a8 a10 a11 w
          ) else (
            fX15_saveScan_208 X (fX15_saveScan_171 X  m) a0 a1 a2 a3 a4 a5 a8 a10 a11 w
          )
        )
      ) else (
        fX15_saveScan_214 X (fX15_saveScan_171 X  m) a0 a1 a2 a3 a4 a5 a8 a10 a11 w
      )
    )
def fX15_saveScan_168 (X : px_X)  (a0 : Nat) (a1 : Int32) (a2 : Int32) (a3 : Int32) (a4 : Int32) (a5 : Int32) (a8 : Int32) (a10 : Int32) (w : px_W) : Option (px_W) :=
  fX15_saveScan_171 X  FU a0 a1 a2 a3 a4 a5 a8 a10 0 w
def fX15_saveScan_154 (X : px_X)  (a0 : Nat) (a1 : Int32) (a2 : Int32) (a3 : Int32) (a4 : Int32) (a5 : Int32) (a8 : Int32) (a9 : Int32) (a10 : Int32) (w : px_W) : Option (px_W) :=
  if a9 ≤ 0 then (
    fX15_saveScan_168 X  a0 a1 a2 a3 a4 a5 a8 a10 w
  ) else (
    (gO w a0 15).bind fun o81 =>
    (fX15_begin X w a0 196 a9).bind fun q82 =>
    fX15_saveScan_168 X  a0 a1 a2 a3 a4 a5 a8 a10 q82
  )
def fX15_saveScan_145 (X : px_X) (k50 : Nat → Int32 → Int32 → Int32 → Int32 → Int32 → Int32 → Int32 → Int32 → Int32 → px_W → Option (px_W)) (a0 : Nat) (a1 : Int32) (a2 : Int32) (a3 : Int32) (a4 : Int32) (a5 : Int32) (a8 : Int32) (a10 : Int32) (a11 : Int32) (s0 : Int32) (s1 : Int32) (w : px_W) : Option (px_W) :=
  k50 a0 a1 a2 a3 a4 a5 a8 (s1 + s0) a10 (a11 + 1) w
def fX15_saveScan_144 (X : px_X) (k50 : Nat → Int32 → Int32 → Int32 → Int32 → Int32 → Int32 → Int32 → Int32 → Int32 → px_W → Option (px_W)) (a0 : Nat) (a1 : Int32) (a2 : Int32) (a3 : Int32) (a4 : Int32) (a5 : Int32) (a8 : Int32) (a10 : Int32) (a11 : Int32) (s0 : Int32) (w : px_W) : Option (px_W) :=
  fX15_saveScan_145 X k50 a0 a1 a2 a3 a4 a5 a8 a10 a11 0 s0 w
def fX15_saveScan_116 (X : px_X) (k50 : Nat → Int32 → Int32 → Int32 → Int32 → Int32 → Int32 → Int32 → Int32 → Int32 → px_W → Option (px_W)) (a0 : Nat) (a1 : Int32) (a2 : Int32) (a3 : Int32) (a4 : Int32) (a5 : Int32) (a8 : Int32) (a10 : Int32) (a11 : Int32) (a12 : Int32) (s0 : Int32) (s1 : Int32) (w : px_W) : Option (px_W) :=
  if a12 = 0 then (
    fX15_saveScan_144 X k50 a0 a1 a2 a3 a4 a5 a8 a10 a11 (s1 + s0) w
  ) else (
    if a3 ≤ 0 then (
      fX15_saveScan_144 X k50 a0 a1 a2 a3 a4 a5 a8 a10 a11 (s1 + s0) w
    ) else (
      (gO w a0 15).bind fun o85 =>
      (fX15_distinct X w a0 (4 + a11)).bind fun q86 =>
      fX15_saveScan_145 X k50 a0 a1 a2 a3 a4 a5 a8 a10 a11 (17 + q86.1) (s1 + s0) q86.2
    )
  )
def fX15_saveScan_115 (X : px_X) (k50 : Nat → Int32 → Int32 → Int32 → Int32 → Int32 → Int32 → Int32 → Int32 → Int32 → px_W → Option (px_W)) (a0 : Nat) (a1 : Int32) (a2 : Int32) (a3 : Int32) (a4 : Int32) (a5 : Int32) (a8 : Int32) (a10 : Int32) (a11 : Int32) (a12 : Int32) (s0 : Int32) (w : px_W) : Option (px_W) :=
  fX15_saveScan_116 X k50 a0 a1 a2 a3 a4 a5 a8 a10 a11 a12 0 s0 w
def fX15_saveScan_88 (X : px_X) (k50 : Nat → Int32 → Int32 → Int32 → Int32 → Int32 → Int32 → Int32 → Int32 → Int32 → px_W → Option (px_W)) (a0 : Nat) (a1 : Int32) (a2 : Int32) (a3 : Int32) (a4 : Int32) (a5 : Int32) (a8 : Int32) (a9 : Int32) (a11 : Int32) (a12 : Int32) (s0 : Int32) (s1 : Int32) (w : px_W) : Option (px_W) :=
  if a12 = 0 then (
    fX15_saveScan_115 X k50 a0 a1 a2 a3 a4 a5 a8 (s1 + s0) a11 a12 a9 w
  ) else (
    if a8 = 0 then (
      fX15_saveScan_115 X k50 a0 a1 a2 a3 a4 a5 a8 (s1 + s0) a11 a12 a9 w
    ) else (
      (gO w a0 15).bind fun o89 =>
      (fX15_distinct X w a0 a11).bind fun q90 =>
      fX15_saveScan_116 X k50 a0 a1 a2 a3 a4 a5 a8 (s1 + s0) a11 a12 (17 + q90.1) a9 q90.2
    )
  )
def fX15_saveScan_74 (X : px_X) (k50 : Nat → Int32 → Int32 → Int32 → Int32 → Int32 → Int32 → Int32 → Int32 → Int32 → px_W → Option (px_W)) (a0 : Nat) (a1 : Int32) (a2 : Int32) (a3 : Int32) (a4 : Int32) (a5 : Int32) (a8 : Int32) (a9 : Int32) (a10 : Int32) (a11 : Int32) (s0 : Int32) (w : px_W) : Option (px_W) :=
  if s0 = 0 then (
    fX15_saveScan_88 X k50 a0 a1 a2 a3 a4 a5 a8 a9 a11 s0 0 a10 w
  ) else (
    fX15_saveScan_88 X k50 a0 a1 a2 a3 a4 a5 a8 a9 a11 s0 1 a10 w
  )
def fX15_saveScan_50 (X : px_X)  : Nat → Nat → Int32 → Int32 → Int32 → Int32 → Int32 → Int32 → Int32 → Int32 → Int32 → px_W → Option (px_W)
  | 0, _, _, _, _, _, _, _, _, _, _, _ => none
  | m + 1, a0, a1, a2, a3, a4, a5, a8, a9, a10, a11, w =>
    (gI w a0 15 20).bind fun v92 =>
    if v92 ≤ a11 then (
      fX15_saveScan_154 X  a0 a1 a2 a3 a4 a5 a8 a9 a10 w
    ) else (
      if ((a1 >>> (a11 &&& 31)) &&& 1) = 1 then (
        fX15_saveScan_74 X (fX15_saveScan_50 X  m) a0 a1 a2 a3 a4 a5 a8 a9 a10 a11 1 w
      ) else (
        fX15_saveScan_74 X (fX15_saveScan_50 X  m) a0 a1 a2 a3 a4 a5 a8 a9 a10 a11 0 w
      )
    )
def fX15_saveScan_39 (X : px_X)  (a0 : Nat) (a1 : Int32) (a2 : Int32) (a3 : Int32) (a4 : Int32) (a5 : Int32) (s0 : Int32) (w : px_W) : Option (px_W) :=
  fX15_saveScan_50 X  FU a0 a1 a2 a3 a4 a5 s0 0 0 0 w
def fX15_saveScan_38 (X : px_X)  (a0 : Nat) (a1 : Int32) (a2 : Int32) (a3 : Int32) (a4 : Int32) (a5 : Int32) (w : px_W) : Option (px_W) :=
  fX15_saveScan_39 X  a0 a1 a2 a3 a4 a5 0 w
def fX15_saveScan (X : px_X) (w : px_W) (a0 : Nat) (a1 : Int32) (a2 : Int32) (a3 : Int32) (a4 : Int32) (a5 : Int32) : Option (px_W) :=
  (gR w a0 15 13).bind fun v95 =>
  (gO w v95 13).bind fun o96 =>
  (fX13_scan X w v95 a1 a2 a3 a4 a5).bind fun q97 =>
  (gR q97.2 a0 15 13).bind fun v98 =>
  (gO q97.2 v98 13).bind fun o99 =>
  (fX13_tally X q97.2 v98).bind fun q100 =>
  if a2 = 0 then (
    if a4 = 0 then (
      fX15_saveScan_39 X  a0 a1 a2 a3 a4 a5 1 q100.2
    ) else (
      fX15_saveScan_38 X  a0 a1 a2 a3 a4 a5 q100.2
    )
  ) else (
    fX15_saveScan_38 X  a0 a1 a2 a3 a4 a5 q100.2
  )
def fX15_saveEach_3 (X : px_X)  : Nat → Nat → Int32 → Int32 → Int32 → Int32 → Int32 → px_W → Option (px_W)
  | 0, _, _, _, _, _, _, _ => none
  | m + 1, a0, a1, a2, a3, a4, a5, w =>
    (gI w a0 15 20).bind fun v4 =>
    if v4 ≤ a5 then (
      some w
    ) else (
      (gO w a0 15).bind fun o6 =>
      (fX15_saveScan X w a0 ((1 : Int32) <<< (a5 &&& 31)) a1 a2 a3 a4).bind fun q7 =>
      fX15_saveEach_3 X  m a0 a1 a2 a3 a4 (a5 + 1) q7
    )
def fX15_saveEach (X : px_X) (w : px_W) (a0 : Nat) (a1 : Int32) (a2 : Int32) (a3 : Int32) (a4 : Int32) : Option (px_W) :=
  fX15_saveEach_3 X  FU a0 a1 a2 a3 a4 0 w
def fX15_saveAll_56 (X : px_X)  (a0 : Nat) (a1 : Int32) (a2 : Int32) (a3 : Int32) (w : px_W) : Option (px_W) :=
  (gI w a0 15 20).bind fun v12 =>
  (gO w a0 15).bind fun o13 =>
  (fX15_saveScan X w a0 (((1 : Int32) <<< (v12 &&& 31)) - 1) 0 a1 a2 a3).bind fun q14 =>
  some q14
def fX15_saveAll_41 (X : px_X)  (a0 : Nat) (a1 : Int32) (a2 : Int32) (a3 : Int32) (a4 : Int32) (w : px_W) : Option (px_W) :=
  (gI w a0 15 20).bind fun v15 =>
  if v15 = 1 then (
    fX15_saveAll_56 X  a0 a1 a2 a3 w
  ) else (
    if 10 < a4 then (
      (gO w a0 15).bind fun o18 =>
      (fX15_saveEach X w a0 0 a1 a2 a3).bind fun q19 =>
      some q19
    ) else (
      fX15_saveAll_56 X  a0 a1 a2 a3 w
    )
  )
def fX15_saveAll_6 (X : px_X)  : Nat → Nat → Int32 → Int32 → Int32 → Int32 → Int32 → px_W → Option (px_W)
  | 0, _, _, _, _, _, _, _ => none
  | m + 1, a0, a1, a2, a3, a4, a5, w =>
    (gI w a0 15 20).bind fun v20 =>
    if v20 ≤ a5 then (
      fX15_saveAll_41 X  a0 a1 a2 a3 a4 w
    ) else (
      (gR w a0 15 21).bind fun v22 =>
      (aN w 0 v22 a5).bind fun v23 =>
      (gR w a0 15 22).bind fun v24 =>
      (aN w 0 v24 a5).bind fun v25 =>
      fX15_saveAll_6 X  m a0 a1 a2 a3 (a4 + (v23 * v25)) (a5 + 1) w
    )
def fX15_saveAll (X : px_X) (w : px_W) (a0 : Nat) (a1 : Int32) (a2 : Int32) (a3 : Int32) : Option (px_W) :=
  fX15_saveAll_6 X  FU a0 a1 a2 a3 0 0 w
def fX15_saveTables_58 (X : px_X) (k16 : Nat → Int32 → px_W → Option (px_W)) (a0 : Nat) (a1 : Int32) (w : px_W) : Option (px_W) :=
  k16 a0 (a1 + 1) w
def fX15_saveTables_31 (X : px_X) (k16 : Nat → Int32 → px_W → Option (px_W)) : Nat → Nat → Int32 → Int32 → px_W → Option (px_W)
  | 0, _, _, _, _ => none
  | m + 1, a0, a1, a2, w =>
    if 64 ≤ a2 then (
      fX15_saveTables_58 X k16 a0 a1 w
    ) else (
      (gR w a0 15 30).bind fun v12 =>
      (aN w 0 v12 ((64 * a1) + a2)).bind fun v13 =>
      (gO w a0 15).bind fun o14 =>
      (fX15_put X w a0 v13).bind fun q15 =>
      fX15_saveTables_31 X k16 m a0 a1 (a2 + 1) q15
    )
def fX15_saveTables_16 (X : px_X)  : Nat → Nat → Int32 → px_W → Option (px_W)
  | 0, _, _, _ => none
  | m + 1, a0, a1, w =>
    (gI w a0 15 20).bind fun v16 =>
    if v16 ≤ a1 then (
      some w
    ) else (
      (gO w a0 15).bind fun o18 =>
      (fX15_put X w a0 a1).bind fun q19 =>
      fX15_saveTables_31 X (fX15_saveTables_16 X  m) FU a0 a1 0 q19
    )
def fX15_saveTables (X : px_X) (w : px_W) (a0 : Nat) : Option (px_W) :=
  (gI w a0 15 20).bind fun v20 =>
  (gO w a0 15).bind fun o21 =>
  (fX15_begin X w a0 219 (65 * v20)).bind fun q22 =>
  fX15_saveTables_16 X  FU a0 0 q22
def fX15_saveAs_441 (X : px_X)  (a0 : Nat) (w : px_W) : Option (Int32 × px_W) :=
  (gI w a0 15 3).bind fun v88 =>
  some (v88, w)
def fX15_saveAs_412 (X : px_X)  : Nat → Nat → Int32 → px_W → Option (Int32 × px_W)
  | 0, _, _, _ => none
  | m + 1, a0, a4, w =>
    (gI w a0 15 5).bind fun v89 =>
    if v89 ≤ a4 then (
      fX15_saveAs_441 X  a0 w
    ) else (
      (gR w a0 15 2).bind fun v91 =>
      (gR w a0 15 4).bind fun v92 =>
      (aN w 1 v92 a4).bind fun v93 =>
      (sN (vp_nar .byte) w 1 v91 a4 v93).bind fun w94 =>
      fX15_saveAs_412 X  m a0 (a4 + 1) w94
    )
def fX15_saveAs_378 (X : px_X)  (a0 : Nat) (w : px_W) : Option (Int32 × px_W) :=
  (gO w a0 15).bind fun o95 =>
  (fX15_put X w a0 255).bind fun q96 =>
  (gO q96 a0 15).bind fun o97 =>
  (fX15_put X q96 a0 217).bind fun q98 =>
  (gI q98 a0 15 6).bind fun v99 =>
  if v99 = 0 then (
    (gI q98 a0 15 5).bind fun v101 =>
    (pV q98 a0 15 3 (.int v101)).bind fun w102 =>
    fX15_saveAs_412 X  FU a0 0 w102
  ) else (
    some ((-1), q98)
  )
def fX15_saveAs_296 (X : px_X)  (a0 : Nat) (a1 : Int32) (w : px_W) : Option (Int32 × px_W) :=
  if a1 = 0 then (
    (gO w a0 15).bind fun o119 =>
    (fX15_saveAll X w a0 63 0 0).bind fun q120 =>
    fX15_saveAs_378 X  a0 q120
  ) else (
    if a1 = 1 then (
      (gO w a0 15).bind fun o117 =>
      (fX15_saveEach X w a0 0 63 0 0).bind fun q118 =>
      fX15_saveAs_378 X  a0 q118
    ) else (
      (gO w a0 15).bind fun o105 =>
      (fX15_saveAll X w a0 0 0 1).bind fun q106 =>
      (gO q106 a0 15).bind fun o107 =>
      (fX15_saveEach X q106 a0 1 5 0 2).bind fun q108 =>
      (gO q108 a0 15).bind fun o109 =>
      (fX15_saveEach X q108 a0 6 63 0 2).bind fun q110 =>
      (gO q110 a0 15).bind fun o111 =>
      (fX15_saveEach X q110 a0 1 63 2 1).bind fun q112 =>
      (gO q112 a0 15).bind fun o113 =>
      (fX15_saveAll X q112 a0 0 1 0).bind fun q114 =>
      (gO q114 a0 15).bind fun o115 =>
      (fX15_saveEach X q114 a0 1 63 1 0).bind fun q116 =>
      fX15_saveAs_378 X  a0 q116
    )
  )
def fX15_saveAs_279 (X : px_X)  (a0 : Nat) (a1 : Int32) (a2 : Int32) (w : px_W) : Option (Int32 × px_W) :=
  if a2 ≤ 0 then (
    fX15_saveAs_296 X  a0 a1 w
  ) else (
    (gO w a0 15).bind fun o122 =>
    (fX15_begin X w a0 221 2).bind fun q123 =>
    (gO q123 a0 15).bind fun o124 =>
    (fX15_two X q123 a0 a2).bind fun q125 =>
    fX15_saveAs_296 X  a0 a1 q125
  )
def fX15_saveAs_228 (X : px_X)  : Nat → Nat → Int32 → Int32 → Int32 → px_W → Option (Int32 × px_W)
  | 0, _, _, _, _, _ => none
  | m + 1, a0, a1, a2, a4, w =>
    (gI w a0 15 20).bind fun v126 =>
    if v126 ≤ a4 then (
      fX15_saveAs_279 X  a0 a1 a2 w
    ) else (
      (gO w a0 15).bind fun o128 =>
      (fX15_put X w a0 (a4 + 1)).bind fun q129 =>
      (gR q129 a0 15 21).bind fun v130 =>
      (aN q129 0 v130 a4).bind fun v131 =>
      (gR q129 a0 15 22).bind fun v132 =>
      (aN q129 0 v132 a4).bind fun v133 =>
      (gO q129 a0 15).bind fun o134 =>
      (fX15_put X q129 a0 ((16 * v131) + v133)).bind fun q135 =>
      (gO q135 a0 15).bind fun o136 =>
      (fX15_put X q135 a0 a4).bind fun q137 =>
      fX15_saveAs_228 X  m a0 a1 a2 (a4 + 1) q137
    )
def fX15_saveAs_183 (X : px_X)  (a0 : Nat) (a1 : Int32) (a2 : Int32) (s0 : Int32) (s1 : Nat) (w : px_W) : Option (Int32 × px_W) :=
  (gI w a0 15 20).bind fun v138 =>
  (gO w s1 15).bind fun o139 =>
  (fX15_begin X w s1 s0 (6 + (3 * v138))).bind fun q140 =>
  (gO q140 a0 15).bind fun o141 =>
  (fX15_put X q140 a0 8).bind fun q142 =>
  (gI q142 a0 15 19).bind fun v143 =>
  (gO q142 a0 15).bind fun o144 =>
  (fX15_two X q142 a0 v143).bind fun q145 =>
  (gI q145 a0 15 18).bind fun v146 =>
  (gO q145 a0 15).bind fun o147 =>
  (fX15_two X q145 a0 v146).bind fun q148 =>
  (gI q148 a0 15 20).bind fun v149 =>
  (gO q148 a0 15).bind fun o150 =>
  (fX15_put X q148 a0 v149).bind fun q151 =>
  fX15_saveAs_228 X  FU a0 a1 a2 0 q151
def fX15_saveAs_140 (X : px_X)  (a0 : Nat) (a1 : Int32) (a2 : Int32) (w : px_W) : Option (Int32 × px_W) :=
  (pV w a0 15 5 (.int 0)).bind fun w152 =>
  (pZ w152 a0 15 6 0).bind fun w153 =>
  (gO w153 a0 15).bind fun o154 =>
  (fX15_put X w153 a0 255).bind fun q155 =>
  (gO q155 a0 15).bind fun o156 =>
  (fX15_put X q155 a0 216).bind fun q157 =>
  (gO q157 a0 15).bind fun o158 =>
  (fX15_saveTables X q157 a0).bind fun q159 =>
  if a1 = 2 then (
    fX15_saveAs_183 X  a0 a1 a2 194 a0 q159
  ) else (
    fX15_saveAs_183 X  a0 a1 a2 192 a0 q159
  )
def fX15_saveAs_109 (X : px_X)  : Nat → Nat → Int32 → Int32 → Int32 → px_W → Option (Int32 × px_W)
  | 0, _, _, _, _, _ => none
  | m + 1, a0, a1, a2, a4, w =>
    (gI w a0 15 20).bind fun v161 =>
    if v161 ≤ a4 then (
      fX15_saveAs_140 X  a0 a1 a2 w
    ) else (
      (gR w a0 15 13).bind fun v163 =>
      (gO w v163 13).bind fun o164 =>
      (fX13_tables X w v163 a4 a4 (4 + a4)).bind fun q165 =>
      fX15_saveAs_109 X  m a0 a1 a2 (a4 + 1) q165.2
    )
def fX15_saveAs_106 (X : px_X)  (a0 : Nat) (a1 : Int32) (a2 : Int32) (w : px_W) : Option (Int32 × px_W) :=
  fX15_saveAs_109 X  FU a0 a1 a2 0 w
def fX15_saveAs_75 (X : px_X)  : Nat → Nat → Int32 → Int32 → Int32 → px_W → Option (Int32 × px_W)
  | 0, _, _, _, _, _ => none
  | m + 1, a0, a1, a2, a4, w =>
    if 12288 ≤ a4 then (
      fX15_saveAs_106 X  a0 a1 a2 w
    ) else (
      (gR w a0 15 13).bind fun v167 =>
      (gR w v167 13 12).bind fun v168 =>
      (gR w a0 15 31).bind fun v169 =>
      (aN w 2 v169 a4).bind fun v170 =>
      (sN (vp_nar .short) w 2 v168 a4 v170).bind fun w171 =>
      fX15_saveAs_75 X  m a0 a1 a2 (a4 + 1) w171
    )
def fX15_saveAs_71 (X : px_X)  (a0 : Nat) (a1 : Int32) (a2 : Int32) (s0 : Int32) (w : px_W) : Option (Int32 × px_W) :=
  fX15_saveAs_75 X  FU a0 a1 a2 0 w
def fX15_saveAs_70 (X : px_X)  (a0 : Nat) (a1 : Int32) (a2 : Int32) (w : px_W) : Option (Int32 × px_W) :=
  fX15_saveAs_71 X  a0 a1 a2 0 w
def fX15_saveAs (X : px_X) (w : px_W) (a0 : Nat) (a1 : Int32) (a2 : Int32) : Option (Int32 × px_W) :=
  (gI w a0 15 17).bind fun v172 =>
  if v172 = 0 then (
    some ((-1), w)
  ) else (
    if a1 < 0 then (
      some ((-1), w)
    ) else (
      if 2 < a1 then (
        some ((-1), w)
      ) else (
        if a2 < 0 then (
          some ((-1), w)
        ) else (
          if a2 ≤ 65535 then (
            (gR w a0 15 13).bind fun v178 =>
            (gI w a0 15 18).bind fun v179 =>
            (gI w a0 15 19).bind fun v180 =>
            (gI w a0 15 20).bind fun v181 =>
            (gO w a0 15).bind fun o182 =>
            (fX15_shape X w a0).bind fun q183 =>
            (gO q183.2 v178 13).bind fun o184 =>
            (fX13_frame X q183.2 v178 v179 v180 v181 q183.1).bind fun q185 =>
            if q185.1 = 0 then (
              fX15_saveAs_70 X  a0 a1 a2 q185.2
            ) else (
              (gR q185.2 a0 15 13).bind fun v187 =>
              (gO q185.2 v187 13).bind fun o188 =>
              (fX13_restart X q185.2 v187 a2).bind fun q189 =>
              if q189.1 = 0 then (
                fX15_saveAs_70 X  a0 a1 a2 q189.2
              ) else (
                fX15_saveAs_71 X  a0 a1 a2 1 q189.2
              )
            )
          ) else (
            some ((-1), w)
          )
        )
      )
    )
  )
def fX15_k (X : px_X) (w : px_W) (a0 : Int32) : Option (Int32 × px_W) :=
  if a0 = 0 then (
    some (8192, w)
  ) else
  if a0 = 1 then (
    some (8035, w)
  ) else
  if a0 = 2 then (
    some (7568, w)
  ) else
  if a0 = 3 then (
    some (6811, w)
  ) else
  if a0 = 4 then (
    some (5793, w)
  ) else
  if a0 = 5 then (
    some (4551, w)
  ) else
  if a0 = 6 then (
    some (3135, w)
  ) else
  if a0 = 7 then (
    some (1598, w)
  ) else
  (
    some (0, w)
  )
def fX15_wave (X : px_X) (w : px_W) (a0 : Int32) (a1 : Int32) (a2 : Int32) : Option (Int32 × px_W) :=
  if a1 = 0 then (
    (fX15_k X w 4).bind fun q18 =>
    some (q18.1, q18.2)
  ) else (
    (dI 8 a0).bind fun v9 =>
    (rI ((((2 * a2) + 1) * a1) * v9) 32).bind fun v10 =>
    if 9 ≤ v10 then (
      if 17 ≤ v10 then (
        if 25 ≤ v10 then (
          (fX15_k X w (32 - v10)).bind fun q14 =>
          some (q14.1, q14.2)
        ) else (
          (fX15_k X w (v10 - 16)).bind fun q15 =>
          some (-q15.1, q15.2)
        )
      ) else (
        (fX15_k X w (16 - v10)).bind fun q16 =>
        some (-q16.1, q16.2)
      )
    ) else (
      (fX15_k X w v10).bind fun q17 =>
      some (q17.1, q17.2)
    )
  )
def fX15_round (X : px_X) (w : px_W) (a0 : Int64) (a2 : Int32) : Option (Int64 × px_W) :=
  some ((a0 + ((1 : Int64) <<< ((a2 - 1).toInt64 &&& 63))) >>> (a2.toInt64 &&& 63), w)
def fX15_limit (X : px_X) (w : px_W) (a0 : Int64) : Option (Int32 × px_W) :=
  if 0 ≤ (lg_cmp a0 0) then (
    if (lg_cmp a0 255) ≤ 0 then (
      some (a0.toInt32, w)
    ) else (
      some (255, w)
    )
  ) else (
    some (0, w)
  )
def fX15_back_196 (X : px_X) (k135 : Nat → Int32 → Int32 → Int32 → Int32 → px_W → Option (px_W)) (k144 : Nat → Int32 → Int32 → Int32 → Int32 → Int32 → px_W → Option (px_W)) (a0 : Nat) (a3 : Int32) (a4 : Int32) (a5 : Int32) (a6 : Int32) (a7 : Int32) (a8 : Int64) (w : px_W) : Option (px_W) :=
  (gR w a0 15 42).bind fun v21 =>
  (gI w a0 15 44).bind fun v22 =>
  (fX15_round X w a8 17).bind fun q23 =>
  (fX15_limit X q23.2 (q23.1 + 128)).bind fun q24 =>
  (sN id q24.2 0 v21 (((v22 * (a5 + a6)) + a4) + a7) q24.1).bind fun w25 =>
  k144 a0 a3 a4 a5 a6 (a7 + 1) w25
def fX15_back_156 (X : px_X) (k135 : Nat → Int32 → Int32 → Int32 → Int32 → px_W → Option (px_W)) (k144 : Nat → Int32 → Int32 → Int32 → Int32 → Int32 → px_W → Option (px_W)) : Nat → Nat → Int32 → Int32 → Int32 → Int32 → Int32 → Int64 → Int32 → px_W → Option (px_W)
  | 0, _, _, _, _, _, _, _, _, _ => none
  | m + 1, a0, a3, a4, a5, a6, a7, a8, a10, w =>
    if a3 ≤ a10 then (
      fX15_back_196 X k135 k144 a0 a3 a4 a5 a6 a7 a8 w
    ) else (
      (fX15_wave X w a3 a10 a7).bind fun q27 =>
      (gR q27.2 a0 15 46).bind fun v28 =>
      (aJ q27.2 v28 ((8 * a6) + a10)).bind fun v29 =>
      fX15_back_156 X k135 k144 m a0 a3 a4 a5 a6 a7 (a8 + (q27.1.toInt64 * v29)) (a10 + 1) q27.2
    )
def fX15_back_237 (X : px_X) (k135 : Nat → Int32 → Int32 → Int32 → Int32 → px_W → Option (px_W)) (a0 : Nat) (a3 : Int32) (a4 : Int32) (a5 : Int32) (a6 : Int32) (w : px_W) : Option (px_W) :=
  k135 a0 a3 a4 a5 (a6 + 1) w
def fX15_back_144 (X : px_X) (k135 : Nat → Int32 → Int32 → Int32 → Int32 → px_W → Option (px_W)) : Nat → Nat → Int32 → Int32 → Int32 → Int32 → Int32 → px_W → Option (px_W)
  | 0, _, _, _, _, _, _, _ => none
  | m + 1, a0, a3, a4, a5, a6, a7, w =>
    if a3 ≤ a7 then (
      fX15_back_237 X k135 a0 a3 a4 a5 a6 w
    ) else (
      fX15_back_156 X k135 (fX15_back_144 X k135 m) FU a0 a3 a4 a5 a6 a7 0 0 w
    )
def fX15_back_135 (X : px_X)  : Nat → Nat → Int32 → Int32 → Int32 → Int32 → px_W → Option (px_W)
  | 0, _, _, _, _, _, _ => none
  | m + 1, a0, a3, a4, a5, a6, w =>
    if a3 ≤ a6 then (
      some w
    ) else (
      fX15_back_144 X (fX15_back_135 X  m) FU a0 a3 a4 a5 a6 0 w
    )
def fX15_back_132 (X : px_X)  (a0 : Nat) (a3 : Int32) (a4 : Int32) (a5 : Int32) (w : px_W) : Option (px_W) :=
  fX15_back_135 X  FU a0 a3 a4 a5 0 w
def fX15_back_100 (X : px_X) (k3 : Nat → Int32 → Int32 → Int32 → Int32 → Int32 → Int32 → px_W → Option (px_W)) (k12 : Nat → Int32 → Int32 → Int32 → Int32 → Int32 → Int32 → Int32 → px_W → Option (px_W)) (a0 : Nat) (a1 : Int32) (a2 : Int32) (a3 : Int32) (a4 : Int32) (a5 : Int32) (a6 : Int32) (a7 : Int32) (a8 : Int64) (w : px_W) : Option (px_W) :=
  (gR w a0 15 46).bind fun v32 =>
  (fX15_round X w a8 11).bind fun q33 =>
  (sJ q33.2 v32 ((8 * a6) + a7) q33.1).bind fun w34 =>
  k12 a0 a1 a2 a3 a4 a5 a6 (a7 + 1) w34
def fX15_back_24 (X : px_X) (k3 : Nat → Int32 → Int32 → Int32 → Int32 → Int32 → Int32 → px_W → Option (px_W)) (k12 : Nat → Int32 → Int32 → Int32 → Int32 → Int32 → Int32 → Int32 → px_W → Option (px_W)) : Nat → Nat → Int32 → Int32 → Int32 → Int32 → Int32 → Int32 → Int32 → Int64 → Int32 → px_W → Option (px_W)
  | 0, _, _, _, _, _, _, _, _, _, _, _ => none
  | m + 1, a0, a1, a2, a3, a4, a5, a6, a7, a8, a10, w =>
    if a3 ≤ a10 then (
      fX15_back_100 X k3 k12 a0 a1 a2 a3 a4 a5 a6 a7 a8 w
    ) else (
      (gR w a0 15 38).bind fun v36 =>
      (aN w 0 v36 ((8 * a10) + a7)).bind fun v37 =>
      (fX15_wave X w a3 a10 a6).bind fun q38 =>
      (gR q38.2 a0 15 31).bind fun v39 =>
      (gR q38.2 a0 15 25).bind fun v40 =>
      (aN q38.2 0 v40 a1).bind fun v41 =>
      (aN q38.2 2 v39 ((64 * (v41 + a2)) + v37)).bind fun v42 =>
      (gR q38.2 a0 15 30).bind fun v43 =>
      (aN q38.2 0 v43 ((64 * a1) + v37)).bind fun v44 =>
      fX15_back_24 X k3 k12 m a0 a1 a2 a3 a4 a5 a6 a7 (a8 + ((q38.1.toInt64 * v42.toInt64) * v44.toInt64)) (a10 + 1) q38.2
    )
def fX15_back_126 (X : px_X) (k3 : Nat → Int32 → Int32 → Int32 → Int32 → Int32 → Int32 → px_W → Option (px_W)) (a0 : Nat) (a1 : Int32) (a2 : Int32) (a3 : Int32) (a4 : Int32) (a5 : Int32) (a6 : Int32) (w : px_W) : Option (px_W) :=
  k3 a0 a1 a2 a3 a4 a5 (a6 + 1) w
def fX15_back_12 (X : px_X) (k3 : Nat → Int32 → Int32 → Int32 → Int32 → Int32 → Int32 → px_W → Option (px_W)) : Nat → Nat → Int32 → Int32 → Int32 → Int32 → Int32 → Int32 → Int32 → px_W → Option (px_W)
  | 0, _, _, _, _, _, _, _, _, _ => none
  | m + 1, a0, a1, a2, a3, a4, a5, a6, a7, w =>
    if a3 ≤ a7 then (
      fX15_back_126 X k3 a0 a1 a2 a3 a4 a5 a6 w
    ) else (
      fX15_back_24 X k3 (fX15_back_12 X k3 m) FU a0 a1 a2 a3 a4 a5 a6 a7 0 0 w
    )
def fX15_back_3 (X : px_X)  : Nat → Nat → Int32 → Int32 → Int32 → Int32 → Int32 → Int32 → px_W → Option (px_W)
  | 0, _, _, _, _, _, _, _, _ => none
  | m + 1, a0, a1, a2, a3, a4, a5, a6, w =>
    if a3 ≤ a6 then (
      fX15_back_132 X  a0 a3 a4 a5 w
    ) else (
      fX15_back_12 X (fX15_back_3 X  m) FU a0 a1 a2 a3 a4 a5 a6 0 w
    )
def fX15_back (X : px_X) (w : px_W) (a0 : Nat) (a1 : Int32) (a2 : Int32) (a3 : Int32) (a4 : Int32) (a5 : Int32) : Option (px_W) :=
  fX15_back_3 X  FU a0 a1 a2 a3 a4 a5 0 w
def fX15_forward_332 (X : px_X) (k115 : Nat → Int32 → Int32 → Int32 → px_W → Option (px_W)) (k125 : Nat → Int32 → Int32 → Int32 → Int32 → px_W → Option (px_W)) (a0 : Nat) (a1 : Int32) (a2 : Int32) (a5 : Int32) (a6 : Int32) (s0 : Int64) (s1 : Int32) (s2 : Nat) (w : px_W) : Option (px_W) :=
  (sN (vp_nar .short) w 2 s2 s1 s0.toInt32.toInt16.toInt32).bind fun w21 =>
  k125 a0 a1 a2 a5 (a6 + 1) w21
def fX15_forward_282 (X : px_X) (k115 : Nat → Int32 → Int32 → Int32 → px_W → Option (px_W)) (k125 : Nat → Int32 → Int32 → Int32 → Int32 → px_W → Option (px_W)) (a0 : Nat) (a1 : Int32) (a2 : Int32) (a5 : Int32) (a6 : Int32) (a9 : Int32) (a13 : Int64) (s0 : Int64) (w : px_W) : Option (px_W) :=
  (gR w a0 15 31).bind fun v22 =>
  (gR w a0 15 25).bind fun v23 =>
  (aN w 0 v23 a1).bind fun v24 =>
  if 0 ≤ (lg_cmp a13 s0) then (
    if (lg_cmp a13 1023) ≤ 0 then (
      fX15_forward_332 X k115 k125 a0 a1 a2 a5 a6 a13 ((64 * (v24 + a2)) + a9) v22 w
    ) else (
      fX15_forward_332 X k115 k125 a0 a1 a2 a5 a6 1023 ((64 * (v24 + a2)) + a9) v22 w
    )
  ) else (
    fX15_forward_332 X k115 k125 a0 a1 a2 a5 a6 s0 ((64 * (v24 + a2)) + a9) v22 w
  )
def fX15_forward_266 (X : px_X) (k115 : Nat → Int32 → Int32 → Int32 → px_W → Option (px_W)) (k125 : Nat → Int32 → Int32 → Int32 → Int32 → px_W → Option (px_W)) (a0 : Nat) (a1 : Int32) (a2 : Int32) (a5 : Int32) (a6 : Int32) (a9 : Int32) (s0 : Int64) (w : px_W) : Option (px_W) :=
  if a9 = 0 then (
    fX15_forward_282 X k115 k125 a0 a1 a2 a5 a6 a9 s0 ((-1024)) w
  ) else (
    fX15_forward_282 X k115 k125 a0 a1 a2 a5 a6 a9 s0 ((-1023)) w
  )
def fX15_forward_233 (X : px_X) (k115 : Nat → Int32 → Int32 → Int32 → px_W → Option (px_W)) (k125 : Nat → Int32 → Int32 → Int32 → Int32 → px_W → Option (px_W)) (a0 : Nat) (a1 : Int32) (a2 : Int32) (a5 : Int32) (a6 : Int32) (a9 : Int32) (a10 : Int64) (a12 : Int32) (s0 : Int64) (w : px_W) : Option (px_W) :=
  (dJ ((s0 * 2) + a12.toInt64) (2 * a12.toInt64)).bind fun v28 =>
  if 0 ≤ (lg_cmp a10 0) then (
    fX15_forward_266 X k115 k125 a0 a1 a2 a5 a6 a9 v28 w
  ) else (
    fX15_forward_266 X k115 k125 a0 a1 a2 a5 a6 a9 (-v28) w
  )
def fX15_forward_180 (X : px_X) (k115 : Nat → Int32 → Int32 → Int32 → px_W → Option (px_W)) (k125 : Nat → Int32 → Int32 → Int32 → Int32 → px_W → Option (px_W)) (a0 : Nat) (a1 : Int32) (a2 : Int32) (a5 : Int32) (a6 : Int32) (a7 : Int64) (w : px_W) : Option (px_W) :=
  (gR w a0 15 38).bind fun v30 =>
  (aN w 0 v30 ((8 * a5) + a6)).bind fun v31 =>
  (fX15_round X w a7 17).bind fun q32 =>
  (gR q32.2 a0 15 30).bind fun v33 =>
  (aN q32.2 0 v33 ((64 * a1) + v31)).bind fun v34 =>
  if 0 ≤ (lg_cmp q32.1 0) then (
    fX15_forward_233 X k115 k125 a0 a1 a2 a5 a6 v31 q32.1 v34 q32.1 q32.2
  ) else (
    fX15_forward_233 X k115 k125 a0 a1 a2 a5 a6 v31 q32.1 v34 (-q32.1) q32.2
  )
def fX15_forward_138 (X : px_X) (k115 : Nat → Int32 → Int32 → Int32 → px_W → Option (px_W)) (k125 : Nat → Int32 → Int32 → Int32 → Int32 → px_W → Option (px_W)) : Nat → Nat → Int32 → Int32 → Int32 → Int32 → Int64 → Int32 → px_W → Option (px_W)
  | 0, _, _, _, _, _, _, _, _ => none
  | m + 1, a0, a1, a2, a5, a6, a7, a9, w =>
    if 8 ≤ a9 then (
      fX15_forward_180 X k115 k125 a0 a1 a2 a5 a6 a7 w
    ) else (
      (fX15_wave X w 8 a6 a9).bind fun q37 =>
      (gR q37.2 a0 15 46).bind fun v38 =>
      (aJ q37.2 v38 ((8 * a5) + a9)).bind fun v39 =>
      fX15_forward_138 X k115 k125 m a0 a1 a2 a5 a6 (a7 + (q37.1.toInt64 * v39)) (a9 + 1) q37.2
    )
def fX15_forward_341 (X : px_X) (k115 : Nat → Int32 → Int32 → Int32 → px_W → Option (px_W)) (a0 : Nat) (a1 : Int32) (a2 : Int32) (a5 : Int32) (w : px_W) : Option (px_W) :=
  k115 a0 a1 a2 (a5 + 1) w
def fX15_forward_125 (X : px_X) (k115 : Nat → Int32 → Int32 → Int32 → px_W → Option (px_W)) : Nat → Nat → Int32 → Int32 → Int32 → Int32 → px_W → Option (px_W)
  | 0, _, _, _, _, _, _ => none
  | m + 1, a0, a1, a2, a5, a6, w =>
    if 8 ≤ a6 then (
      fX15_forward_341 X k115 a0 a1 a2 a5 w
    ) else (
      fX15_forward_138 X k115 (fX15_forward_125 X k115 m) FU a0 a1 a2 a5 a6 0 0 w
    )
def fX15_forward_115 (X : px_X)  : Nat → Nat → Int32 → Int32 → Int32 → px_W → Option (px_W)
  | 0, _, _, _, _, _ => none
  | m + 1, a0, a1, a2, a5, w =>
    if 8 ≤ a5 then (
      some w
    ) else (
      fX15_forward_125 X (fX15_forward_115 X  m) FU a0 a1 a2 a5 0 w
    )
def fX15_forward_112 (X : px_X)  (a0 : Nat) (a1 : Int32) (a2 : Int32) (w : px_W) : Option (px_W) :=
  fX15_forward_115 X  FU a0 a1 a2 0 w
def fX15_forward_106 (X : px_X) (k3 : Nat → Int32 → Int32 → Int32 → Int32 → Int32 → px_W → Option (px_W)) (a0 : Nat) (a1 : Int32) (a2 : Int32) (a3 : Int32) (a4 : Int32) (a5 : Int32) (w : px_W) : Option (px_W) :=
  k3 a0 a1 a2 a3 a4 (a5 + 1) w
def fX15_forward_80 (X : px_X) (k3 : Nat → Int32 → Int32 → Int32 → Int32 → Int32 → px_W → Option (px_W)) (k13 : Nat → Int32 → Int32 → Int32 → Int32 → Int32 → Int32 → px_W → Option (px_W)) (a0 : Nat) (a1 : Int32) (a2 : Int32) (a3 : Int32) (a4 : Int32) (a5 : Int32) (a6 : Int32) (a7 : Int64) (w : px_W) : Option (px_W) :=
  (gR w a0 15 46).bind fun v42 =>
  (fX15_round X w a7 11).bind fun q43 =>
  (sJ q43.2 v42 ((8 * a5) + a6) q43.1).bind fun w44 =>
  k13 a0 a1 a2 a3 a4 a5 (a6 + 1) w44
def fX15_forward_26 (X : px_X) (k3 : Nat → Int32 → Int32 → Int32 → Int32 → Int32 → px_W → Option (px_W)) (k13 : Nat → Int32 → Int32 → Int32 → Int32 → Int32 → Int32 → px_W → Option (px_W)) : Nat → Nat → Int32 → Int32 → Int32 → Int32 → Int32 → Int32 → Int64 → Int32 → px_W → Option (px_W)
  | 0, _, _, _, _, _, _, _, _, _, _ => none
  | m + 1, a0, a1, a2, a3, a4, a5, a6, a7, a9, w =>
    if 8 ≤ a9 then (
      fX15_forward_80 X k3 k13 a0 a1 a2 a3 a4 a5 a6 a7 w
    ) else (
      (fX15_wave X w 8 a5 a9).bind fun q46 =>
      (gR q46.2 a0 15 42).bind fun v47 =>
      (gI q46.2 a0 15 44).bind fun v48 =>
      (aN q46.2 0 v47 (((v48 * (a4 + a9)) + a3) + a6)).bind fun v49 =>
      fX15_forward_26 X k3 k13 m a0 a1 a2 a3 a4 a5 a6 (a7 + (q46.1.toInt64 * ((v49 - 128).toInt64))) (a9 + 1) q46.2
    )
def fX15_forward_13 (X : px_X) (k3 : Nat → Int32 → Int32 → Int32 → Int32 → Int32 → px_W → Option (px_W)) : Nat → Nat → Int32 → Int32 → Int32 → Int32 → Int32 → Int32 → px_W → Option (px_W)
  | 0, _, _, _, _, _, _, _, _ => none
  | m + 1, a0, a1, a2, a3, a4, a5, a6, w =>
    if 8 ≤ a6 then (
      fX15_forward_106 X k3 a0 a1 a2 a3 a4 a5 w
    ) else (
      fX15_forward_26 X k3 (fX15_forward_13 X k3 m) FU a0 a1 a2 a3 a4 a5 a6 0 0 w
    )
def fX15_forward_3 (X : px_X)  : Nat → Nat → Int32 → Int32 → Int32 → Int32 → Int32 → px_W → Option (px_W)
  | 0, _, _, _, _, _, _, _ => none
  | m + 1, a0, a1, a2, a3, a4, a5, w =>
    if 8 ≤ a5 then (
      fX15_forward_112 X  a0 a1 a2 w
    ) else (
      fX15_forward_13 X (fX15_forward_3 X  m) FU a0 a1 a2 a3 a4 a5 0 w
    )
def fX15_forward (X : px_X) (w : px_W) (a0 : Nat) (a1 : Int32) (a2 : Int32) (a3 : Int32) (a4 : Int32) : Option (px_W) :=
  fX15_forward_3 X  FU a0 a1 a2 a3 a4 0 w
def fX15_sample_53 (X : px_X)  (a0 : Nat) (a3 : Int32) (s0 : Int32) (w : px_W) : Option (Int32 × px_W) :=
  (gR w a0 15 42).bind fun v8 =>
  (gI w a0 15 44).bind fun v9 =>
  (aN w 0 v8 ((v9 * s0) + a3)).bind fun v10 =>
  some (v10, w)
def fX15_sample_26 (X : px_X)  (a0 : Nat) (a2 : Int32) (s0 : Int32) (w : px_W) : Option (Int32 × px_W) :=
  if 0 ≤ a2 then (
    (gI w a0 15 45).bind fun v12 =>
    if v12 ≤ a2 then (
      (gI w a0 15 45).bind fun v14 =>
      fX15_sample_53 X  a0 s0 (v14 - 1) w
    ) else (
      fX15_sample_53 X  a0 s0 a2 w
    )
  ) else (
    fX15_sample_53 X  a0 s0 0 w
  )
def fX15_sample (X : px_X) (w : px_W) (a0 : Nat) (a1 : Int32) (a2 : Int32) : Option (Int32 × px_W) :=
  if 0 ≤ a1 then (
    (gI w a0 15 44).bind fun v16 =>
    if v16 ≤ a1 then (
      (gI w a0 15 44).bind fun v18 =>
      fX15_sample_26 X  a0 a2 (v18 - 1) w
    ) else (
      fX15_sample_26 X  a0 a2 a1 w
    )
  ) else (
    fX15_sample_26 X  a0 a2 0 w
  )
def fX15_become_12 (X : px_X)  : Nat → Nat → Int32 → Int32 → Int32 → px_W → Option (px_W)
  | 0, _, _, _, _, _ => none
  | m + 1, a0, a1, a2, a3, w =>
    if (a1 * a2) ≤ a3 then (
      some w
    ) else (
      (gR w a0 15 42).bind fun v8 =>
      (gR w a0 15 43).bind fun v9 =>
      (aN w 0 v9 a3).bind fun v10 =>
      (sN id w 0 v8 a3 v10).bind fun w11 =>
      fX15_become_12 X  m a0 a1 a2 (a3 + 1) w11
    )
def fX15_become (X : px_X) (w : px_W) (a0 : Nat) (a1 : Int32) (a2 : Int32) : Option (px_W) :=
  (pV w a0 15 44 (.int a1)).bind fun w12 =>
  (pV w12 a0 15 45 (.int a2)).bind fun w13 =>
  fX15_become_12 X  FU a0 a1 a2 0 w13
def fX15_grow_201 (X : px_X)  (a0 : Nat) (a3 : Int32) (a4 : Int32) (w : px_W) : Option (px_W) :=
  (gO w a0 15).bind fun o21 =>
  (fX15_become X w a0 a3 a4).bind fun q22 =>
  some q22
def fX15_grow_195 (X : px_X) (k40 : Nat → Int32 → Int32 → Int32 → Int32 → Int32 → px_W → Option (px_W)) (a0 : Nat) (a1 : Int32) (a2 : Int32) (a3 : Int32) (a4 : Int32) (a5 : Int32) (w : px_W) : Option (px_W) :=
  k40 a0 a1 a2 a3 a4 (a5 + 1) w
def fX15_grow_188 (X : px_X) (k40 : Nat → Int32 → Int32 → Int32 → Int32 → Int32 → px_W → Option (px_W)) (k50 : Nat → Int32 → Int32 → Int32 → Int32 → Int32 → Int32 → px_W → Option (px_W)) (a0 : Nat) (a1 : Int32) (a2 : Int32) (a3 : Int32) (a4 : Int32) (a5 : Int32) (a6 : Int32) (s0 : Int32) (s1 : Int32) (s2 : Nat) (w : px_W) : Option (px_W) :=
  (sN id w 0 s2 s1 s0).bind fun w23 =>
  k50 a0 a1 a2 a3 a4 a5 (a6 + 1) w23
def fX15_grow_140 (X : px_X) (k40 : Nat → Int32 → Int32 → Int32 → Int32 → Int32 → px_W → Option (px_W)) (k50 : Nat → Int32 → Int32 → Int32 → Int32 → Int32 → Int32 → px_W → Option (px_W)) (a0 : Nat) (a1 : Int32) (a2 : Int32) (a3 : Int32) (a4 : Int32) (a5 : Int32) (a6 : Int32) (a7 : Int32) (a8 : Int32) (a9 : Int32) (s0 : Int32) (w : px_W) : Option (px_W) :=
  (gR w a0 15 43).bind fun v24 =>
  if a2 = 0 then (
    (gO w a0 15).bind fun o26 =>
    (fX15_sample X w a0 a7 a8).bind fun q27 =>
    fX15_grow_188 X k40 k50 a0 a1 a2 a3 a4 a5 a6 q27.1 ((a3 * a5) + a6) v24 q27.2
  ) else (
    (gO w a0 15).bind fun o28 =>
    (fX15_sample X w a0 a7 a8).bind fun q29 =>
    fX15_grow_188 X k40 k50 a0 a1 a2 a3 a4 a5 a6 (((((3 * q29.1) + s0) + 1) + a9) >>> (2 &&& 31)) ((a3 * a5) + a6) v24 q29.2
  )
def fX15_grow_101 (X : px_X) (k40 : Nat → Int32 → Int32 → Int32 → Int32 → Int32 → px_W → Option (px_W)) (k50 : Nat → Int32 → Int32 → Int32 → Int32 → Int32 → Int32 → px_W → Option (px_W)) (a0 : Nat) (a1 : Int32) (a2 : Int32) (a3 : Int32) (a4 : Int32) (a5 : Int32) (a6 : Int32) (a7 : Int32) (a8 : Int32) (s0 : Int32) (w : px_W) : Option (px_W) :=
  if a1 = 0 then (
    (gO w a0 15).bind fun o31 =>
    (fX15_sample X w a0 a7 ((a8 + (2 * s0)) - 1)).bind fun q32 =>
    fX15_grow_140 X k40 k50 a0 a1 a2 a3 a4 a5 a6 a7 a8 s0 q32.1 q32.2
  ) else (
    (gO w a0 15).bind fun o33 =>
    (fX15_sample X w a0 ((a7 + (2 * s0)) - 1) a8).bind fun q34 =>
    fX15_grow_140 X k40 k50 a0 a1 a2 a3 a4 a5 a6 a7 a8 s0 q34.1 q34.2
  )
def fX15_grow_84 (X : px_X) (k40 : Nat → Int32 → Int32 → Int32 → Int32 → Int32 → px_W → Option (px_W)) (k50 : Nat → Int32 → Int32 → Int32 → Int32 → Int32 → Int32 → px_W → Option (px_W)) (a0 : Nat) (a1 : Int32) (a2 : Int32) (a3 : Int32) (a4 : Int32) (a5 : Int32) (a6 : Int32) (a7 : Int32) (s0 : Int32) (w : px_W) : Option (px_W) :=
  if a1 = 0 then (
    (rI a5 2).bind fun v36 =>
    fX15_grow_101 X k40 k50 a0 a1 a2 a3 a4 a5 a6 a7 s0 v36 w
  ) else (
    (rI a6 2).bind fun v37 =>
    fX15_grow_101 X k40 k50 a0 a1 a2 a3 a4 a5 a6 a7 s0 v37 w
  )
def fX15_grow_69 (X : px_X) (k40 : Nat → Int32 → Int32 → Int32 → Int32 → Int32 → px_W → Option (px_W)) (k50 : Nat → Int32 → Int32 → Int32 → Int32 → Int32 → Int32 → px_W → Option (px_W)) (a0 : Nat) (a1 : Int32) (a2 : Int32) (a3 : Int32) (a4 : Int32) (a5 : Int32) (a6 : Int32) (s0 : Int32) (w : px_W) : Option (px_W) :=
  if a1 = 0 then (
    (dI a5 2).bind fun v39 =>
    fX15_grow_84 X k40 k50 a0 a1 a2 a3 a4 a5 a6 s0 v39 w
  ) else (
    fX15_grow_84 X k40 k50 a0 a1 a2 a3 a4 a5 a6 s0 a5 w
  )
def fX15_grow_50 (X : px_X) (k40 : Nat → Int32 → Int32 → Int32 → Int32 → Int32 → px_W → Option (px_W)) : Nat → Nat → Int32 → Int32 → Int32 → Int32 → Int32 → Int32 → px_W → Option (px_W)
  | 0, _, _, _, _, _, _, _, _ => none
  | m + 1, a0, a1, a2, a3, a4, a5, a6, w =>
    if a3 ≤ a6 then (
      fX15_grow_195 X k40 a0 a1 a2 a3 a4 a5 w
    ) else (
      if a1 = 0 then (
        fX15_grow_69 X k40 (fX15_grow_50 X k40 m) a0 a1 a2 a3 a4 a5 a6 a6 w
      ) else (
        (dI a6 2).bind fun v42 =>
        fX15_grow_69 X k40 (fX15_grow_50 X k40 m) a0 a1 a2 a3 a4 a5 a6 v42 w
      )
    )
def fX15_grow_40 (X : px_X)  : Nat → Nat → Int32 → Int32 → Int32 → Int32 → Int32 → px_W → Option (px_W)
  | 0, _, _, _, _, _, _, _ => none
  | m + 1, a0, a1, a2, a3, a4, a5, w =>
    if a4 ≤ a5 then (
      fX15_grow_201 X  a0 a3 a4 w
    ) else (
      fX15_grow_50 X (fX15_grow_40 X  m) FU a0 a1 a2 a3 a4 a5 0 w
    )
def fX15_grow_35 (X : px_X)  (a0 : Nat) (a1 : Int32) (a2 : Int32) (a3 : Int32) (s0 : Int32) (w : px_W) : Option (px_W) :=
  fX15_grow_40 X  FU a0 a1 a2 a3 s0 0 w
def fX15_grow_17 (X : px_X)  (a0 : Nat) (a1 : Int32) (a2 : Int32) (s0 : Int32) (w : px_W) : Option (px_W) :=
  if a1 = 0 then (
    (gI w a0 15 45).bind fun v45 =>
    fX15_grow_35 X  a0 a1 a2 s0 (2 * v45) w
  ) else (
    (gI w a0 15 45).bind fun v46 =>
    fX15_grow_35 X  a0 a1 a2 s0 v46 w
  )
def fX15_grow (X : px_X) (w : px_W) (a0 : Nat) (a1 : Int32) (a2 : Int32) : Option (px_W) :=
  if a1 = 0 then (
    (gI w a0 15 44).bind fun v48 =>
    fX15_grow_17 X  a0 a1 a2 v48 w
  ) else (
    (gI w a0 15 44).bind fun v49 =>
    fX15_grow_17 X  a0 a1 a2 (2 * v49) w
  )
def fX15_shrink_226 (X : px_X)  (a0 : Nat) (a2 : Int32) (a3 : Int32) (w : px_W) : Option (px_W) :=
  (gO w a0 15).bind fun o30 =>
  (fX15_become X w a0 a2 a3).bind fun q31 =>
  some q31
def fX15_shrink_220 (X : px_X) (k44 : Nat → Int32 → Int32 → Int32 → Int32 → px_W → Option (px_W)) (a0 : Nat) (a1 : Int32) (a2 : Int32) (a3 : Int32) (a4 : Int32) (w : px_W) : Option (px_W) :=
  k44 a0 a1 a2 a3 (a4 + 1) w
def fX15_shrink_213 (X : px_X) (k44 : Nat → Int32 → Int32 → Int32 → Int32 → px_W → Option (px_W)) (k53 : Nat → Int32 → Int32 → Int32 → Int32 → Int32 → px_W → Option (px_W)) (a0 : Nat) (a1 : Int32) (a2 : Int32) (a3 : Int32) (a4 : Int32) (a5 : Int32) (s0 : Int32) (s1 : Int32) (s2 : Nat) (w : px_W) : Option (px_W) :=
  (sN id w 0 s2 s1 s0).bind fun w32 =>
  k53 a0 a1 a2 a3 a4 (a5 + 1) w32
def fX15_shrink_53 (X : px_X) (k44 : Nat → Int32 → Int32 → Int32 → Int32 → px_W → Option (px_W)) : Nat → Nat → Int32 → Int32 → Int32 → Int32 → Int32 → px_W → Option (px_W)
  | 0, _, _, _, _, _, _, _ => none
  | m + 1, a0, a1, a2, a3, a4, a5, w =>
    if a2 ≤ a5 then (
      fX15_shrink_220 X k44 a0 a1 a2 a3 a4 w
    ) else (
      (gR w a0 15 43).bind fun v34 =>
      if a1 = 0 then (
        (gO w a0 15).bind fun o51 =>
        (fX15_sample X w a0 (2 * a5) a4).bind fun q52 =>
        (gO q52.2 a0 15).bind fun o53 =>
        (fX15_sample X q52.2 a0 ((2 * a5) + 1) a4).bind fun q54 =>
        (rI a5 2).bind fun v55 =>
        fX15_shrink_213 X k44 (fX15_shrink_53 X k44 m) a0 a1 a2 a3 a4 a5 (((q52.1 + q54.1) + v55) >>> (1 &&& 31)) ((a2 * a4) + a5) v34 q54.2
      ) else (
        if a1 = 1 then (
          (gO w a0 15).bind fun o46 =>
          (fX15_sample X w a0 a5 (2 * a4)).bind fun q47 =>
          (gO q47.2 a0 15).bind fun o48 =>
          (fX15_sample X q47.2 a0 a5 ((2 * a4) + 1)).bind fun q49 =>
          (rI a4 2).bind fun v50 =>
          fX15_shrink_213 X k44 (fX15_shrink_53 X k44 m) a0 a1 a2 a3 a4 a5 (((q47.1 + q49.1) + v50) >>> (1 &&& 31)) ((a2 * a4) + a5) v34 q49.2
        ) else (
          (gO w a0 15).bind fun o37 =>
          (fX15_sample X w a0 (2 * a5) (2 * a4)).bind fun q38 =>
          (gO q38.2 a0 15).bind fun o39 =>
          (fX15_sample X q38.2 a0 ((2 * a5) + 1) (2 * a4)).bind fun q40 =>
          (gO q40.2 a0 15).bind fun o41 =>
          (fX15_sample X q40.2 a0 (2 * a5) ((2 * a4) + 1)).bind fun q42 =>
          (gO q42.2 a0 15).bind fun o43 =>
          (fX15_sample X q42.2 a0 ((2 * a5) + 1) ((2 * a4) + 1)).bind fun q44 =>
          (rI a5 2).bind fun v45 =>
          fX15_shrink_213 X k44 (fX15_shrink_53 X k44 m) a0 a1 a2 a3 a4 a5 ((((((q38.1 + q40.1) + q42.1) + q44.1) + 1) + v45) >>> (2 &&& 31)) ((a2 * a4) + a5) v34 q44.2
        )
      )
    )
def fX15_shrink_44 (X : px_X)  : Nat → Nat → Int32 → Int32 → Int32 → Int32 → px_W → Option (px_W)
  | 0, _, _, _, _, _, _ => none
  | m + 1, a0, a1, a2, a3, a4, w =>
    if a3 ≤ a4 then (
      fX15_shrink_226 X  a0 a2 a3 w
    ) else (
      fX15_shrink_53 X (fX15_shrink_44 X  m) FU a0 a1 a2 a3 a4 0 w
    )
def fX15_shrink_40 (X : px_X)  (a0 : Nat) (a1 : Int32) (a2 : Int32) (s0 : Int32) (w : px_W) : Option (px_W) :=
  fX15_shrink_44 X  FU a0 a1 a2 s0 0 w
def fX15_shrink_20 (X : px_X)  (a0 : Nat) (a1 : Int32) (s0 : Int32) (w : px_W) : Option (px_W) :=
  if a1 = 0 then (
    (gI w a0 15 45).bind fun v60 =>
    fX15_shrink_40 X  a0 a1 s0 v60 w
  ) else (
    (gI w a0 15 45).bind fun v58 =>
    (fX15_up X w v58 2).bind fun q59 =>
    fX15_shrink_40 X  a0 a1 s0 q59.1 q59.2
  )
def fX15_shrink (X : px_X) (w : px_W) (a0 : Nat) (a1 : Int32) : Option (px_W) :=
  if a1 = 1 then (
    (gI w a0 15 44).bind fun v64 =>
    fX15_shrink_20 X  a0 a1 v64 w
  ) else (
    (gI w a0 15 44).bind fun v62 =>
    (fX15_up X w v62 2).bind fun q63 =>
    fX15_shrink_20 X  a0 a1 q63.1 q63.2
  )
def fX15_fit_40 (X : px_X) (k2 : Nat → Int32 → Int32 → Int32 → px_W → Option (px_W)) (a0 : Nat) (a1 : Int32) (a2 : Int32) (a3 : Int32) (w : px_W) : Option (px_W) :=
  k2 a0 a1 a2 (a3 + 1) w
def fX15_fit_10 (X : px_X) (k2 : Nat → Int32 → Int32 → Int32 → px_W → Option (px_W)) : Nat → Nat → Int32 → Int32 → Int32 → Int32 → px_W → Option (px_W)
  | 0, _, _, _, _, _, _ => none
  | m + 1, a0, a1, a2, a3, a4, w =>
    if a1 ≤ a4 then (
      fX15_fit_40 X k2 a0 a1 a2 a3 w
    ) else (
      (gR w a0 15 43).bind fun v8 =>
      (gO w a0 15).bind fun o9 =>
      (fX15_sample X w a0 a4 a3).bind fun q10 =>
      (sN id q10.2 0 v8 ((a1 * a3) + a4) q10.1).bind fun w11 =>
      fX15_fit_10 X k2 m a0 a1 a2 a3 (a4 + 1) w11
    )
def fX15_fit_46 (X : px_X)  (a0 : Nat) (a1 : Int32) (a2 : Int32) (w : px_W) : Option (px_W) :=
  (gO w a0 15).bind fun o12 =>
  (fX15_become X w a0 a1 a2).bind fun q13 =>
  some q13
def fX15_fit_2 (X : px_X)  : Nat → Nat → Int32 → Int32 → Int32 → px_W → Option (px_W)
  | 0, _, _, _, _, _ => none
  | m + 1, a0, a1, a2, a3, w =>
    if a2 ≤ a3 then (
      fX15_fit_46 X  a0 a1 a2 w
    ) else (
      fX15_fit_10 X (fX15_fit_2 X  m) FU a0 a1 a2 a3 0 w
    )
def fX15_fit (X : px_X) (w : px_W) (a0 : Nat) (a1 : Int32) (a2 : Int32) : Option (px_W) :=
  fX15_fit_2 X  FU a0 a1 a2 0 w
def fX15_paintPlane_156 (X : px_X)  : Nat → Nat → Int32 → Int32 → px_W → Option (px_W)
  | 0, _, _, _, _ => none
  | m + 1, a0, a1, a2, w =>
    (gR w a0 15 23).bind fun v49 =>
    (aN w 0 v49 a1).bind fun v50 =>
    (gR w a0 15 24).bind fun v51 =>
    (aN w 0 v51 a1).bind fun v52 =>
    if (v50 * v52) ≤ a2 then (
      some w
    ) else (
      (gR w a0 15 23).bind fun v54 =>
      (aN w 0 v54 a1).bind fun v55 =>
      (rI a2 v55).bind fun v56 =>
      (gR w a0 15 23).bind fun v57 =>
      (aN w 0 v57 a1).bind fun v58 =>
      (dI a2 v58).bind fun v59 =>
      (gO w a0 15).bind fun o60 =>
      (fX15_forward X w a0 a1 a2 (8 * v56) (8 * v59)).bind fun q61 =>
      fX15_paintPlane_156 X  m a0 a1 (a2 + 1) q61
    )
def fX15_paintPlane_132 (X : px_X)  (a0 : Nat) (a1 : Int32) (w : px_W) : Option (px_W) :=
  (gR w a0 15 23).bind fun v62 =>
  (aN w 0 v62 a1).bind fun v63 =>
  (gR w a0 15 24).bind fun v64 =>
  (aN w 0 v64 a1).bind fun v65 =>
  (gO w a0 15).bind fun o66 =>
  (fX15_fit X w a0 (8 * v63) (8 * v65)).bind fun q67 =>
  fX15_paintPlane_156 X  FU a0 a1 0 q67
def fX15_paintPlane_93 (X : px_X)  (a0 : Nat) (a1 : Int32) (w : px_W) : Option (px_W) :=
  (gR w a0 15 21).bind fun v68 =>
  (aN w 0 v68 a1).bind fun v69 =>
  (gI w a0 15 26).bind fun v70 =>
  if v70 ≤ v69 then (
    (gR w a0 15 22).bind fun v72 =>
    (aN w 0 v72 a1).bind fun v73 =>
    (gI w a0 15 27).bind fun v74 =>
    if v74 ≤ v73 then (
      fX15_paintPlane_132 X  a0 a1 w
    ) else (
      (gO w a0 15).bind fun o76 =>
      (fX15_shrink X w a0 1).bind fun q77 =>
      fX15_paintPlane_132 X  a0 a1 q77
    )
  ) else (
    (gO w a0 15).bind fun o78 =>
    (fX15_shrink X w a0 0).bind fun q79 =>
    fX15_paintPlane_132 X  a0 a1 q79
  )
def fX15_paintPlane_59 (X : px_X)  (a0 : Nat) (a1 : Int32) (w : px_W) : Option (px_W) :=
  (gR w a0 15 21).bind fun v80 =>
  (aN w 0 v80 a1).bind fun v81 =>
  (gI w a0 15 26).bind fun v82 =>
  if v82 ≤ v81 then (
    fX15_paintPlane_93 X  a0 a1 w
  ) else (
    (gR w a0 15 22).bind fun v84 =>
    (aN w 0 v84 a1).bind fun v85 =>
    (gI w a0 15 27).bind fun v86 =>
    if v86 ≤ v85 then (
      fX15_paintPlane_93 X  a0 a1 w
    ) else (
      (gO w a0 15).bind fun o88 =>
      (fX15_shrink X w a0 2).bind fun q89 =>
      fX15_paintPlane_132 X  a0 a1 q89
    )
  )
def fX15_paintPlane_22 (X : px_X)  : Nat → Nat → Int32 → Int32 → px_W → Option (px_W)
  | 0, _, _, _, _ => none
  | m + 1, a0, a1, a2, w =>
    (gI w a0 15 44).bind fun v90 =>
    (gI w a0 15 45).bind fun v91 =>
    if (v90 * v91) ≤ a2 then (
      fX15_paintPlane_59 X  a0 a1 w
    ) else (
      (gR w a0 15 42).bind fun v93 =>
      (gR w a0 15 39).bind fun v94 =>
      (aN w 0 v94 ((1024 * a1) + a2)).bind fun v95 =>
      (sN id w 0 v93 a2 v95).bind fun w96 =>
      fX15_paintPlane_22 X  m a0 a1 (a2 + 1) w96
    )
def fX15_paintPlane (X : px_X) (w : px_W) (a0 : Nat) (a1 : Int32) : Option (px_W) :=
  (gR w a0 15 40).bind fun v97 =>
  (aN w 0 v97 a1).bind fun v98 =>
  (pV w a0 15 44 (.int v98)).bind fun w99 =>
  (gR w99 a0 15 41).bind fun v100 =>
  (aN w99 0 v100 a1).bind fun v101 =>
  (pV w99 a0 15 45 (.int v101)).bind fun w102 =>
  fX15_paintPlane_22 X  FU a0 a1 0 w102
def fX15_paintFrom_114 (X : px_X) (k76 : Nat → Int32 → Int32 → Int32 → Int32 → Int32 → Int32 → Int32 → px_W → Option (Int32 × px_W)) (a0 : Nat) (a1 : Int32) (a2 : Int32) (a3 : Int32) (a4 : Int32) (a5 : Int32) (a7 : Int32) (s0 : Int32) (w : px_W) : Option (Int32 × px_W) :=
  k76 a0 a1 a2 a3 a4 a5 s0 (a7 + 1) w
def fX15_paintFrom_113 (X : px_X) (k76 : Nat → Int32 → Int32 → Int32 → Int32 → Int32 → Int32 → Int32 → px_W → Option (Int32 × px_W)) (a0 : Nat) (a1 : Int32) (a2 : Int32) (a3 : Int32) (a4 : Int32) (a5 : Int32) (a7 : Int32) (w : px_W) : Option (Int32 × px_W) :=
  fX15_paintFrom_114 X k76 a0 a1 a2 a3 a4 a5 a7 0 w
def fX15_paintFrom_347 (X : px_X) (k234 : Nat → Int32 → Int32 → Int32 → px_W → Option (Int32 × px_W)) (a0 : Nat) (a3 : Int32) (a5 : Int32) (a7 : Int32) (w : px_W) : Option (Int32 × px_W) :=
  (gO w a0 15).bind fun o26 =>
  (fX15_paintPlane X w a0 a7).bind fun q27 =>
  k234 a0 a3 a5 (a7 + 1) q27
def fX15_paintFrom_340 (X : px_X) (k234 : Nat → Int32 → Int32 → Int32 → px_W → Option (Int32 × px_W)) (k243 : Nat → Int32 → Int32 → Int32 → Int32 → px_W → Option (Int32 × px_W)) (a0 : Nat) (a3 : Int32) (a5 : Int32) (a7 : Int32) (a8 : Int32) (s0 : Int32) (s1 : Int32) (s2 : Nat) (w : px_W) : Option (Int32 × px_W) :=
  (sN id w 0 s2 s1 s0).bind fun w28 =>
  k243 a0 a3 a5 a7 (a8 + 1) w28
def fX15_paintFrom_274 (X : px_X) (k234 : Nat → Int32 → Int32 → Int32 → px_W → Option (Int32 × px_W)) (k243 : Nat → Int32 → Int32 → Int32 → Int32 → px_W → Option (Int32 × px_W)) (a0 : Nat) (a3 : Int32) (a5 : Int32) (a7 : Int32) (a8 : Int32) (s0 : Int32) (s1 : Int32) (w : px_W) : Option (Int32 × px_W) :=
  (gR w a0 15 36).bind fun v29 =>
  (aN w 0 v29 a8).bind fun v30 =>
  (gR w a0 15 37).bind fun v31 =>
  (aN w 0 v31 a8).bind fun v32 =>
  (dI (((s1 + (s0 * (v30 + v32))) * a5) + 50) 100).bind fun v33 =>
  (gR w a0 15 30).bind fun v34 =>
  if 1 ≤ v33 then (
    if v33 ≤ 255 then (
      fX15_paintFrom_340 X k234 k243 a0 a3 a5 a7 a8 v33 ((64 * a7) + a8) v34 w
    ) else (
      fX15_paintFrom_340 X k234 k243 a0 a3 a5 a7 a8 255 ((64 * a7) + a8) v34 w
    )
  ) else (
    fX15_paintFrom_340 X k234 k243 a0 a3 a5 a7 a8 1 ((64 * a7) + a8) v34 w
  )
def fX15_paintFrom_262 (X : px_X) (k234 : Nat → Int32 → Int32 → Int32 → px_W → Option (Int32 × px_W)) (k243 : Nat → Int32 → Int32 → Int32 → Int32 → px_W → Option (Int32 × px_W)) (a0 : Nat) (a3 : Int32) (a5 : Int32) (a7 : Int32) (a8 : Int32) (s0 : Int32) (w : px_W) : Option (Int32 × px_W) :=
  if a7 = 0 then (
    fX15_paintFrom_274 X k234 k243 a0 a3 a5 a7 a8 6 s0 w
  ) else (
    fX15_paintFrom_274 X k234 k243 a0 a3 a5 a7 a8 10 s0 w
  )
def fX15_paintFrom_243 (X : px_X) (k234 : Nat → Int32 → Int32 → Int32 → px_W → Option (Int32 × px_W)) : Nat → Nat → Int32 → Int32 → Int32 → Int32 → px_W → Option (Int32 × px_W)
  | 0, _, _, _, _, _, _ => none
  | m + 1, a0, a3, a5, a7, a8, w =>
    if 64 ≤ a8 then (
      fX15_paintFrom_347 X k234 a0 a3 a5 a7 w
    ) else (
      if a7 = 0 then (
        fX15_paintFrom_262 X k234 (fX15_paintFrom_243 X k234 m) a0 a3 a5 a7 a8 16 w
      ) else (
        fX15_paintFrom_262 X k234 (fX15_paintFrom_243 X k234 m) a0 a3 a5 a7 a8 17 w
      )
    )
def fX15_paintFrom_234 (X : px_X)  : Nat → Nat → Int32 → Int32 → Int32 → px_W → Option (Int32 × px_W)
  | 0, _, _, _, _, _ => none
  | m + 1, a0, a3, a5, a7, w =>
    if a3 ≤ a7 then (
      some (1, w)
    ) else (
      fX15_paintFrom_243 X (fX15_paintFrom_234 X  m) FU a0 a3 a5 a7 0 w
    )
def fX15_paintFrom_231 (X : px_X)  (a0 : Nat) (a3 : Int32) (a5 : Int32) (w : px_W) : Option (Int32 × px_W) :=
  fX15_paintFrom_234 X  FU a0 a3 a5 0 w
def fX15_paintFrom_209 (X : px_X)  : Nat → Nat → Int32 → Int32 → Int32 → px_W → Option (Int32 × px_W)
  | 0, _, _, _, _, _ => none
  | m + 1, a0, a3, a5, a7, w =>
    if 12288 ≤ a7 then (
      fX15_paintFrom_231 X  a0 a3 a5 w
    ) else (
      (gR w a0 15 31).bind fun v42 =>
      (sN (vp_nar .short) w 2 v42 a7 0).bind fun w43 =>
      fX15_paintFrom_209 X  m a0 a3 a5 (a7 + 1) w43
    )
def fX15_paintFrom_202 (X : px_X)  (a0 : Nat) (a3 : Int32) (a5 : Int32) (w : px_W) : Option (Int32 × px_W) :=
  (gO w a0 15).bind fun o44 =>
  (fX15_layOut X w a0).bind fun q45 =>
  fX15_paintFrom_209 X  FU a0 a3 a5 0 q45
def fX15_paintFrom_152 (X : px_X)  : Nat → Nat → Int32 → Int32 → Int32 → Int32 → px_W → Option (Int32 × px_W)
  | 0, _, _, _, _, _, _ => none
  | m + 1, a0, a3, a4, a5, a7, w =>
    if a3 ≤ a7 then (
      fX15_paintFrom_202 X  a0 a3 a5 w
    ) else (
      (gR w a0 15 21).bind fun v47 =>
      (sN id w 0 v47 a7 (1 + ((a4 >>> ((2 * a7) &&& 31)) &&& 1))).bind fun w48 =>
      (gR w48 a0 15 22).bind fun v49 =>
      (sN id w48 0 v49 a7 (1 + ((a4 >>> (((2 * a7) + 1) &&& 31)) &&& 1))).bind fun w50 =>
      fX15_paintFrom_152 X  m a0 a3 a4 a5 (a7 + 1) w50
    )
def fX15_paintFrom_122 (X : px_X)  (a0 : Nat) (a1 : Int32) (a2 : Int32) (a3 : Int32) (a4 : Int32) (a5 : Int32) (a6 : Int32) (w : px_W) : Option (Int32 × px_W) :=
  if a6 = 0 then (
    some (0, w)
  ) else (
    (pZ w a0 15 17 1).bind fun w52 =>
    (pV w52 a0 15 18 (.int a1)).bind fun w53 =>
    (pV w53 a0 15 19 (.int a2)).bind fun w54 =>
    (pV w54 a0 15 20 (.int a3)).bind fun w55 =>
    fX15_paintFrom_152 X  FU a0 a3 a4 a5 0 w55
  )
def fX15_paintFrom_76 (X : px_X)  : Nat → Nat → Int32 → Int32 → Int32 → Int32 → Int32 → Int32 → Int32 → px_W → Option (Int32 × px_W)
  | 0, _, _, _, _, _, _, _, _, _ => none
  | m + 1, a0, a1, a2, a3, a4, a5, a6, a7, w =>
    if a3 ≤ a7 then (
      fX15_paintFrom_122 X  a0 a1 a2 a3 a4 a5 a6 w
    ) else (
      if a6 = 0 then (
        fX15_paintFrom_122 X  a0 a1 a2 a3 a4 a5 a6 w
      ) else (
        (gR w a0 15 40).bind fun v58 =>
        (aN w 0 v58 a7).bind fun v59 =>
        if v59 = a1 then (
          (gR w a0 15 41).bind fun v61 =>
          (aN w 0 v61 a7).bind fun v62 =>
          if v62 = a2 then (
            fX15_paintFrom_114 X (fX15_paintFrom_76 X  m) a0 a1 a2 a3 a4 a5 a7 1 w
          ) else (
            fX15_paintFrom_113 X (fX15_paintFrom_76 X  m) a0 a1 a2 a3 a4 a5 a7 w
          )
        ) else (
          fX15_paintFrom_113 X (fX15_paintFrom_76 X  m) a0 a1 a2 a3 a4 a5 a7 w
        )
      )
    )
def fX15_paintFrom_71 (X : px_X)  (a0 : Nat) (a1 : Int32) (a2 : Int32) (a3 : Int32) (a4 : Int32) (a5 : Int32) (s0 : Int32) (w : px_W) : Option (Int32 × px_W) :=
  fX15_paintFrom_76 X  FU a0 a1 a2 a3 a4 a5 s0 0 w
def fX15_paintFrom_70 (X : px_X)  (a0 : Nat) (a1 : Int32) (a2 : Int32) (a3 : Int32) (a4 : Int32) (a5 : Int32) (w : px_W) : Option (Int32 × px_W) :=
  fX15_paintFrom_71 X  a0 a1 a2 a3 a4 a5 0 w
def fX15_paintFrom_61 (X : px_X)  (a0 : Nat) (a1 : Int32) (a2 : Int32) (a3 : Int32) (a4 : Int32) (a5 : Int32) (s0 : Int32) (s1 : Int32) (s2 : Int32) (s3 : Int32) (w : px_W) : Option (Int32 × px_W) :=
  if (s2 <<< ((s1 * s0) &&& 31)) ≤ s3 then (
    fX15_paintFrom_70 X  a0 a1 a2 a3 a4 a5 w
  ) else (
    fX15_paintFrom_71 X  a0 a1 a2 a3 a4 a5 1 w
  )
def fX15_paintFrom (X : px_X) (w : px_W) (a0 : Nat) (a1 : Int32) (a2 : Int32) (a3 : Int32) (a4 : Int32) (a5 : Int32) : Option (Int32 × px_W) :=
  if a1 ≤ 0 then (
    fX15_paintFrom_70 X  a0 a1 a2 a3 a4 a5 w
  ) else (
    if 33 ≤ a1 then (
      fX15_paintFrom_70 X  a0 a1 a2 a3 a4 a5 w
    ) else (
      if a2 ≤ 0 then (
        fX15_paintFrom_70 X  a0 a1 a2 a3 a4 a5 w
      ) else (
        if 33 ≤ a2 then (
          fX15_paintFrom_70 X  a0 a1 a2 a3 a4 a5 w
        ) else (
          if a3 ≤ 0 then (
            fX15_paintFrom_70 X  a0 a1 a2 a3 a4 a5 w
          ) else (
            if 5 ≤ a3 then (
              fX15_paintFrom_70 X  a0 a1 a2 a3 a4 a5 w
            ) else (
              if a5 ≤ 0 then (
                fX15_paintFrom_70 X  a0 a1 a2 a3 a4 a5 w
              ) else (
                if 5001 ≤ a5 then (
                  fX15_paintFrom_70 X  a0 a1 a2 a3 a4 a5 w
                ) else (
                  if a4 < 0 then (
                    fX15_paintFrom_70 X  a0 a1 a2 a3 a4 a5 w
                  ) else (
                    if 5 ≤ a3 then (
                      fX15_paintFrom_61 X  a0 a1 a2 a3 a4 a5 4 2 1 a4 w
                    ) else (
                      fX15_paintFrom_61 X  a0 a1 a2 a3 a4 a5 a3 2 1 a4 w
                    )
                  )
                )
              )
            )
          )
        )
      )
    )
  )
def fX15_showAt_342 (X : px_X) (k73 : Nat → Int32 → Int32 → Int32 → Int32 → Int32 → px_W → Option (Int32 × px_W)) (k286 : Nat → Int32 → Int32 → Int32 → Int32 → Int32 → Int32 → px_W → Option (Int32 × px_W)) (a0 : Nat) (a1 : Int32) (a2 : Int32) (a3 : Int32) (a4 : Int32) (a5 : Int32) (a6 : Int32) (w : px_W) : Option (Int32 × px_W) :=
  k286 a0 a1 a2 a3 a4 a5 (a6 + 1) w
def fX15_showAt_296 (X : px_X) (k73 : Nat → Int32 → Int32 → Int32 → Int32 → Int32 → px_W → Option (Int32 × px_W)) (k286 : Nat → Int32 → Int32 → Int32 → Int32 → Int32 → Int32 → px_W → Option (Int32 × px_W)) : Nat → Nat → Int32 → Int32 → Int32 → Int32 → Int32 → Int32 → Int32 → px_W → Option (Int32 × px_W)
  | 0, _, _, _, _, _, _, _, _, _ => none
  | m + 1, a0, a1, a2, a3, a4, a5, a6, a7, w =>
    if a3 ≤ a7 then (
      fX15_showAt_342 X k73 k286 a0 a1 a2 a3 a4 a5 a6 w
    ) else (
      (gR w a0 15 39).bind fun v59 =>
      (gR w a0 15 42).bind fun v60 =>
      (gI w a0 15 44).bind fun v61 =>
      (aN w 0 v60 ((v61 * a6) + a7)).bind fun v62 =>
      (sN id w 0 v59 (((1024 * a5) + (a3 * a6)) + a7) v62).bind fun w63 =>
      fX15_showAt_296 X k73 k286 m a0 a1 a2 a3 a4 a5 a6 (a7 + 1) w63
    )
def fX15_showAt_348 (X : px_X) (k73 : Nat → Int32 → Int32 → Int32 → Int32 → Int32 → px_W → Option (Int32 × px_W)) (a0 : Nat) (a1 : Int32) (a2 : Int32) (a3 : Int32) (a4 : Int32) (a5 : Int32) (w : px_W) : Option (Int32 × px_W) :=
  k73 a0 a1 a2 a3 a4 (a5 + 1) w
def fX15_showAt_286 (X : px_X) (k73 : Nat → Int32 → Int32 → Int32 → Int32 → Int32 → px_W → Option (Int32 × px_W)) : Nat → Nat → Int32 → Int32 → Int32 → Int32 → Int32 → Int32 → px_W → Option (Int32 × px_W)
  | 0, _, _, _, _, _, _, _, _ => none
  | m + 1, a0, a1, a2, a3, a4, a5, a6, w =>
    if a4 ≤ a6 then (
      fX15_showAt_348 X k73 a0 a1 a2 a3 a4 a5 w
    ) else (
      fX15_showAt_296 X k73 (fX15_showAt_286 X k73 m) FU a0 a1 a2 a3 a4 a5 a6 0 w
    )
def fX15_showAt_266 (X : px_X) (k73 : Nat → Int32 → Int32 → Int32 → Int32 → Int32 → px_W → Option (Int32 × px_W)) (a0 : Nat) (a1 : Int32) (a2 : Int32) (a3 : Int32) (a4 : Int32) (a5 : Int32) (w : px_W) : Option (Int32 × px_W) :=
  (gR w a0 15 40).bind fun v65 =>
  (sN id w 0 v65 a5 a3).bind fun w66 =>
  (gR w66 a0 15 41).bind fun v67 =>
  (sN id w66 0 v67 a5 a4).bind fun w68 =>
  fX15_showAt_286 X k73 FU a0 a1 a2 a3 a4 a5 0 w68
def fX15_showAt_246 (X : px_X) (k73 : Nat → Int32 → Int32 → Int32 → Int32 → Int32 → px_W → Option (Int32 × px_W)) (a0 : Nat) (a1 : Int32) (a2 : Int32) (a3 : Int32) (a4 : Int32) (a5 : Int32) (w : px_W) : Option (Int32 × px_W) :=
  (gR w a0 15 22).bind fun v69 =>
  (aN w 0 v69 a5).bind fun v70 =>
  (gI w a0 15 27).bind fun v71 =>
  if v71 ≤ v70 then (
    fX15_showAt_266 X k73 a0 a1 a2 a3 a4 a5 w
  ) else (
    (gO w a0 15).bind fun o73 =>
    (fX15_grow X w a0 0 a2).bind fun q74 =>
    fX15_showAt_266 X k73 a0 a1 a2 a3 a4 a5 q74
  )
def fX15_showAt_170 (X : px_X) (k73 : Nat → Int32 → Int32 → Int32 → Int32 → Int32 → px_W → Option (Int32 × px_W)) (a0 : Nat) (a1 : Int32) (a2 : Int32) (a3 : Int32) (a4 : Int32) (a5 : Int32) (w : px_W) : Option (Int32 × px_W) :=
  (gI w a0 15 18).bind fun v75 =>
  (gR w a0 15 21).bind fun v76 =>
  (aN w 0 v76 a5).bind fun v77 =>
  (gI w a0 15 26).bind fun v78 =>
  (fX15_up X w (v75 * v77) v78).bind fun q79 =>
  (fX15_up X q79.2 (q79.1 * a1) 8).bind fun q80 =>
  (gI q80.2 a0 15 19).bind fun v81 =>
  (gR q80.2 a0 15 22).bind fun v82 =>
  (aN q80.2 0 v82 a5).bind fun v83 =>
  (gI q80.2 a0 15 27).bind fun v84 =>
  (fX15_up X q80.2 (v81 * v83) v84).bind fun q85 =>
  (fX15_up X q85.2 (q85.1 * a1) 8).bind fun q86 =>
  (gO q86.2 a0 15).bind fun o87 =>
  (fX15_fit X q86.2 a0 q80.1 q86.1).bind fun q88 =>
  (gR q88 a0 15 21).bind fun v89 =>
  (aN q88 0 v89 a5).bind fun v90 =>
  (gI q88 a0 15 26).bind fun v91 =>
  if v91 ≤ v90 then (
    fX15_showAt_246 X k73 a0 a1 a2 a3 a4 a5 q88
  ) else (
    (gO q88 a0 15).bind fun o93 =>
    (fX15_grow X q88 a0 1 a2).bind fun q94 =>
    fX15_showAt_246 X k73 a0 a1 a2 a3 a4 a5 q94
  )
def fX15_showAt_111 (X : px_X) (k73 : Nat → Int32 → Int32 → Int32 → Int32 → Int32 → px_W → Option (Int32 × px_W)) : Nat → Nat → Int32 → Int32 → Int32 → Int32 → Int32 → Int32 → px_W → Option (Int32 × px_W)
  | 0, _, _, _, _, _, _, _, _ => none
  | m + 1, a0, a1, a2, a3, a4, a5, a6, w =>
    (gR w a0 15 23).bind fun v95 =>
    (aN w 0 v95 a5).bind fun v96 =>
    (gR w a0 15 24).bind fun v97 =>
    (aN w 0 v97 a5).bind fun v98 =>
    if (v96 * v98) ≤ a6 then (
      fX15_showAt_170 X k73 a0 a1 a2 a3 a4 a5 w
    ) else (
      (gR w a0 15 23).bind fun v100 =>
      (aN w 0 v100 a5).bind fun v101 =>
      (rI a6 v101).bind fun v102 =>
      (gR w a0 15 23).bind fun v103 =>
      (aN w 0 v103 a5).bind fun v104 =>
      (dI a6 v104).bind fun v105 =>
      (gO w a0 15).bind fun o106 =>
      (fX15_back X w a0 a5 a6 a1 (a1 * v102) (a1 * v105)).bind fun q107 =>
      fX15_showAt_111 X k73 m a0 a1 a2 a3 a4 a5 (a6 + 1) q107
    )
def fX15_showAt_73 (X : px_X)  : Nat → Nat → Int32 → Int32 → Int32 → Int32 → Int32 → px_W → Option (Int32 × px_W)
  | 0, _, _, _, _, _, _, _ => none
  | m + 1, a0, a1, a2, a3, a4, a5, w =>
    (gI w a0 15 20).bind fun v108 =>
    if v108 ≤ a5 then (
      some (1, w)
    ) else (
      (gR w a0 15 23).bind fun v110 =>
      (aN w 0 v110 a5).bind fun v111 =>
      (pV w a0 15 44 (.int (a1 * v111))).bind fun w112 =>
      (gR w112 a0 15 24).bind fun v113 =>
      (aN w112 0 v113 a5).bind fun v114 =>
      (pV w112 a0 15 45 (.int (a1 * v114))).bind fun w115 =>
      fX15_showAt_111 X (fX15_showAt_73 X  m) FU a0 a1 a2 a3 a4 a5 0 w115
    )
def fX15_showAt_30 (X : px_X)  (a0 : Nat) (a1 : Int32) (a2 : Int32) (w : px_W) : Option (Int32 × px_W) :=
  (gI w a0 15 18).bind fun v116 =>
  (fX15_up X w (v116 * a1) 8).bind fun q117 =>
  (gI q117.2 a0 15 19).bind fun v118 =>
  (fX15_up X q117.2 (v118 * a1) 8).bind fun q119 =>
  if 32 < q117.1 then (
    some (0, q119.2)
  ) else (
    if q119.1 ≤ 32 then (
      fX15_showAt_73 X  FU a0 a1 a2 q117.1 q119.1 0 q119.2
    ) else (
      some (0, q119.2)
    )
  )
def fX15_showAt (X : px_X) (w : px_W) (a0 : Nat) (a1 : Int32) (a2 : Int32) : Option (Int32 × px_W) :=
  (gI w a0 15 17).bind fun v122 =>
  if v122 = 0 then (
    some (0, w)
  ) else (
    if a1 = 1 then (
      fX15_showAt_30 X  a0 a1 a2 w
    ) else (
      if a1 = 2 then (
        fX15_showAt_30 X  a0 a1 a2 w
      ) else (
        if a1 = 4 then (
          fX15_showAt_30 X  a0 a1 a2 w
        ) else (
          if a1 = 8 then (
            fX15_showAt_30 X  a0 a1 a2 w
          ) else (
            some (0, w)
          )
        )
      )
    )
  )
def fX15_keep_73 (X : px_X)  : Nat → Nat → Int32 → px_W → Option (px_W)
  | 0, _, _, _ => none
  | m + 1, a0, a1, w =>
    if 256 ≤ a1 then (
      some w
    ) else (
      (gR w a0 15 35).bind fun v20 =>
      (gR w a0 15 30).bind fun v21 =>
      (aN w 0 v21 a1).bind fun v22 =>
      (sN id w 0 v20 a1 v22).bind fun w23 =>
      fX15_keep_73 X  m a0 (a1 + 1) w23
    )
def fX15_keep_71 (X : px_X)  (a0 : Nat) (w : px_W) : Option (px_W) :=
  fX15_keep_73 X  FU a0 0 w
def fX15_keep_36 (X : px_X)  : Nat → Nat → Int32 → px_W → Option (px_W)
  | 0, _, _, _ => none
  | m + 1, a0, a1, w =>
    if 4 ≤ a1 then (
      fX15_keep_71 X  a0 w
    ) else (
      (gR w a0 15 33).bind fun v25 =>
      (gR w a0 15 23).bind fun v26 =>
      (aN w 0 v26 a1).bind fun v27 =>
      (sN id w 0 v25 a1 v27).bind fun w28 =>
      (gR w28 a0 15 34).bind fun v29 =>
      (gR w28 a0 15 25).bind fun v30 =>
      (aN w28 0 v30 a1).bind fun v31 =>
      (sN id w28 0 v29 a1 v31).bind fun w32 =>
      fX15_keep_36 X  m a0 (a1 + 1) w32
    )
def fX15_keep_34 (X : px_X)  (a0 : Nat) (w : px_W) : Option (px_W) :=
  fX15_keep_36 X  FU a0 0 w
def fX15_keep_2 (X : px_X)  : Nat → Nat → Int32 → px_W → Option (px_W)
  | 0, _, _, _ => none
  | m + 1, a0, a1, w =>
    if 12288 ≤ a1 then (
      fX15_keep_34 X  a0 w
    ) else (
      (gR w a0 15 32).bind fun v34 =>
      (gR w a0 15 31).bind fun v35 =>
      (aN w 2 v35 a1).bind fun v36 =>
      (sN (vp_nar .short) w 2 v34 a1 v36).bind fun w37 =>
      (gR w37 a0 15 31).bind fun v38 =>
      (sN (vp_nar .short) w37 2 v38 a1 0).bind fun w39 =>
      fX15_keep_2 X  m a0 (a1 + 1) w39
    )
def fX15_keep (X : px_X) (w : px_W) (a0 : Nat) : Option (px_W) :=
  fX15_keep_2 X  FU a0 0 w
def fX15_transpose_232 (X : px_X) (k70 : Nat → Int32 → px_W → Option (px_W)) (a0 : Nat) (a2 : Int32) (w : px_W) : Option (px_W) :=
  k70 a0 (a2 + 1) w
def fX15_transpose_226 (X : px_X) (k70 : Nat → Int32 → px_W → Option (px_W)) (k80 : Nat → Int32 → Int32 → px_W → Option (px_W)) (a0 : Nat) (a2 : Int32) (a3 : Int32) (w : px_W) : Option (px_W) :=
  k80 a0 a2 (a3 + 1) w
def fX15_transpose_135 (X : px_X) (k70 : Nat → Int32 → px_W → Option (px_W)) (k80 : Nat → Int32 → Int32 → px_W → Option (px_W)) : Nat → Nat → Int32 → Int32 → Int32 → Int32 → px_W → Option (px_W)
  | 0, _, _, _, _, _, _ => none
  | m + 1, a0, a2, a3, a4, a5, w =>
    (gR w a0 15 23).bind fun v49 =>
    (aN w 0 v49 a2).bind fun v50 =>
    (gR w a0 15 24).bind fun v51 =>
    (aN w 0 v51 a2).bind fun v52 =>
    if (v50 * v52) ≤ a5 then (
      fX15_transpose_226 X k70 k80 a0 a2 a3 w
    ) else (
      (gR w a0 15 34).bind fun v54 =>
      (aN w 0 v54 a2).bind fun v55 =>
      (gR w a0 15 23).bind fun v56 =>
      (aN w 0 v56 a2).bind fun v57 =>
      (rI a5 v57).bind fun v58 =>
      (gR w a0 15 33).bind fun v59 =>
      (aN w 0 v59 a2).bind fun v60 =>
      (gR w a0 15 23).bind fun v61 =>
      (aN w 0 v61 a2).bind fun v62 =>
      (dI a5 v62).bind fun v63 =>
      (gR w a0 15 31).bind fun v64 =>
      (gR w a0 15 25).bind fun v65 =>
      (aN w 0 v65 a2).bind fun v66 =>
      (gR w a0 15 32).bind fun v67 =>
      (aN w 2 v67 ((64 * ((v55 + (v58 * v60)) + v63)) + a4)).bind fun v68 =>
      (sN (vp_nar .short) w 2 v64 ((64 * (v66 + a5)) + a3) v68).bind fun w69 =>
      fX15_transpose_135 X k70 k80 m a0 a2 a3 a4 (a5 + 1) w69
    )
def fX15_transpose_80 (X : px_X) (k70 : Nat → Int32 → px_W → Option (px_W)) : Nat → Nat → Int32 → Int32 → px_W → Option (px_W)
  | 0, _, _, _, _ => none
  | m + 1, a0, a2, a3, w =>
    if 64 ≤ a3 then (
      fX15_transpose_232 X k70 a0 a2 w
    ) else (
      (gR w a0 15 38).bind fun v71 =>
      (gR w a0 15 37).bind fun v72 =>
      (aN w 0 v72 a3).bind fun v73 =>
      (gR w a0 15 36).bind fun v74 =>
      (aN w 0 v74 a3).bind fun v75 =>
      (aN w 0 v71 ((8 * v73) + v75)).bind fun v76 =>
      (gR w a0 15 30).bind fun v77 =>
      (gR w a0 15 35).bind fun v78 =>
      (aN w 0 v78 ((64 * a2) + v76)).bind fun v79 =>
      (sN id w 0 v77 ((64 * a2) + a3) v79).bind fun w80 =>
      fX15_transpose_135 X k70 (fX15_transpose_80 X k70 m) FU a0 a2 a3 v76 0 w80
    )
def fX15_transpose_70 (X : px_X)  : Nat → Nat → Int32 → px_W → Option (px_W)
  | 0, _, _, _ => none
  | m + 1, a0, a2, w =>
    (gI w a0 15 20).bind fun v81 =>
    if v81 ≤ a2 then (
      some w
    ) else (
      fX15_transpose_80 X (fX15_transpose_70 X  m) FU a0 a2 0 w
    )
def fX15_transpose_64 (X : px_X)  (a0 : Nat) (w : px_W) : Option (px_W) :=
  (gO w a0 15).bind fun o83 =>
  (fX15_layOut X w a0).bind fun q84 =>
  fX15_transpose_70 X  FU a0 0 q84
def fX15_transpose_24 (X : px_X)  : Nat → Nat → Int32 → px_W → Option (px_W)
  | 0, _, _, _ => none
  | m + 1, a0, a2, w =>
    (gI w a0 15 20).bind fun v85 =>
    if v85 ≤ a2 then (
      fX15_transpose_64 X  a0 w
    ) else (
      (gR w a0 15 21).bind fun v87 =>
      (aN w 0 v87 a2).bind fun v88 =>
      (gR w a0 15 21).bind fun v89 =>
      (gR w a0 15 22).bind fun v90 =>
      (aN w 0 v90 a2).bind fun v91 =>
      (sN id w 0 v89 a2 v91).bind fun w92 =>
      (gR w92 a0 15 22).bind fun v93 =>
      (sN id w92 0 v93 a2 v88).bind fun w94 =>
      fX15_transpose_24 X  m a0 (a2 + 1) w94
    )
def fX15_transpose (X : px_X) (w : px_W) (a0 : Nat) : Option (px_W) :=
  (gO w a0 15).bind fun o95 =>
  (fX15_keep X w a0).bind fun q96 =>
  (gI q96 a0 15 18).bind fun v97 =>
  (gI q96 a0 15 19).bind fun v98 =>
  (pV q96 a0 15 18 (.int v98)).bind fun w99 =>
  (pV w99 a0 15 19 (.int v97)).bind fun w100 =>
  fX15_transpose_24 X  FU a0 0 w100
def fX15_mirror_281 (X : px_X) (k80 : Nat → Int32 → Int32 → px_W → Option (px_W)) (a0 : Nat) (a1 : Int32) (a2 : Int32) (w : px_W) : Option (px_W) :=
  k80 a0 a1 (a2 + 1) w
def fX15_mirror_267 (X : px_X) (k80 : Nat → Int32 → Int32 → px_W → Option (px_W)) (k90 : Nat → Int32 → Int32 → Int32 → px_W → Option (px_W)) (k188 : Nat → Int32 → Int32 → Int32 → Int32 → Int32 → px_W → Option (px_W)) (a0 : Nat) (a1 : Int32) (a2 : Int32) (a3 : Int32) (a6 : Int32) (a7 : Int32) (s0 : Int32) (s1 : Int32) (s2 : Nat) (w : px_W) : Option (px_W) :=
  (sN (vp_nar .short) w 2 s2 s1 s0.toInt16.toInt32).bind fun w49 =>
  k188 a0 a1 a2 a3 a6 (a7 + 1) w49
def fX15_mirror_216 (X : px_X) (k80 : Nat → Int32 → Int32 → px_W → Option (px_W)) (k90 : Nat → Int32 → Int32 → Int32 → px_W → Option (px_W)) (k188 : Nat → Int32 → Int32 → Int32 → Int32 → Int32 → px_W → Option (px_W)) (a0 : Nat) (a1 : Int32) (a2 : Int32) (a3 : Int32) (a6 : Int32) (a7 : Int32) (s0 : Int32) (w : px_W) : Option (px_W) :=
  (rI s0 2).bind fun v50 =>
  (gR w a0 15 32).bind fun v51 =>
  (aN w 2 v51 ((64 * a6) + a7)).bind fun v52 =>
  (gR w a0 15 31).bind fun v53 =>
  (gR w a0 15 25).bind fun v54 =>
  (aN w 0 v54 a2).bind fun v55 =>
  if v50 = 1 then (
    fX15_mirror_267 X k80 k90 k188 a0 a1 a2 a3 a6 a7 (-v52) ((64 * (v55 + a3)) + a7) v53 w
  ) else (
    fX15_mirror_267 X k80 k90 k188 a0 a1 a2 a3 a6 a7 v52 ((64 * (v55 + a3)) + a7) v53 w
  )
def fX15_mirror_275 (X : px_X) (k80 : Nat → Int32 → Int32 → px_W → Option (px_W)) (k90 : Nat → Int32 → Int32 → Int32 → px_W → Option (px_W)) (a0 : Nat) (a1 : Int32) (a2 : Int32) (a3 : Int32) (w : px_W) : Option (px_W) :=
  k90 a0 a1 a2 (a3 + 1) w
def fX15_mirror_188 (X : px_X) (k80 : Nat → Int32 → Int32 → px_W → Option (px_W)) (k90 : Nat → Int32 → Int32 → Int32 → px_W → Option (px_W)) : Nat → Nat → Int32 → Int32 → Int32 → Int32 → Int32 → px_W → Option (px_W)
  | 0, _, _, _, _, _, _, _ => none
  | m + 1, a0, a1, a2, a3, a6, a7, w =>
    if 64 ≤ a7 then (
      fX15_mirror_275 X k80 k90 a0 a1 a2 a3 w
    ) else (
      if a1 = 0 then (
        (gR w a0 15 36).bind fun v59 =>
        (aN w 0 v59 a7).bind fun v60 =>
        fX15_mirror_216 X k80 k90 (fX15_mirror_188 X k80 k90 m) a0 a1 a2 a3 a6 a7 v60 w
      ) else (
        (gR w a0 15 37).bind fun v61 =>
        (aN w 0 v61 a7).bind fun v62 =>
        fX15_mirror_216 X k80 k90 (fX15_mirror_188 X k80 k90 m) a0 a1 a2 a3 a6 a7 v62 w
      )
    )
def fX15_mirror_182 (X : px_X) (k80 : Nat → Int32 → Int32 → px_W → Option (px_W)) (k90 : Nat → Int32 → Int32 → Int32 → px_W → Option (px_W)) (a0 : Nat) (a1 : Int32) (a2 : Int32) (a3 : Int32) (s0 : Int32) (s1 : Int32) (w : px_W) : Option (px_W) :=
  fX15_mirror_188 X k80 k90 FU a0 a1 a2 a3 (s1 + s0) 0 w
def fX15_mirror_90 (X : px_X) (k80 : Nat → Int32 → Int32 → px_W → Option (px_W)) : Nat → Nat → Int32 → Int32 → Int32 → px_W → Option (px_W)
  | 0, _, _, _, _, _ => none
  | m + 1, a0, a1, a2, a3, w =>
    (gR w a0 15 23).bind fun v63 =>
    (aN w 0 v63 a2).bind fun v64 =>
    (gR w a0 15 24).bind fun v65 =>
    (aN w 0 v65 a2).bind fun v66 =>
    if (v64 * v66) ≤ a3 then (
      fX15_mirror_281 X k80 a0 a1 a2 w
    ) else (
      (gR w a0 15 23).bind fun v68 =>
      (aN w 0 v68 a2).bind fun v69 =>
      (rI a3 v69).bind fun v70 =>
      (gR w a0 15 23).bind fun v71 =>
      (aN w 0 v71 a2).bind fun v72 =>
      (dI a3 v72).bind fun v73 =>
      (gR w a0 15 34).bind fun v74 =>
      (aN w 0 v74 a2).bind fun v75 =>
      if a1 = 0 then (
        (gR w a0 15 24).bind fun v77 =>
        (aN w 0 v77 a2).bind fun v78 =>
        (gR w a0 15 33).bind fun v79 =>
        (aN w 0 v79 a2).bind fun v80 =>
        fX15_mirror_182 X k80 (fX15_mirror_90 X k80 m) a0 a1 a2 a3 ((((v78 - 1) - v73) * v80) + v70) v75 w
      ) else (
        (gR w a0 15 33).bind fun v81 =>
        (aN w 0 v81 a2).bind fun v82 =>
        (gR w a0 15 23).bind fun v83 =>
        (aN w 0 v83 a2).bind fun v84 =>
        fX15_mirror_182 X k80 (fX15_mirror_90 X k80 m) a0 a1 a2 a3 ((((v73 * v82) + v84) - 1) - v70) v75 w
      )
    )
def fX15_mirror_80 (X : px_X)  : Nat → Nat → Int32 → Int32 → px_W → Option (px_W)
  | 0, _, _, _, _ => none
  | m + 1, a0, a1, a2, w =>
    (gI w a0 15 20).bind fun v85 =>
    if v85 ≤ a2 then (
      some w
    ) else (
      fX15_mirror_90 X (fX15_mirror_80 X  m) FU a0 a1 a2 0 w
    )
def fX15_mirror_71 (X : px_X)  (a0 : Nat) (a1 : Int32) (s0 : Int32) (s1 : Nat) (w : px_W) : Option (px_W) :=
  (pV w s1 15 19 (.int s0)).bind fun w87 =>
  (gO w87 a0 15).bind fun o88 =>
  (fX15_layOut X w87 a0).bind fun q89 =>
  fX15_mirror_80 X  FU a0 a1 0 q89
def fX15_mirror_36 (X : px_X)  (a0 : Nat) (a1 : Int32) (s0 : Int32) (s1 : Nat) (w : px_W) : Option (px_W) :=
  (pV w s1 15 18 (.int s0)).bind fun w90 =>
  if a1 = 0 then (
    (gI w90 a0 15 19).bind fun v92 =>
    (gI w90 a0 15 27).bind fun v93 =>
    (dI v92 (8 * v93)).bind fun v94 =>
    (gI w90 a0 15 27).bind fun v95 =>
    fX15_mirror_71 X  a0 a1 ((v94 * 8) * v95) a0 w90
  ) else (
    (gI w90 a0 15 19).bind fun v96 =>
    fX15_mirror_71 X  a0 a1 v96 a0 w90
  )
def fX15_mirror (X : px_X) (w : px_W) (a0 : Nat) (a1 : Int32) : Option (px_W) :=
  (gO w a0 15).bind fun o97 =>
  (fX15_keep X w a0).bind fun q98 =>
  if a1 = 0 then (
    (gI q98 a0 15 18).bind fun v100 =>
    fX15_mirror_36 X  a0 a1 v100 a0 q98
  ) else (
    (gI q98 a0 15 18).bind fun v101 =>
    (gI q98 a0 15 26).bind fun v102 =>
    (dI v101 (8 * v102)).bind fun v103 =>
    (gI q98 a0 15 26).bind fun v104 =>
    fX15_mirror_36 X  a0 a1 ((v103 * 8) * v104) a0 q98
  )
def fX15_turnBy_170 (X : px_X)  (a0 : Nat) (w : px_W) : Option (Int32 × px_W) :=
  (gO w a0 15).bind fun o12 =>
  (fX15_mirror X w a0 0).bind fun q13 =>
  some (1, q13)
def fX15_turnBy_155 (X : px_X)  (a0 : Nat) (a1 : Int32) (w : px_W) : Option (Int32 × px_W) :=
  if a1 = 2 then (
    fX15_turnBy_170 X  a0 w
  ) else (
    if a1 = 4 then (
      fX15_turnBy_170 X  a0 w
    ) else (
      if a1 = 5 then (
        fX15_turnBy_170 X  a0 w
      ) else (
        some (1, w)
      )
    )
  )
def fX15_turnBy_150 (X : px_X)  (a0 : Nat) (a1 : Int32) (w : px_W) : Option (Int32 × px_W) :=
  (gO w a0 15).bind fun o17 =>
  (fX15_mirror X w a0 1).bind fun q18 =>
  fX15_turnBy_155 X  a0 a1 q18
def fX15_turnBy_135 (X : px_X)  (a0 : Nat) (a1 : Int32) (w : px_W) : Option (Int32 × px_W) :=
  if a1 = 1 then (
    fX15_turnBy_150 X  a0 a1 w
  ) else (
    if a1 = 3 then (
      fX15_turnBy_150 X  a0 a1 w
    ) else (
      if a1 = 4 then (
        fX15_turnBy_150 X  a0 a1 w
      ) else (
        fX15_turnBy_155 X  a0 a1 w
      )
    )
  )
def fX15_turnBy_131 (X : px_X)  (a0 : Nat) (a1 : Int32) (w : px_W) : Option (Int32 × px_W) :=
  (gO w a0 15).bind fun o22 =>
  (fX15_transpose X w a0).bind fun q23 =>
  fX15_turnBy_135 X  a0 a1 q23
def fX15_turnBy_108 (X : px_X)  (a0 : Nat) (a1 : Int32) (s0 : Int32) (w : px_W) : Option (Int32 × px_W) :=
  if s0 = 0 then (
    some (0, w)
  ) else (
    if a1 = 0 then (
      fX15_turnBy_131 X  a0 a1 w
    ) else (
      if a1 = 3 then (
        fX15_turnBy_131 X  a0 a1 w
      ) else (
        if a1 = 5 then (
          fX15_turnBy_131 X  a0 a1 w
        ) else (
          fX15_turnBy_135 X  a0 a1 w
        )
      )
    )
  )
def fX15_turnBy_107 (X : px_X)  (a0 : Nat) (a1 : Int32) (w : px_W) : Option (Int32 × px_W) :=
  fX15_turnBy_108 X  a0 a1 0 w
def fX15_turnBy_103 (X : px_X)  (a0 : Nat) (a1 : Int32) (w : px_W) : Option (Int32 × px_W) :=
  fX15_turnBy_108 X  a0 a1 1 w
def fX15_turnBy_90 (X : px_X)  (a0 : Nat) (a1 : Int32) (a2 : Int32) (a3 : Int32) (w : px_W) : Option (Int32 × px_W) :=
  if a1 = 4 then (
    if a2 = 0 then (
      fX15_turnBy_107 X  a0 a1 w
    ) else (
      if a3 = 0 then (
        fX15_turnBy_107 X  a0 a1 w
      ) else (
        fX15_turnBy_103 X  a0 a1 w
      )
    )
  ) else (
    fX15_turnBy_107 X  a0 a1 w
  )
def fX15_turnBy_86 (X : px_X)  (a0 : Nat) (a1 : Int32) (a2 : Int32) (a3 : Int32) (w : px_W) : Option (Int32 × px_W) :=
  if a3 = 0 then (
    fX15_turnBy_90 X  a0 a1 a2 a3 w
  ) else (
    fX15_turnBy_103 X  a0 a1 w
  )
def fX15_turnBy_76 (X : px_X)  (a0 : Nat) (a1 : Int32) (a2 : Int32) (a3 : Int32) (w : px_W) : Option (Int32 × px_W) :=
  if a1 = 2 then (
    fX15_turnBy_86 X  a0 a1 a2 a3 w
  ) else (
    if a1 = 3 then (
      fX15_turnBy_86 X  a0 a1 a2 a3 w
    ) else (
      fX15_turnBy_90 X  a0 a1 a2 a3 w
    )
  )
def fX15_turnBy_72 (X : px_X)  (a0 : Nat) (a1 : Int32) (a2 : Int32) (a3 : Int32) (w : px_W) : Option (Int32 × px_W) :=
  if a2 = 0 then (
    fX15_turnBy_76 X  a0 a1 a2 a3 w
  ) else (
    fX15_turnBy_103 X  a0 a1 w
  )
def fX15_turnBy_57 (X : px_X)  (a0 : Nat) (a1 : Int32) (a2 : Int32) (s0 : Int32) (w : px_W) : Option (Int32 × px_W) :=
  if a1 = 0 then (
    fX15_turnBy_103 X  a0 a1 w
  ) else (
    if a1 = 1 then (
      fX15_turnBy_72 X  a0 a1 a2 s0 w
    ) else (
      if a1 = 5 then (
        fX15_turnBy_72 X  a0 a1 a2 s0 w
      ) else (
        fX15_turnBy_76 X  a0 a1 a2 s0 w
      )
    )
  )
def fX15_turnBy_37 (X : px_X)  (a0 : Nat) (a1 : Int32) (s0 : Int32) (w : px_W) : Option (Int32 × px_W) :=
  (gI w a0 15 19).bind fun v38 =>
  (gI w a0 15 27).bind fun v39 =>
  if v38 < (8 * v39) then (
    fX15_turnBy_57 X  a0 a1 s0 0 w
  ) else (
    fX15_turnBy_57 X  a0 a1 s0 1 w
  )
def fX15_turnBy (X : px_X) (w : px_W) (a0 : Nat) (a1 : Int32) : Option (Int32 × px_W) :=
  (gI w a0 15 17).bind fun v41 =>
  if v41 = 0 then (
    some (0, w)
  ) else (
    if a1 < 0 then (
      some (0, w)
    ) else (
      if a1 ≤ 5 then (
        (gI w a0 15 18).bind fun v45 =>
        (gI w a0 15 26).bind fun v46 =>
        if v45 < (8 * v46) then (
          fX15_turnBy_37 X  a0 a1 0 w
        ) else (
          fX15_turnBy_37 X  a0 a1 1 w
        )
      ) else (
        some (0, w)
      )
    )
  )
def fX15_cropTo_313 (X : px_X) (k166 : Nat → Int32 → Int32 → Int32 → px_W → Option (Int32 × px_W)) (a0 : Nat) (a1 : Int32) (a2 : Int32) (a7 : Int32) (w : px_W) : Option (Int32 × px_W) :=
  k166 a0 a1 a2 (a7 + 1) w
def fX15_cropTo_307 (X : px_X) (k166 : Nat → Int32 → Int32 → Int32 → px_W → Option (Int32 × px_W)) (k178 : Nat → Int32 → Int32 → Int32 → Int32 → px_W → Option (Int32 × px_W)) (a0 : Nat) (a1 : Int32) (a2 : Int32) (a7 : Int32) (a8 : Int32) (w : px_W) : Option (Int32 × px_W) :=
  k178 a0 a1 a2 a7 (a8 + 1) w
def fX15_cropTo_260 (X : px_X) (k166 : Nat → Int32 → Int32 → Int32 → px_W → Option (Int32 × px_W)) (k178 : Nat → Int32 → Int32 → Int32 → Int32 → px_W → Option (Int32 × px_W)) : Nat → Nat → Int32 → Int32 → Int32 → Int32 → Int32 → Int32 → px_W → Option (Int32 × px_W)
  | 0, _, _, _, _, _, _, _, _ => none
  | m + 1, a0, a1, a2, a7, a8, a9, a10, w =>
    if 64 ≤ a10 then (
      fX15_cropTo_307 X k166 k178 a0 a1 a2 a7 a8 w
    ) else (
      (gR w a0 15 31).bind fun v44 =>
      (gR w a0 15 25).bind fun v45 =>
      (aN w 0 v45 a7).bind fun v46 =>
      (gR w a0 15 32).bind fun v47 =>
      (aN w 2 v47 ((64 * a9) + a10)).bind fun v48 =>
      (sN (vp_nar .short) w 2 v44 ((64 * (v46 + a8)) + a10) v48).bind fun w49 =>
      fX15_cropTo_260 X k166 k178 m a0 a1 a2 a7 a8 a9 (a10 + 1) w49
    )
def fX15_cropTo_178 (X : px_X) (k166 : Nat → Int32 → Int32 → Int32 → px_W → Option (Int32 × px_W)) : Nat → Nat → Int32 → Int32 → Int32 → Int32 → px_W → Option (Int32 × px_W)
  | 0, _, _, _, _, _, _ => none
  | m + 1, a0, a1, a2, a7, a8, w =>
    (gR w a0 15 23).bind fun v50 =>
    (aN w 0 v50 a7).bind fun v51 =>
    (gR w a0 15 24).bind fun v52 =>
    (aN w 0 v52 a7).bind fun v53 =>
    if (v51 * v53) ≤ a8 then (
      fX15_cropTo_313 X k166 a0 a1 a2 a7 w
    ) else (
      (gR w a0 15 34).bind fun v55 =>
      (aN w 0 v55 a7).bind fun v56 =>
      (gR w a0 15 23).bind fun v57 =>
      (aN w 0 v57 a7).bind fun v58 =>
      (dI a8 v58).bind fun v59 =>
      (gR w a0 15 22).bind fun v60 =>
      (aN w 0 v60 a7).bind fun v61 =>
      (gR w a0 15 33).bind fun v62 =>
      (aN w 0 v62 a7).bind fun v63 =>
      (gR w a0 15 23).bind fun v64 =>
      (aN w 0 v64 a7).bind fun v65 =>
      (rI a8 v65).bind fun v66 =>
      (gR w a0 15 21).bind fun v67 =>
      (aN w 0 v67 a7).bind fun v68 =>
      fX15_cropTo_260 X k166 (fX15_cropTo_178 X k166 m) FU a0 a1 a2 a7 a8 (((v56 + ((v59 + (a2 * v61)) * v63)) + v66) + (a1 * v68)) 0 w
    )
def fX15_cropTo_166 (X : px_X)  : Nat → Nat → Int32 → Int32 → Int32 → px_W → Option (Int32 × px_W)
  | 0, _, _, _, _, _ => none
  | m + 1, a0, a1, a2, a7, w =>
    (gI w a0 15 20).bind fun v69 =>
    if v69 ≤ a7 then (
      some (1, w)
    ) else (
      fX15_cropTo_178 X (fX15_cropTo_166 X  m) FU a0 a1 a2 a7 0 w
    )
def fX15_cropTo_156 (X : px_X)  (a0 : Nat) (a1 : Int32) (a2 : Int32) (s0 : Int32) (s1 : Nat) (w : px_W) : Option (Int32 × px_W) :=
  (pV w s1 15 19 (.int s0)).bind fun w71 =>
  (gO w71 a0 15).bind fun o72 =>
  (fX15_layOut X w71 a0).bind fun q73 =>
  fX15_cropTo_166 X  FU a0 a1 a2 0 q73
def fX15_cropTo_122 (X : px_X)  (a0 : Nat) (a1 : Int32) (a2 : Int32) (a4 : Int32) (a6 : Int32) (s0 : Int32) (s1 : Nat) (w : px_W) : Option (Int32 × px_W) :=
  (pV w s1 15 18 (.int s0)).bind fun w74 =>
  (gI w74 a0 15 27).bind fun v75 =>
  if ((8 * v75) * a4) ≤ a6 then (
    (gI w74 a0 15 27).bind fun v77 =>
    fX15_cropTo_156 X  a0 a1 a2 ((8 * v77) * a4) a0 w74
  ) else (
    fX15_cropTo_156 X  a0 a1 a2 a6 a0 w74
  )
def fX15_cropTo (X : px_X) (w : px_W) (a0 : Nat) (a1 : Int32) (a2 : Int32) (a3 : Int32) (a4 : Int32) : Option (Int32 × px_W) :=
  (gI w a0 15 17).bind fun v78 =>
  if v78 = 0 then (
    some (0, w)
  ) else (
    if a3 < 1 then (
      some (0, w)
    ) else (
      if a4 < 1 then (
        some (0, w)
      ) else (
        if a1 < 0 then (
          some (0, w)
        ) else (
          if a2 < 0 then (
            some (0, w)
          ) else (
            (gI w a0 15 28).bind fun v84 =>
            if 0 < (lg_cmp (a1.toInt64 + a3.toInt64) v84.toInt64) then (
              some (0, w)
            ) else (
              (gI w a0 15 29).bind fun v86 =>
              if (lg_cmp (a2.toInt64 + a4.toInt64) v86.toInt64) ≤ 0 then (
                (gO w a0 15).bind fun o88 =>
                (fX15_keep X w a0).bind fun q89 =>
                (gI q89 a0 15 18).bind fun v90 =>
                (gI q89 a0 15 26).bind fun v91 =>
                (gI q89 a0 15 19).bind fun v92 =>
                (gI q89 a0 15 27).bind fun v93 =>
                (gI q89 a0 15 26).bind fun v94 =>
                if ((8 * v94) * a3) ≤ (v90 - ((8 * v91) * a1)) then (
                  (gI q89 a0 15 26).bind fun v96 =>
                  fX15_cropTo_122 X  a0 a1 a2 a4 (v92 - ((8 * v93) * a2)) ((8 * v96) * a3) a0 q89
                ) else (
                  fX15_cropTo_122 X  a0 a1 a2 a4 (v92 - ((8 * v93) * a2)) (v90 - ((8 * v91) * a1)) a0 q89
                )
              ) else (
                some (0, w)
              )
            )
          )
        )
      )
    )
  )
def fX15_isBlock_69 (X : px_X)  (s0 : Int32) (s1 : Nat) (s2 : Int32) (w : px_W) : Option (Int32 × px_W) :=
  (aN w 0 s1 s0).bind fun v7 =>
  if v7 ≤ s2 then (
    some (0, w)
  ) else (
    some (1, w)
  )
def fX15_isBlock_68 (X : px_X)  (s0 : Nat) (s1 : Int32) (w : px_W) : Option (Int32 × px_W) :=
  fX15_isBlock_69 X  0 s0 s1 w
def fX15_isBlock_42 (X : px_X)  (a0 : Nat) (a1 : Int32) (a3 : Int32) (s0 : Int32) (s1 : Nat) (s2 : Int32) (w : px_W) : Option (Int32 × px_W) :=
  (aN w 0 s1 s0).bind fun v9 =>
  if v9 ≤ s2 then (
    some (0, w)
  ) else (
    if a3 < 0 then (
      some (0, w)
    ) else (
      (gR w a0 15 24).bind fun v12 =>
      if a1 < 0 then (
        fX15_isBlock_68 X  v12 a3 w
      ) else (
        if 4 ≤ a1 then (
          fX15_isBlock_68 X  v12 a3 w
        ) else (
          fX15_isBlock_69 X  a1 v12 a3 w
        )
      )
    )
  )
def fX15_isBlock_41 (X : px_X)  (a0 : Nat) (a1 : Int32) (a3 : Int32) (s0 : Nat) (s1 : Int32) (w : px_W) : Option (Int32 × px_W) :=
  fX15_isBlock_42 X  a0 a1 a3 0 s0 s1 w
def fX15_isBlock (X : px_X) (w : px_W) (a0 : Nat) (a1 : Int32) (a2 : Int32) (a3 : Int32) : Option (Int32 × px_W) :=
  (gI w a0 15 17).bind fun v15 =>
  if v15 = 0 then (
    some (0, w)
  ) else (
    if a1 < 0 then (
      some (0, w)
    ) else (
      (gI w a0 15 20).bind fun v18 =>
      if v18 ≤ a1 then (
        some (0, w)
      ) else (
        if a2 < 0 then (
          some (0, w)
        ) else (
          (gR w a0 15 23).bind fun v21 =>
          if a1 < 0 then (
            fX15_isBlock_41 X  a0 a1 a3 v21 a2 w
          ) else (
            if 4 ≤ a1 then (
              fX15_isBlock_41 X  a0 a1 a3 v21 a2 w
            ) else (
              fX15_isBlock_42 X  a0 a1 a3 a1 v21 a2 w
            )
          )
        )
      )
    )
  )
def fX15_setCoefficient (X : px_X) (w : px_W) (a0 : Nat) (a1 : Int32) (a2 : Int32) (a3 : Int32) (a4 : Int32) (a5 : Int32) : Option (Int32 × px_W) :=
  (gO w a0 15).bind fun o10 =>
  (fX15_isBlock X w a0 a1 a2 a3).bind fun q11 =>
  if q11.1 = 0 then (
    some (0, q11.2)
  ) else (
    if a4 < 0 then (
      some (0, q11.2)
    ) else (
      if 63 < a4 then (
        some (0, q11.2)
      ) else (
        (fX15_canBe X q11.2 a4 a5).bind fun q15 =>
        if q15.1 = 0 then (
          some (0, q15.2)
        ) else (
          (gR q15.2 a0 15 31).bind fun v17 =>
          (gR q15.2 a0 15 25).bind fun v18 =>
          (aN q15.2 0 v18 a1).bind fun v19 =>
          (gR q15.2 a0 15 23).bind fun v20 =>
          (aN q15.2 0 v20 a1).bind fun v21 =>
          (sN (vp_nar .short) q15.2 2 v17 ((64 * ((v19 + (a3 * v21)) + a2)) + a4) a5.toInt16.toInt32).bind fun w22 =>
          some (1, w22)
        )
      )
    )
  )
def fX15_coefficientAt (X : px_X) (w : px_W) (a0 : Nat) (a1 : Int32) (a2 : Int32) (a3 : Int32) (a4 : Int32) : Option (Int32 × px_W) :=
  (gO w a0 15).bind fun o9 =>
  (fX15_isBlock X w a0 a1 a2 a3).bind fun q10 =>
  if q10.1 = 0 then (
    some (0, q10.2)
  ) else (
    if a4 < 0 then (
      some (0, q10.2)
    ) else (
      if a4 ≤ 63 then (
        (gR q10.2 a0 15 31).bind fun v14 =>
        (gR q10.2 a0 15 25).bind fun v15 =>
        (aN q10.2 0 v15 a1).bind fun v16 =>
        (gR q10.2 a0 15 23).bind fun v17 =>
        (aN q10.2 0 v17 a1).bind fun v18 =>
        (aN q10.2 2 v14 ((64 * ((v16 + (a3 * v18)) + a2)) + a4)).bind fun v19 =>
        some (v19, q10.2)
      ) else (
        some (0, q10.2)
      )
    )
  )
def fX15_stepAt (X : px_X) (w : px_W) (a0 : Nat) (a1 : Int32) (a2 : Int32) : Option (Int32 × px_W) :=
  (gI w a0 15 17).bind fun v5 =>
  if v5 = 0 then (
    some ((-1), w)
  ) else (
    if a1 < 0 then (
      some ((-1), w)
    ) else (
      (gI w a0 15 20).bind fun v8 =>
      if v8 ≤ a1 then (
        some ((-1), w)
      ) else (
        if a2 < 0 then (
          some ((-1), w)
        ) else (
          if a2 ≤ 63 then (
            (gR w a0 15 30).bind fun v12 =>
            (aN w 0 v12 ((64 * a1) + a2)).bind fun v13 =>
            some (v13, w)
          ) else (
            some ((-1), w)
          )
        )
      )
    )
  )
def fX15_isPlane (X : px_X) (w : px_W) (a0 : Int32) : Option (Int32 × px_W) :=
  if a0 < 0 then (
    some (0, w)
  ) else (
    if 4 ≤ a0 then (
      some (0, w)
    ) else (
      some (1, w)
    )
  )
def fX15_canvasSize_48 (X : px_X)  : Nat → Nat → Int32 → Int32 → px_W → Option (Int32 × px_W)
  | 0, _, _, _, _ => none
  | m + 1, a0, a1, a4, w =>
    if 1024 ≤ a4 then (
      some (1, w)
    ) else (
      (gR w a0 15 39).bind fun v9 =>
      (sN id w 0 v9 ((1024 * a1) + a4) 0).bind fun w10 =>
      fX15_canvasSize_48 X  m a0 a1 (a4 + 1) w10
    )
def fX15_canvasSize (X : px_X) (w : px_W) (a0 : Nat) (a1 : Int32) (a2 : Int32) (a3 : Int32) : Option (Int32 × px_W) :=
  (fX15_isPlane X w a1).bind fun q11 =>
  if q11.1 = 0 then (
    some (0, q11.2)
  ) else (
    if a2 < 1 then (
      some (0, q11.2)
    ) else (
      if 32 < a2 then (
        some (0, q11.2)
      ) else (
        if a3 < 1 then (
          some (0, q11.2)
        ) else (
          if a3 ≤ 32 then (
            (gR q11.2 a0 15 40).bind fun v17 =>
            (sN id q11.2 0 v17 a1 a2).bind fun w18 =>
            (gR w18 a0 15 41).bind fun v19 =>
            (sN id w18 0 v19 a1 a3).bind fun w20 =>
            fX15_canvasSize_48 X  FU a0 a1 0 w20
          ) else (
            some (0, q11.2)
          )
        )
      )
    )
  )
def fX15_isSample (X : px_X) (w : px_W) (a0 : Nat) (a1 : Int32) (a2 : Int64) (a4 : Int64) : Option (Int32 × px_W) :=
  (fX15_isPlane X w a1).bind fun q6 =>
  if q6.1 = 0 then (
    some (0, q6.2)
  ) else (
    if (lg_cmp a2 0) < 0 then (
      some (0, q6.2)
    ) else (
      (gR q6.2 a0 15 40).bind fun v9 =>
      (aN q6.2 0 v9 a1).bind fun v10 =>
      if 0 ≤ (lg_cmp a2 v10.toInt64) then (
        some (0, q6.2)
      ) else (
        if (lg_cmp a4 0) < 0 then (
          some (0, q6.2)
        ) else (
          (gR q6.2 a0 15 41).bind fun v13 =>
          (aN q6.2 0 v13 a1).bind fun v14 =>
          if 0 ≤ (lg_cmp a4 v14.toInt64) then (
            some (0, q6.2)
          ) else (
            some (1, q6.2)
          )
        )
      )
    )
  )
def fX15_canvasRow_17 (X : px_X)  : Nat → Nat → Int32 → Int32 → Int32 → Int64 → Int32 → px_W → Option (Int32 × px_W)
  | 0, _, _, _, _, _, _, _ => none
  | m + 1, a0, a1, a2, a3, a4, a6, w =>
    if 8 ≤ a6 then (
      some (1, w)
    ) else (
      (gR w a0 15 40).bind fun v10 =>
      (aN w 0 v10 a1).bind fun v11 =>
      if v11 ≤ (a2 + a6) then (
        some (1, w)
      ) else (
        (gR w a0 15 39).bind fun v13 =>
        (gR w a0 15 40).bind fun v14 =>
        (aN w 0 v14 a1).bind fun v15 =>
        (sN id w 0 v13 ((((1024 * a1) + (v15 * a3)) + a2) + a6) (((a4 >>> ((56 - (8 * a6)).toInt64 &&& 63)) &&& 255).toInt32)).bind fun w16 =>
        fX15_canvasRow_17 X  m a0 a1 a2 a3 a4 (a6 + 1) w16
      )
    )
def fX15_canvasRow (X : px_X) (w : px_W) (a0 : Nat) (a1 : Int32) (a2 : Int32) (a3 : Int32) (a4 : Int64) : Option (Int32 × px_W) :=
  (gO w a0 15).bind fun o17 =>
  (fX15_isSample X w a0 a1 a2.toInt64 a3.toInt64).bind fun q18 =>
  if q18.1 = 0 then (
    some (0, q18.2)
  ) else (
    fX15_canvasRow_17 X  FU a0 a1 a2 a3 a4 0 q18.2
  )
def fX15_canvasEight_62 (X : px_X) (k6 : Nat → Int32 → Int32 → Int32 → Int64 → Int32 → px_W → Option (Int64 × px_W)) (a0 : Nat) (a1 : Int32) (a2 : Int32) (a3 : Int32) (a6 : Int32) (s0 : Int32) (s1 : Int64) (w : px_W) : Option (Int64 × px_W) :=
  k6 a0 a1 a2 a3 (s1 ||| s0.toInt64) (a6 + 1) w
def fX15_canvasEight_6 (X : px_X)  : Nat → Nat → Int32 → Int32 → Int32 → Int64 → Int32 → px_W → Option (Int64 × px_W)
  | 0, _, _, _, _, _, _, _ => none
  | m + 1, a0, a1, a2, a3, a4, a6, w =>
    if 8 ≤ a6 then (
      some (a4, w)
    ) else (
      (gO w a0 15).bind fun o8 =>
      (fX15_isSample X w a0 a1 (a2.toInt64 + a6.toInt64) a3.toInt64).bind fun q9 =>
      if q9.1 = 0 then (
        fX15_canvasEight_62 X (fX15_canvasEight_6 X  m) a0 a1 a2 a3 a6 0 (a4 <<< ((8 : Int32).toInt64 &&& 63)) q9.2
      ) else (
        (gR q9.2 a0 15 39).bind fun v11 =>
        (gR q9.2 a0 15 40).bind fun v12 =>
        (aN q9.2 0 v12 a1).bind fun v13 =>
        (aN q9.2 0 v11 ((((1024 * a1) + (v13 * a3)) + a2) + a6)).bind fun v14 =>
        fX15_canvasEight_62 X (fX15_canvasEight_6 X  m) a0 a1 a2 a3 a6 v14 (a4 <<< ((8 : Int32).toInt64 &&& 63)) q9.2
      )
    )
def fX15_canvasEight (X : px_X) (w : px_W) (a0 : Nat) (a1 : Int32) (a2 : Int32) (a3 : Int32) : Option (Int64 × px_W) :=
  fX15_canvasEight_6 X  FU a0 a1 a2 a3 0 0 w
def fX15_openTone_84 (X : px_X)  (s0 : Int64) (w : px_W) : Option (Int32 × px_W) :=
  (fX15_limit X w s0).bind fun q2 =>
  some (q2.1, q2.2)
def fX15_openTone (X : px_X) (w : px_W) (a0 : Int32) (a1 : Int32) (a2 : Int32) (a3 : Int32) : Option (Int32 × px_W) :=
  if a0 = 0 then (
    fX15_openTone_84 X  ((a1 + (((91881 * (a3 - 128)) + 32768) >>> (16 &&& 31))).toInt64) w
  ) else (
    if a0 = 1 then (
      fX15_openTone_84 X  ((a1 + ((((((-22554)) * (a2 - 128)) - (46802 * (a3 - 128))) + 32768) >>> (16 &&& 31))).toInt64) w
    ) else (
      fX15_openTone_84 X  ((a1 + (((116130 * (a2 - 128)) + 32768) >>> (16 &&& 31))).toInt64) w
    )
  )
def fX15_closeTone (X : px_X) (w : px_W) (a0 : Int32) (a1 : Int32) (a2 : Int32) (a3 : Int32) : Option (Int32 × px_W) :=
  if a0 = 0 then (
    some (((((19595 * a1) + (38470 * a2)) + (7471 * a3)) + 32768) >>> (16 &&& 31), w)
  ) else (
    if a0 = 1 then (
      some (((((((-11059)) * a1) - (21709 * a2)) + (32768 * a3)) + 8421375) >>> (16 &&& 31), w)
    ) else (
      some (((((32768 * a1) - (27439 * a2)) - (5329 * a3)) + 8421375) >>> (16 &&& 31), w)
    )
  )
def fX15_tone_19 (X : px_X)  (a0 : Int32) (a1 : Int32) (a2 : Int32) (a3 : Int32) (a4 : Int32) (a5 : Int32) (s0 : Int32) (w : px_W) : Option (Int32 × px_W) :=
  if a0 = 0 then (
    (fX15_openTone X w a1 a2 a3 a4).bind fun q8 =>
    some (q8.1, q8.2)
  ) else
  if a0 = 1 then (
    (fX15_closeTone X w a1 a2 a3 a4).bind fun q10 =>
    some (q10.1, q10.2)
  ) else
  if a0 = 2 then (
    some (255 - s0, w)
  ) else
  if a0 = 3 then (
    (dI ((s0 * (255 - a5)) + 127) 255).bind fun v13 =>
    some (v13, w)
  ) else
  if a0 = 4 then (
    (fX15_closeTone X w 0 a2 a3 a4).bind fun q15 =>
    some (q15.1, q15.2)
  ) else
  if a0 = 5 then (
    (fX15_openTone X w a1 a2 a3 a4).bind fun q17 =>
    some (255 - q17.1, q17.2)
  ) else
  (
    (fX15_closeTone X w a1 (255 - a2) (255 - a3) (255 - a4)).bind fun q18 =>
    some (q18.1, q18.2)
  )
def fX15_tone (X : px_X) (w : px_W) (a0 : Int32) (a1 : Int32) (a2 : Int32) (a3 : Int32) (a4 : Int32) (a5 : Int32) : Option (Int32 × px_W) :=
  if a1 = 0 then (
    fX15_tone_19 X  a0 a1 a2 a3 a4 a5 a2 w
  ) else (
    if a1 = 1 then (
      fX15_tone_19 X  a0 a1 a2 a3 a4 a5 a3 w
    ) else (
      fX15_tone_19 X  a0 a1 a2 a3 a4 a5 a4 w
    )
  )
def fX15_mixCanvas_71 (X : px_X) (k18 : Nat → Int32 → Int32 → Int32 → px_W → Option (Int32 × px_W)) (a0 : Nat) (a1 : Int32) (a3 : Int32) (s0 : Int32) (w : px_W) : Option (Int32 × px_W) :=
  k18 a0 a1 s0 (a3 + 1) w
def fX15_mixCanvas_70 (X : px_X) (k18 : Nat → Int32 → Int32 → Int32 → px_W → Option (Int32 × px_W)) (a0 : Nat) (a1 : Int32) (a3 : Int32) (w : px_W) : Option (Int32 × px_W) :=
  fX15_mixCanvas_71 X k18 a0 a1 a3 0 w
def fX15_mixCanvas_86 (X : px_X)  : Nat → Nat → Int32 → Int32 → px_W → Option (Int32 × px_W)
  | 0, _, _, _, _ => none
  | m + 1, a0, a1, a3, w =>
    (gR w a0 15 40).bind fun v30 =>
    (aN w 0 v30 0).bind fun v31 =>
    (gR w a0 15 41).bind fun v32 =>
    (aN w 0 v32 0).bind fun v33 =>
    if (v31 * v33) ≤ a3 then (
      some (1, w)
    ) else (
      (gR w a0 15 39).bind fun v35 =>
      (aN w 0 v35 a3).bind fun v36 =>
      (gR w a0 15 39).bind fun v37 =>
      (aN w 0 v37 (1024 + a3)).bind fun v38 =>
      (gR w a0 15 39).bind fun v39 =>
      (aN w 0 v39 (2048 + a3)).bind fun v40 =>
      (gR w a0 15 39).bind fun v41 =>
      (aN w 0 v41 (3072 + a3)).bind fun v42 =>
      (gR w a0 15 39).bind fun v43 =>
      (fX15_tone X w a1 0 v36 v38 v40 v42).bind fun q44 =>
      (sN id q44.2 0 v43 a3 q44.1).bind fun w45 =>
      (gR w45 a0 15 39).bind fun v46 =>
      (fX15_tone X w45 a1 1 v36 v38 v40 v42).bind fun q47 =>
      (sN id q47.2 0 v46 (1024 + a3) q47.1).bind fun w48 =>
      (gR w48 a0 15 39).bind fun v49 =>
      (fX15_tone X w48 a1 2 v36 v38 v40 v42).bind fun q50 =>
      (sN id q50.2 0 v49 (2048 + a3) q50.1).bind fun w51 =>
      fX15_mixCanvas_86 X  m a0 a1 (a3 + 1) w51
    )
def fX15_mixCanvas_78 (X : px_X)  (a0 : Nat) (a1 : Int32) (a2 : Int32) (w : px_W) : Option (Int32 × px_W) :=
  if a2 = 0 then (
    some (0, w)
  ) else (
    fX15_mixCanvas_86 X  FU a0 a1 0 w
  )
def fX15_mixCanvas_29 (X : px_X) (k18 : Nat → Int32 → Int32 → Int32 → px_W → Option (Int32 × px_W)) (a0 : Nat) (a1 : Int32) (a2 : Int32) (a3 : Int32) (s0 : Int32) (s1 : Int32) (w : px_W) : Option (Int32 × px_W) :=
  if s0 ≤ s1 then (
    fX15_mixCanvas_78 X  a0 a1 a2 w
  ) else (
    if a2 = 0 then (
      fX15_mixCanvas_70 X k18 a0 a1 a3 w
    ) else (
      (gR w a0 15 40).bind fun v55 =>
      (aN w 0 v55 a3).bind fun v56 =>
      (gR w a0 15 40).bind fun v57 =>
      (aN w 0 v57 0).bind fun v58 =>
      if v56 = v58 then (
        (gR w a0 15 41).bind fun v60 =>
        (aN w 0 v60 a3).bind fun v61 =>
        (gR w a0 15 41).bind fun v62 =>
        (aN w 0 v62 0).bind fun v63 =>
        if v61 = v63 then (
          fX15_mixCanvas_71 X k18 a0 a1 a3 1 w
        ) else (
          fX15_mixCanvas_70 X k18 a0 a1 a3 w
        )
      ) else (
        fX15_mixCanvas_70 X k18 a0 a1 a3 w
      )
    )
  )
def fX15_mixCanvas_18 (X : px_X)  : Nat → Nat → Int32 → Int32 → Int32 → px_W → Option (Int32 × px_W)
  | 0, _, _, _, _, _ => none
  | m + 1, a0, a1, a2, a3, w =>
    if a1 = 3 then (
      fX15_mixCanvas_29 X (fX15_mixCanvas_18 X  m) a0 a1 a2 a3 4 a3 w
    ) else (
      fX15_mixCanvas_29 X (fX15_mixCanvas_18 X  m) a0 a1 a2 a3 3 a3 w
    )
def fX15_mixCanvas_15 (X : px_X)  (a0 : Nat) (a1 : Int32) (s0 : Int32) (w : px_W) : Option (Int32 × px_W) :=
  fX15_mixCanvas_18 X  FU a0 a1 s0 1 w
def fX15_mixCanvas_14 (X : px_X)  (a0 : Nat) (a1 : Int32) (w : px_W) : Option (Int32 × px_W) :=
  fX15_mixCanvas_15 X  a0 a1 0 w
def fX15_mixCanvas (X : px_X) (w : px_W) (a0 : Nat) (a1 : Int32) : Option (Int32 × px_W) :=
  if a1 < 0 then (
    fX15_mixCanvas_14 X  a0 a1 w
  ) else (
    if 7 ≤ a1 then (
      fX15_mixCanvas_14 X  a0 a1 w
    ) else (
      fX15_mixCanvas_15 X  a0 a1 1 w
    )
  )
def fX15_outputAt (X : px_X) (w : px_W) (a0 : Nat) (a1 : Int32) : Option (Int32 × px_W) :=
  if a1 < 0 then (
    some ((-1), w)
  ) else (
    (gI w a0 15 3).bind fun v5 =>
    if a1 < v5 then (
      (gR w a0 15 2).bind fun v7 =>
      (aN w 1 v7 a1).bind fun v8 =>
      some (v8 &&& 255, w)
    ) else (
      some ((-1), w)
    )
  )
def fX15_sum_62 (X : px_X) (k4 : Nat → Int32 → Int32 → Int32 → px_W → Option (Int32 × px_W)) (a0 : Nat) (a1 : Int32) (a3 : Int32) (s0 : Int32) (s1 : Int32) (w : px_W) : Option (Int32 × px_W) :=
  k4 a0 a1 (s1 + s0) (a3 + 1) w
def fX15_sum_40 (X : px_X) (k4 : Nat → Int32 → Int32 → Int32 → px_W → Option (Int32 × px_W)) (a0 : Nat) (a1 : Int32) (a2 : Int32) (a3 : Int32) (s0 : Int32) (w : px_W) : Option (Int32 × px_W) :=
  if a1 = 0 then (
    if s0 ≤ 0 then (
      fX15_sum_62 X k4 a0 a1 a3 0 a2 w
    ) else (
      fX15_sum_62 X k4 a0 a1 a3 1 a2 w
    )
  ) else (
    fX15_sum_62 X k4 a0 a1 a3 s0 a2 w
  )
def fX15_sum_4 (X : px_X)  : Nat → Nat → Int32 → Int32 → Int32 → px_W → Option (Int32 × px_W)
  | 0, _, _, _, _, _ => none
  | m + 1, a0, a1, a2, a3, w =>
    (gO w a0 15).bind fun o11 =>
    (fX15_blocks X w a0).bind fun q12 =>
    if (64 * q12.1) ≤ a3 then (
      some (a2, q12.2)
    ) else (
      (gR q12.2 a0 15 31).bind fun v14 =>
      (aN q12.2 2 v14 a3).bind fun v15 =>
      if 0 ≤ v15 then (
        (gR q12.2 a0 15 31).bind fun v17 =>
        (aN q12.2 2 v17 a3).bind fun v18 =>
        fX15_sum_40 X (fX15_sum_4 X  m) a0 a1 a2 a3 v18 q12.2
      ) else (
        (gR q12.2 a0 15 31).bind fun v19 =>
        (aN q12.2 2 v19 a3).bind fun v20 =>
        fX15_sum_40 X (fX15_sum_4 X  m) a0 a1 a2 a3 (-v20) q12.2
      )
    )
def fX15_sum (X : px_X) (w : px_W) (a0 : Nat) (a1 : Int32) : Option (Int32 × px_W) :=
  fX15_sum_4 X  FU a0 a1 0 0 w
def fX15_aboutPicture_88 (X : px_X)  (a0 : Nat) (a1 : Int32) (w : px_W) : Option (Int32 × px_W) :=
  if a1 = 0 then (
    (gI w a0 15 18).bind fun v25 =>
    some (v25, w)
  ) else
  if a1 = 1 then (
    (gI w a0 15 19).bind fun v27 =>
    some (v27, w)
  ) else
  if a1 = 2 then (
    (gI w a0 15 20).bind fun v29 =>
    some (v29, w)
  ) else
  if a1 = 3 then (
    (gO w a0 15).bind fun o31 =>
    (fX15_blocks X w a0).bind fun q32 =>
    some (q32.1, q32.2)
  ) else
  if a1 = 4 then (
    (gO w a0 15).bind fun o34 =>
    (fX15_sum X w a0 0).bind fun q35 =>
    some (q35.1, q35.2)
  ) else
  if a1 = 5 then (
    (gO w a0 15).bind fun o37 =>
    (fX15_sum X w a0 1).bind fun q38 =>
    some (q38.1, q38.2)
  ) else
  (
    some ((-1), w)
  )
def fX15_aboutPicture (X : px_X) (w : px_W) (a0 : Nat) (a1 : Int32) : Option (Int32 × px_W) :=
  (gI w a0 15 17).bind fun v39 =>
  if v39 = 0 then (
    some ((-1), w)
  ) else (
    if a1 < 8 then (
      fX15_aboutPicture_88 X  a0 a1 w
    ) else (
      (gI w a0 15 20).bind fun v42 =>
      if (8 + (4 * v42)) ≤ a1 then (
        fX15_aboutPicture_88 X  a0 a1 w
      ) else (
        (dI a1 4).bind fun v44 =>
        (rI a1 4).bind fun v45 =>
        if v45 = 0 then (
          (gR w a0 15 21).bind fun v57 =>
          (aN w 0 v57 (v44 - 2)).bind fun v58 =>
          some (v58, w)
        ) else (
          (rI a1 4).bind fun v47 =>
          if v47 = 1 then (
            (gR w a0 15 22).bind fun v55 =>
            (aN w 0 v55 (v44 - 2)).bind fun v56 =>
            some (v56, w)
          ) else (
            (rI a1 4).bind fun v49 =>
            if v49 = 2 then (
              (gR w a0 15 23).bind fun v53 =>
              (aN w 0 v53 (v44 - 2)).bind fun v54 =>
              some (v54, w)
            ) else (
              (gR w a0 15 24).bind fun v51 =>
              (aN w 0 v51 (v44 - 2)).bind fun v52 =>
              some (v52, w)
            )
          )
        )
      )
    )
  )
def fX15_statusOf_42 (X : px_X)  (a0 : Nat) (a1 : Int32) (w : px_W) : Option (Int32 × px_W) :=
  if a1 = 0 then (
    (gI w a0 15 1).bind fun v16 =>
    some (v16, w)
  ) else
  if a1 = 1 then (
    (gI w a0 15 7).bind fun v18 =>
    some (v18, w)
  ) else
  if a1 = 2 then (
    (gI w a0 15 8).bind fun v20 =>
    some (v20, w)
  ) else
  if a1 = 3 then (
    (gI w a0 15 3).bind fun v22 =>
    some (v22, w)
  ) else
  if a1 = 4 then (
    (gI w a0 15 9).bind fun v24 =>
    some (v24, w)
  ) else
  if a1 = 5 then (
    (gI w a0 15 10).bind fun v26 =>
    some (v26, w)
  ) else
  if a1 = 6 then (
    (gI w a0 15 11).bind fun v28 =>
    some (v28, w)
  ) else
  (
    some ((-1), w)
  )
def fX15_statusOf (X : px_X) (w : px_W) (a0 : Nat) (a1 : Int32) : Option (Int32 × px_W) :=
  if a1 < 8 then (
    fX15_statusOf_42 X  a0 a1 w
  ) else (
    if 16 ≤ a1 then (
      fX15_statusOf_42 X  a0 a1 w
    ) else (
      (rI a1 2).bind fun v31 =>
      if v31 = 0 then (
        (gR w a0 15 40).bind fun v36 =>
        (dI a1 2).bind fun v37 =>
        (aN w 0 v36 (v37 - 4)).bind fun v38 =>
        some (v38, w)
      ) else (
        (gR w a0 15 41).bind fun v33 =>
        (dI a1 2).bind fun v34 =>
        (aN w 0 v33 (v34 - 4)).bind fun v35 =>
        some (v35, w)
      )
    )
  )
def fL_law_854 (X : px_X) (k18 : Nat → Nat → Nat → Int32 → px_W → Option (Int32 × px_W)) (a0 : Nat) (a1 : Nat) (a2 : Nat) (a3 : Int32) (w : px_W) : Option (Int32 × px_W) :=
  k18 a0 a1 a2 (a3 + 6) w
def fL_law_359 (X : px_X) (k18 : Nat → Nat → Nat → Int32 → px_W → Option (Int32 × px_W)) (a0 : Nat) (a1 : Nat) (a2 : Nat) (a3 : Int32) (s0 : Int32) (s1 : Int32) (s2 : Nat) (s3 : Int32) (w : px_W) : Option (Int32 × px_W) :=
  (gO w s2 15).bind fun o169 =>
  (fX15_showAt X w s2 s1 s0).bind fun q170 =>
  if s3 = q170.1 then (
    fL_law_854 X k18 a0 a1 a2 a3 q170.2
  ) else (
    some (0, q170.2)
  )
def fL_law_337 (X : px_X) (k18 : Nat → Nat → Nat → Int32 → px_W → Option (Int32 × px_W)) (a0 : Nat) (a1 : Nat) (a2 : Nat) (a3 : Int32) (s0 : Int32) (s1 : Int32) (s2 : Nat) (w : px_W) : Option (Int32 × px_W) :=
  (gO w s2 11).bind fun o172 =>
  (fX11_showAt X w s2 s1 s0).bind fun q173 =>
  (aX X a0 (a3 + 1)).bind fun v174 =>
  (aX X a0 (a3 + 2)).bind fun v175 =>
  if v175 = 0 then (
    fL_law_359 X k18 a0 a1 a2 a3 0 v174 a2 q173.1 q173.2
  ) else (
    fL_law_359 X k18 a0 a1 a2 a3 1 v174 a2 q173.1 q173.2
  )
def fL_law_18 (X : px_X)  : Nat → Nat → Nat → Nat → Int32 → px_W → Option (Int32 × px_W)
  | 0, _, _, _, _, _ => none
  | m + 1, a0, a1, a2, a3, w =>
    (aLX X a0).bind fun v177 =>
    if (v177 - 6) < a3 then (
      some (1, w)
    ) else (
      (aX X a0 a3).bind fun v179 =>
      if (v179 &&& 31) = 0 then (
        (aX X a0 (a3 + 1)).bind fun v181 =>
        (aX X a0 (a3 + 2)).bind fun v182 =>
        (aX X a0 (a3 + 3)).bind fun v183 =>
        (gO w a1 11).bind fun o184 =>
        (fX11_giveInput X w a1 ((v181.toInt64 <<< ((32 : Int32).toInt64 &&& 63)) ||| (v182.toInt64 &&& 4294967295)) v183).bind fun q185 =>
        (aX X a0 (a3 + 1)).bind fun v186 =>
        (aX X a0 (a3 + 2)).bind fun v187 =>
        (aX X a0 (a3 + 3)).bind fun v188 =>
        (gO q185.2 a2 15).bind fun o189 =>
        (fX15_giveInput X q185.2 a2 ((v186.toInt64 <<< ((32 : Int32).toInt64 &&& 63)) ||| (v187.toInt64 &&& 4294967295)) v188).bind fun q190 =>
        if q185.1 = q190.1 then (
          fL_law_854 X (fL_law_18 X  m) a0 a1 a2 a3 q190.2
        ) else (
          some (0, q190.2)
        )
      ) else
      if (v179 &&& 31) = 1 then (
        (gO w a1 11).bind fun o193 =>
        (fX11_wipeInput X w a1).bind fun q194 =>
        (gO q194 a2 15).bind fun o195 =>
        (fX15_wipeInput X q194 a2).bind fun q196 =>
        fL_law_854 X (fL_law_18 X  m) a0 a1 a2 a3 q196
      ) else
      if (v179 &&& 31) = 2 then (
        (gO w a1 11).bind fun o198 =>
        (fX11_takeOutput X w a1).bind fun q199 =>
        (gO q199 a2 15).bind fun o200 =>
        (fX15_takeOutput X q199 a2).bind fun q201 =>
        fL_law_854 X (fL_law_18 X  m) a0 a1 a2 a3 q201
      ) else
      if (v179 &&& 31) = 3 then (
        (gO w a1 11).bind fun o203 =>
        (fX11_openInput X w a1).bind fun q204 =>
        (gO q204.2 a2 15).bind fun o205 =>
        (fX15_openInput X q204.2 a2).bind fun q206 =>
        if q204.1 = q206.1 then (
          fL_law_854 X (fL_law_18 X  m) a0 a1 a2 a3 q206.2
        ) else (
          some (0, q206.2)
        )
      ) else
      if (v179 &&& 31) = 4 then (
        (aX X a0 (a3 + 1)).bind fun v209 =>
        (aX X a0 (a3 + 2)).bind fun v210 =>
        (gO w a1 11).bind fun o211 =>
        (fX11_saveAs X w a1 v209 v210).bind fun q212 =>
        (aX X a0 (a3 + 1)).bind fun v213 =>
        (aX X a0 (a3 + 2)).bind fun v214 =>
        (gO q212.2 a2 15).bind fun o215 =>
        (fX15_saveAs X q212.2 a2 v213 v214).bind fun q216 =>
        if q212.1 = q216.1 then (
          fL_law_854 X (fL_law_18 X  m) a0 a1 a2 a3 q216.2
        ) else (
          some (0, q216.2)
        )
      ) else
      if (v179 &&& 31) = 5 then (
        (aX X a0 (a3 + 1)).bind fun v219 =>
        (aX X a0 (a3 + 2)).bind fun v220 =>
        (aX X a0 (a3 + 3)).bind fun v221 =>
        (aX X a0 (a3 + 4)).bind fun v222 =>
        (aX X a0 (a3 + 5)).bind fun v223 =>
        (gO w a1 11).bind fun o224 =>
        (fX11_paintFrom X w a1 v219 v220 v221 v222 v223).bind fun q225 =>
        (aX X a0 (a3 + 1)).bind fun v226 =>
        (aX X a0 (a3 + 2)).bind fun v227 =>
        (aX X a0 (a3 + 3)).bind fun v228 =>
        (aX X a0 (a3 + 4)).bind fun v229 =>
        (aX X a0 (a3 + 5)).bind fun v230 =>
        (gO q225.2 a2 15).bind fun o231 =>
        (fX15_paintFrom X q225.2 a2 v226 v227 v228 v229 v230).bind fun q232 =>
        if q225.1 = q232.1 then (
          fL_law_854 X (fL_law_18 X  m) a0 a1 a2 a3 q232.2
        ) else (
          some (0, q232.2)
        )
      ) else
      if (v179 &&& 31) = 6 then (
        (aX X a0 (a3 + 1)).bind fun v235 =>
        (aX X a0 (a3 + 2)).bind fun v236 =>
        if v236 = 0 then (
          fL_law_337 X (fL_law_18 X  m) a0 a1 a2 a3 0 v235 a1 w
        ) else (
          fL_law_337 X (fL_law_18 X  m) a0 a1 a2 a3 1 v235 a1 w
        )
      ) else
      if (v179 &&& 31) = 7 then (
        (aX X a0 (a3 + 1)).bind fun v239 =>
        (gO w a1 11).bind fun o240 =>
        (fX11_turnBy X w a1 v239).bind fun q241 =>
        (aX X a0 (a3 + 1)).bind fun v242 =>
        (gO q241.2 a2 15).bind fun o243 =>
        (fX15_turnBy X q241.2 a2 v242).bind fun q244 =>
        if q241.1 = q244.1 then (
          fL_law_854 X (fL_law_18 X  m) a0 a1 a2 a3 q244.2
        ) else (
          some (0, q244.2)
        )
      ) else
      if (v179 &&& 31) = 8 then (
        (aX X a0 (a3 + 1)).bind fun v247 =>
        (aX X a0 (a3 + 2)).bind fun v248 =>
        (aX X a0 (a3 + 3)).bind fun v249 =>
        (aX X a0 (a3 + 4)).bind fun v250 =>
        (gO w a1 11).bind fun o251 =>
        (fX11_cropTo X w a1 v247 v248 v249 v250).bind fun q252 =>
        (aX X a0 (a3 + 1)).bind fun v253 =>
        (aX X a0 (a3 + 2)).bind fun v254 =>
        (aX X a0 (a3 + 3)).bind fun v255 =>
        (aX X a0 (a3 + 4)).bind fun v256 =>
        (gO q252.2 a2 15).bind fun o257 =>
        (fX15_cropTo X q252.2 a2 v253 v254 v255 v256).bind fun q258 =>
        if q252.1 = q258.1 then (
          fL_law_854 X (fL_law_18 X  m) a0 a1 a2 a3 q258.2
        ) else (
          some (0, q258.2)
        )
      ) else
      if (v179 &&& 31) = 9 then (
        (aX X a0 (a3 + 1)).bind fun v261 =>
        (aX X a0 (a3 + 2)).bind fun v262 =>
        (aX X a0 (a3 + 3)).bind fun v263 =>
        (aX X a0 (a3 + 4)).bind fun v264 =>
        (aX X a0 (a3 + 5)).bind fun v265 =>
        (gO w a1 11).bind fun o266 =>
        (fX11_setCoefficient X w a1 v261 v262 v263 v264 v265).bind fun q267 =>
        (aX X a0 (a3 + 1)).bind fun v268 =>
        (aX X a0 (a3 + 2)).bind fun v269 =>
        (aX X a0 (a3 + 3)).bind fun v270 =>
        (aX X a0 (a3 + 4)).bind fun v271 =>
        (aX X a0 (a3 + 5)).bind fun v272 =>
        (gO q267.2 a2 15).bind fun o273 =>
        (fX15_setCoefficient X q267.2 a2 v268 v269 v270 v271 v272).bind fun q274 =>
        if q267.1 = q274.1 then (
          fL_law_854 X (fL_law_18 X  m) a0 a1 a2 a3 q274.2
        ) else (
          some (0, q274.2)
        )
      ) else
      if (v179 &&& 31) = 10 then (
        (aX X a0 (a3 + 1)).bind fun v277 =>
        (aX X a0 (a3 + 2)).bind fun v278 =>
        (aX X a0 (a3 + 3)).bind fun v279 =>
        (aX X a0 (a3 + 4)).bind fun v280 =>
        (gO w a1 11).bind fun o281 =>
        (fX11_coefficientAt X w a1 v277 v278 v279 v280).bind fun q282 =>
        (aX X a0 (a3 + 1)).bind fun v283 =>
        (aX X a0 (a3 + 2)).bind fun v284 =>
        (aX X a0 (a3 + 3)).bind fun v285 =>
        (aX X a0 (a3 + 4)).bind fun v286 =>
        (gO q282.2 a2 15).bind fun o287 =>
        (fX15_coefficientAt X q282.2 a2 v283 v284 v285 v286).bind fun q288 =>
        if q282.1 = q288.1 then (
          fL_law_854 X (fL_law_18 X  m) a0 a1 a2 a3 q288.2
        ) else (
          some (0, q288.2)
        )
      ) else
      if (v179 &&& 31) = 11 then (
        (aX X a0 (a3 + 1)).bind fun v291 =>
        (aX X a0 (a3 + 2)).bind fun v292 =>
        (gO w a1 11).bind fun o293 =>
        (fX11_stepAt X w a1 v291 v292).bind fun q294 =>
        (aX X a0 (a3 + 1)).bind fun v295 =>
        (aX X a0 (a3 + 2)).bind fun v296 =>
        (gO q294.2 a2 15).bind fun o297 =>
        (fX15_stepAt X q294.2 a2 v295 v296).bind fun q298 =>
        if q294.1 = q298.1 then (
          fL_law_854 X (fL_law_18 X  m) a0 a1 a2 a3 q298.2
        ) else (
          some (0, q298.2)
        )
      ) else
      if (v179 &&& 31) = 12 then (
        (aX X a0 (a3 + 1)).bind fun v301 =>
        (aX X a0 (a3 + 2)).bind fun v302 =>
        (aX X a0 (a3 + 3)).bind fun v303 =>
        (gO w a1 11).bind fun o304 =>
        (fX11_canvasSize X w a1 v301 v302 v303).bind fun q305 =>
        (aX X a0 (a3 + 1)).bind fun v306 =>
        (aX X a0 (a3 + 2)).bind fun v307 =>
        (aX X a0 (a3 + 3)).bind fun v308 =>
        (gO q305.2 a2 15).bind fun o309 =>
        (fX15_canvasSize X q305.2 a2 v306 v307 v308).bind fun q310 =>
        if q305.1 = q310.1 then (
          fL_law_854 X (fL_law_18 X  m) a0 a1 a2 a3 q310.2
        ) else (
          some (0, q310.2)
        )
      ) else
      if (v179 &&& 31) = 13 then (
        (aX X a0 (a3 + 1)).bind fun v313 =>
        (aX X a0 (a3 + 2)).bind fun v314 =>
        (aX X a0 (a3 + 3)).bind fun v315 =>
        (aX X a0 (a3 + 4)).bind fun v316 =>
        (aX X a0 (a3 + 5)).bind fun v317 =>
        (gO w a1 11).bind fun o318 =>
        (fX11_canvasRow X w a1 v313 v314 v315 ((v316.toInt64 <<< ((32 : Int32).toInt64 &&& 63)) ||| (v317.toInt64 &&& 4294967295))).bind fun q319 =>
        (aX X a0 (a3 + 1)).bind fun v320 =>
        (aX X a0 (a3 + 2)).bind fun v321 =>
        (aX X a0 (a3 + 3)).bind fun v322 =>
        (aX X a0 (a3 + 4)).bind fun v323 =>
        (aX X a0 (a3 + 5)).bind fun v324 =>
        (gO q319.2 a2 15).bind fun o325 =>
        (fX15_canvasRow X q319.2 a2 v320 v321 v322 ((v323.toInt64 <<< ((32 : Int32).toInt64 &&& 63)) ||| (v324.toInt64 &&& 4294967295))).bind fun q326 =>
        if q319.1 = q326.1 then (
          fL_law_854 X (fL_law_18 X  m) a0 a1 a2 a3 q326.2
        ) else (
          some (0, q326.2)
        )
      ) else
      if (v179 &&& 31) = 14 then (
        (aX X a0 (a3 + 1)).bind fun v329 =>
        (aX X a0 (a3 + 2)).bind fun v330 =>
        (aX X a0 (a3 + 3)).bind fun v331 =>
        (gO w a1 11).bind fun o332 =>
        (fX11_canvasEight X w a1 v329 v330 v331).bind fun q333 =>
        (aX X a0 (a3 + 1)).bind fun v334 =>
        (aX X a0 (a3 + 2)).bind fun v335 =>
        (aX X a0 (a3 + 3)).bind fun v336 =>
        (gO q333.2 a2 15).bind fun o337 =>
        (fX15_canvasEight X q333.2 a2 v334 v335 v336).bind fun q338 =>
        if (lg_cmp q333.1 q338.1) = 0 then (
          fL_law_854 X (fL_law_18 X  m) a0 a1 a2 a3 q338.2
        ) else (
          some (0, q338.2)
        )
      ) else
      if (v179 &&& 31) = 15 then (
        (aX X a0 (a3 + 1)).bind fun v341 =>
        (gO w a1 11).bind fun o342 =>
        (fX11_mixCanvas X w a1 v341).bind fun q343 =>
        (aX X a0 (a3 + 1)).bind fun v344 =>
        (gO q343.2 a2 15).bind fun o345 =>
        (fX15_mixCanvas X q343.2 a2 v344).bind fun q346 =>
        if q343.1 = q346.1 then (
          fL_law_854 X (fL_law_18 X  m) a0 a1 a2 a3 q346.2
        ) else (
          some (0, q346.2)
        )
      ) else
      if (v179 &&& 31) = 16 then (
        (aX X a0 (a3 + 1)).bind fun v349 =>
        (gO w a1 11).bind fun o350 =>
        (fX11_outputAt X w a1 v349).bind fun q351 =>
        (aX X a0 (a3 + 1)).bind fun v352 =>
        (gO q351.2 a2 15).bind fun o353 =>
        (fX15_outputAt X q351.2 a2 v352).bind fun q354 =>
        if q351.1 = q354.1 then (
          fL_law_854 X (fL_law_18 X  m) a0 a1 a2 a3 q354.2
        ) else (
          some (0, q354.2)
        )
      ) else
      if (v179 &&& 31) = 17 then (
        (aX X a0 (a3 + 1)).bind fun v357 =>
        (gO w a1 11).bind fun o358 =>
        (fX11_aboutPicture X w a1 v357).bind fun q359 =>
        (aX X a0 (a3 + 1)).bind fun v360 =>
        (gO q359.2 a2 15).bind fun o361 =>
        (fX15_aboutPicture X q359.2 a2 v360).bind fun q362 =>
        if q359.1 = q362.1 then (
          fL_law_854 X (fL_law_18 X  m) a0 a1 a2 a3 q362.2
        ) else (
          some (0, q362.2)
        )
      ) else
      if (v179 &&& 31) = 18 then (
        (aX X a0 (a3 + 1)).bind fun v365 =>
        (gO w a1 11).bind fun o366 =>
        (fX11_statusOf X w a1 v365).bind fun q367 =>
        (aX X a0 (a3 + 1)).bind fun v368 =>
        (gO q367.2 a2 15).bind fun o369 =>
        (fX15_statusOf X q367.2 a2 v368).bind fun q370 =>
        if q367.1 = q370.1 then (
          fL_law_854 X (fL_law_18 X  m) a0 a1 a2 a3 q370.2
        ) else (
          some (0, q370.2)
        )
      ) else
      (
        fL_law_854 X (fL_law_18 X  m) a0 a1 a2 a3 w
      )
    )
def fL_law (X : px_X) (w : px_W) (a0 : Nat) : Option (Int32 × px_W) :=
  (nO w 11 18 [.null, .null, .null, .int 0, .null, .null, .null, .null, .null, .null, .null, .null, .null, .int 0, .int 0, .int 0, .int 0, .int 0]).bind fun q372 =>
  (fX11_init X q372.2 q372.1).bind fun q373 =>
  (nO q373 15 47 [.null, .int 0, .null, .int 0, .null, .int 0, .int 0, .int 0, .int 0, .int 0, .int 0, .int 0, .null, .null, .null, .null, .null, .int 0, .int 0, .int 0, .int 0, .null, .null, .null, .null, .null, .int 0, .int 0, .int 0, .int 0, .null, .null, .null, .null, .null, .null, .null, .null, .null, .null, .null, .null, .null, .null, .int 0, .int 0, .null]).bind fun q374 =>
  (fX15_init X q374.2 q374.1).bind fun q375 =>
  fL_law_18 X  FU a0 q372.1 q374.1 0 q375
/-- what is owed over the pure machine: the law's function answers 1 on every script, within the room -/
def px_owed : Prop := ∀ (X : px_X) (b L : Nat) (xs : Nat → Int32), L ≤ 3072 → px_st X → X.2.2.2.2.1 b = some (L, xs) → ∃ w' : px_W, fL_law X (fun _ => none, X.2.2.2.1, 0) b = some (1, w') ∧ w'.2.1 ≤ X.2.2.2.1 + 600000 ∧ w'.2.2 ≤ 7302249
