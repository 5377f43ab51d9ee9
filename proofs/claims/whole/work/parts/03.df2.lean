def fX6_refineOthers_65 (X : px_X) (k8 : Nat → Int32 → Nat → Int32 → px_W → Option (px_W)) (a0 : Nat) (a1 : Int32) (a2 : Nat) (a3 : Int32) (a5 : Int32) (a6 : Int32) (w : px_W) : Option (px_W) :=
  (gI w a0 6 6).bind fun v68 =>
  if v68 = 0 then (
    if a6 = 0 then (
      if 15 ≤ a5 then (
        fX6_refineOthers_94 X k8 a0 a1 a2 a3 a5 a6 w
      ) else (
        fX6_refineOthers_85 X  a0 a1 a3 a5 w
      )
    ) else (
      fX6_refineOthers_94 X k8 a0 a1 a2 a3 a5 a6 w
    )
  ) else (
    some w
  )
def fX6_refineOthers_8 (X : px_X)  : Nat → Nat → Int32 → Nat → Int32 → px_W → Option (px_W)
  | 0, _, _, _, _, _ => none
  | m + 1, a0, a1, a2, a3, w =>
    (gI w a0 6 7).bind fun v72 =>
    if v72 = 0 then (
      (gR w a0 6 2).bind fun v74 =>
      (gI w v74 5 2).bind fun v75 =>
      if v75 < a3 then (
        fX6_refineOthers_194 X  a0 a1 a3 w
      ) else (
        (gO w a0 6).bind fun o77 =>
        (fX6_takeSymbol X w a0 a2).bind fun q78 =>
        (dI q78.1 16).bind fun v79 =>
        (rI q78.1 16).bind fun v80 =>
        (gI q78.2 a0 6 6).bind fun v81 =>
        if v81 = 0 then (
          if v80 ≤ 1 then (
            fX6_refineOthers_65 X (fX6_refineOthers_8 X  m) a0 a1 a2 a3 v79 v80 q78.2
          ) else (
            (pV q78.2 a0 6 6 (.int 3)).bind fun w84 =>
            fX6_refineOthers_65 X (fX6_refineOthers_8 X  m) a0 a1 a2 a3 v79 v80 w84
          )
        ) else (
          fX6_refineOthers_65 X (fX6_refineOthers_8 X  m) a0 a1 a2 a3 v79 v80 q78.2
        )
      )
    ) else (
      fX6_refineOthers_194 X  a0 a1 a3 w
    )
def fX6_refineOthers (X : px_X) (w : px_W) (a0 : Nat) (a1 : Int32) (a2 : Nat) : Option (px_W) :=
  (gR w a0 6 2).bind fun v85 =>
  (gI w v85 5 1).bind fun v86 =>
  fX6_refineOthers_8 X  FU a0 a1 a2 v86 w
def fX6_endBlock (X : px_X) (w : px_W) (a0 : Nat) (a1 : Int32) : Option (px_W) :=
  (gR w a0 6 2).bind fun v9 =>
  (gO w v9 5).bind fun o10 =>
  (fX5_isWhole X w v9).bind fun q11 =>
  if q11.1 = 0 then (
    (gO q11.2 a0 6).bind fun o15 =>
    (fX6_startRun X q11.2 a0 a1).bind fun q16 =>
    (gI q16 a0 6 7).bind fun v17 =>
    (pV q16 a0 6 7 (.int (v17 - 1))).bind fun w18 =>
    some w18
  ) else (
    if a1 ≤ 0 then (
      some q11.2
    ) else (
      (pV q11.2 a0 6 6 (.int 3)).bind fun w14 =>
      some w14
    )
  )
def fX6_readOthers_155 (X : px_X) (k30 : Nat → Int32 → Nat → Int32 → px_W → Option (px_W)) (a0 : Nat) (a1 : Int32) (a2 : Nat) (a3 : Int32) (w : px_W) : Option (px_W) :=
  k30 a0 a1 a2 (a3 + 1) w
def fX6_readOthers_117 (X : px_X)  (a0 : Nat) (w : px_W) : Option (px_W) :=
  (pV w a0 6 6 (.int 3)).bind fun w25 =>
  some w25
def fX6_readOthers_96 (X : px_X) (k30 : Nat → Int32 → Nat → Int32 → px_W → Option (px_W)) (a0 : Nat) (a1 : Int32) (a2 : Nat) (a3 : Int32) (a5 : Int32) (a6 : Int32) (w : px_W) : Option (px_W) :=
  if 10 < a6 then (
    fX6_readOthers_117 X  a0 w
  ) else (
    (gR w a0 6 2).bind fun v27 =>
    (gI w v27 5 2).bind fun v28 =>
    if (a3 + a5) ≤ v28 then (
      if a6 ≤ 0 then (
        fX6_readOthers_155 X k30 a0 a1 a2 (a3 + a5) w
      ) else (
        (gO w a0 6).bind fun o31 =>
        (fX6_takeNumber X w a0 a6).bind fun q32 =>
        (gR q32.2 a0 6 2).bind fun v33 =>
        (gI q32.2 v33 5 4).bind fun v34 =>
        (gO q32.2 a0 6).bind fun o35 =>
        (fX6_setCoefficientOf X q32.2 a0 a1 (a3 + a5) (q32.1 * ((1 : Int32) <<< (v34 &&& 31)))).bind fun q36 =>
        fX6_readOthers_155 X k30 a0 a1 a2 (a3 + a5) q36
      )
    ) else (
      fX6_readOthers_117 X  a0 w
    )
  )
def fX6_readOthers_89 (X : px_X)  (a0 : Nat) (a5 : Int32) (w : px_W) : Option (px_W) :=
  (gO w a0 6).bind fun o37 =>
  (fX6_endBlock X w a0 a5).bind fun q38 =>
  some q38
def fX6_readOthers_30 (X : px_X)  : Nat → Nat → Int32 → Nat → Int32 → px_W → Option (px_W)
  | 0, _, _, _, _, _ => none
  | m + 1, a0, a1, a2, a3, w =>
    (gR w a0 6 2).bind fun v39 =>
    (gI w v39 5 2).bind fun v40 =>
    if v40 < a3 then (
      some w
    ) else (
      (gI w a0 6 6).bind fun v42 =>
      if v42 = 0 then (
        (gO w a0 6).bind fun o44 =>
        (fX6_takeSymbol X w a0 a2).bind fun q45 =>
        (gI q45.2 a0 6 6).bind fun v46 =>
        if v46 = 0 then (
          (dI q45.1 16).bind fun v48 =>
          (rI q45.1 16).bind fun v49 =>
          if v49 = 0 then (
            if 15 ≤ v48 then (
              fX6_readOthers_96 X (fX6_readOthers_30 X  m) a0 a1 a2 a3 v48 v49 q45.2
            ) else (
              fX6_readOthers_89 X  a0 v48 q45.2
            )
          ) else (
            fX6_readOthers_96 X (fX6_readOthers_30 X  m) a0 a1 a2 a3 v48 v49 q45.2
          )
        ) else (
          some q45.2
        )
      ) else (
        some w
      )
    )
def fX6_readOthers (X : px_X) (w : px_W) (a0 : Nat) (a1 : Int32) (a2 : Nat) : Option (px_W) :=
  (gI w a0 6 7).bind fun v52 =>
  if v52 ≤ 0 then (
    (gR w a0 6 2).bind fun v54 =>
    (gI w v54 5 1).bind fun v55 =>
    fX6_readOthers_30 X  FU a0 a1 a2 (mmax 1 v55) w
  ) else (
    (gI w a0 6 7).bind fun v56 =>
    (pV w a0 6 7 (.int (v56 - 1))).bind fun w57 =>
    some w57
  )
def fX6_read_317 (X : px_X)  (a0 : Nat) (w : px_W) : Option (Int32 × px_W) :=
  (gI w a0 6 6).bind fun v70 =>
  if v70 = 0 then (
    some (0, w)
  ) else (
    (gI w a0 6 6).bind fun v72 =>
    some (10 + v72, w)
  )
def fX6_read_291 (X : px_X)  (a0 : Nat) (w : px_W) : Option (Int32 × px_W) :=
  (gI w a0 6 6).bind fun v73 =>
  if v73 = 0 then (
    (gI w a0 6 3).bind fun v75 =>
    (gR w a0 6 2).bind fun v76 =>
    (gI w v76 5 10).bind fun v77 =>
    if v75 = v77 then (
      fX6_read_317 X  a0 w
    ) else (
      (pV w a0 6 6 (.int 5)).bind fun w79 =>
      fX6_read_317 X  a0 w79
    )
  ) else (
    fX6_read_317 X  a0 w
  )
def fX6_read_280 (X : px_X)  (a0 : Nat) (w : px_W) : Option (Int32 × px_W) :=
  (gI w a0 6 6).bind fun v80 =>
  if v80 = 0 then (
    (gO w a0 6).bind fun o82 =>
    (fX6_endBits X w a0).bind fun q83 =>
    fX6_read_291 X  a0 q83
  ) else (
    fX6_read_291 X  a0 w
  )
def fX6_read_274 (X : px_X) (k49 : Nat → Nat → Int32 → Int32 → px_W → Option (Int32 × px_W)) (a0 : Nat) (a3 : Nat) (a4 : Int32) (a5 : Int32) (w : px_W) : Option (Int32 × px_W) :=
  k49 a0 a3 a4 (a5 + 1) w
def fX6_read_268 (X : px_X) (k49 : Nat → Nat → Int32 → Int32 → px_W → Option (Int32 × px_W)) (k107 : Nat → Nat → Int32 → Int32 → Int32 → px_W → Option (Int32 × px_W)) (a0 : Nat) (a3 : Nat) (a4 : Int32) (a5 : Int32) (a6 : Int32) (w : px_W) : Option (Int32 × px_W) :=
  k107 a0 a3 a4 a5 (a6 + 1) w
def fX6_read_231 (X : px_X) (k49 : Nat → Nat → Int32 → Int32 → px_W → Option (Int32 × px_W)) (k107 : Nat → Nat → Int32 → Int32 → Int32 → px_W → Option (Int32 × px_W)) (a0 : Nat) (a3 : Nat) (a4 : Int32) (a5 : Int32) (a6 : Int32) (a7 : Int32) (a8 : Int32) (w : px_W) : Option (Int32 × px_W) :=
  (gR w a0 6 2).bind fun v84 =>
  (gI w v84 5 2).bind fun v85 =>
  if v85 ≤ 0 then (
    fX6_read_268 X k49 k107 a0 a3 a4 a5 a6 w
  ) else (
    (gI w a0 6 6).bind fun v87 =>
    if v87 = 0 then (
      (gR w a0 6 2).bind fun v89 =>
      (gR w v89 5 7).bind fun v90 =>
      (aN w 0 v90 a7).bind fun v91 =>
      (aQ w 7 a3 (4 + v91)).bind fun v92 =>
      (gO w a0 6).bind fun o93 =>
      (fX6_readOthers X w a0 a8 v92).bind fun q94 =>
      fX6_read_268 X k49 k107 a0 a3 a4 a5 a6 q94
    ) else (
      fX6_read_268 X k49 k107 a0 a3 a4 a5 a6 w
    )
  )
def fX6_read_188 (X : px_X) (k49 : Nat → Nat → Int32 → Int32 → px_W → Option (Int32 × px_W)) (k107 : Nat → Nat → Int32 → Int32 → Int32 → px_W → Option (Int32 × px_W)) (a0 : Nat) (a3 : Nat) (a4 : Int32) (a5 : Int32) (a6 : Int32) (a7 : Int32) (a8 : Int32) (w : px_W) : Option (Int32 × px_W) :=
  (gR w a0 6 2).bind fun v95 =>
  (gI w v95 5 2).bind fun v96 =>
  if v96 ≤ 0 then (
    fX6_read_231 X k49 k107 a0 a3 a4 a5 a6 a7 a8 w
  ) else (
    (gR w a0 6 2).bind fun v98 =>
    (gO w v98 5).bind fun o99 =>
    (fX5_isRefinement X w v98).bind fun q100 =>
    if q100.1 = 0 then (
      fX6_read_231 X k49 k107 a0 a3 a4 a5 a6 a7 a8 q100.2
    ) else (
      (gR q100.2 a0 6 2).bind fun v102 =>
      (gR q100.2 v102 5 7).bind fun v103 =>
      (aN q100.2 0 v103 a7).bind fun v104 =>
      (aQ q100.2 7 a3 (4 + v104)).bind fun v105 =>
      (gO q100.2 a0 6).bind fun o106 =>
      (fX6_refineOthers X q100.2 a0 a8 v105).bind fun q107 =>
      fX6_read_268 X k49 k107 a0 a3 a4 a5 a6 q107
    )
  )
def fX6_read_107 (X : px_X) (k49 : Nat → Nat → Int32 → Int32 → px_W → Option (Int32 × px_W)) : Nat → Nat → Nat → Int32 → Int32 → Int32 → px_W → Option (Int32 × px_W)
  | 0, _, _, _, _, _, _ => none
  | m + 1, a0, a3, a4, a5, a6, w =>
    (gR w a0 6 2).bind fun v108 =>
    (gI w v108 5 13).bind fun v109 =>
    if v109 ≤ a6 then (
      fX6_read_274 X k49 a0 a3 a4 a5 w
    ) else (
      (gI w a0 6 6).bind fun v111 =>
      if v111 = 0 then (
        (gR w a0 6 2).bind fun v113 =>
        (gR w v113 5 14).bind fun v114 =>
        (aN w 0 v114 a6).bind fun v115 =>
        (gR w a0 6 2).bind fun v116 =>
        (gR w a0 6 1).bind fun v117 =>
        (gO w v116 5).bind fun o118 =>
        (fX5_blockAt X w v116 v117 a5 a6).bind fun q119 =>
        (gR q119.2 a0 6 2).bind fun v120 =>
        (gI q119.2 v120 5 1).bind fun v121 =>
        if v121 = 0 then (
          (gR q119.2 a0 6 2).bind fun v123 =>
          (gR q119.2 v123 5 6).bind fun v124 =>
          (aN q119.2 0 v124 v115).bind fun v125 =>
          (aQ q119.2 7 a3 v125).bind fun v126 =>
          (gO q119.2 a0 6).bind fun o127 =>
          (fX6_readDirect X q119.2 a0 (64 * q119.1) v115 v126).bind fun q128 =>
          fX6_read_188 X k49 (fX6_read_107 X k49 m) a0 a3 a4 a5 a6 v115 (64 * q119.1) q128
        ) else (
          fX6_read_188 X k49 (fX6_read_107 X k49 m) a0 a3 a4 a5 a6 v115 (64 * q119.1) q119.2
        )
      ) else (
        fX6_read_274 X k49 a0 a3 a4 a5 w
      )
    )
def fX6_read_104 (X : px_X) (k49 : Nat → Nat → Int32 → Int32 → px_W → Option (Int32 × px_W)) (a0 : Nat) (a3 : Nat) (a4 : Int32) (a5 : Int32) (w : px_W) : Option (Int32 × px_W) :=
  fX6_read_107 X k49 FU a0 a3 a4 a5 0 w
def fX6_read_49 (X : px_X)  : Nat → Nat → Nat → Int32 → Int32 → px_W → Option (Int32 × px_W)
  | 0, _, _, _, _, _ => none
  | m + 1, a0, a3, a4, a5, w =>
    (gR w a0 6 2).bind fun v129 =>
    (gI w v129 5 11).bind fun v130 =>
    if v130 ≤ a5 then (
      fX6_read_280 X  a0 w
    ) else (
      (gI w a0 6 6).bind fun v132 =>
      if v132 = 0 then (
        if a4 ≤ 0 then (
          fX6_read_104 X (fX6_read_49 X  m) a0 a3 a4 a5 w
        ) else (
          if a5 ≤ 0 then (
            fX6_read_104 X (fX6_read_49 X  m) a0 a3 a4 a5 w
          ) else (
            (rI a5 a4).bind fun v136 =>
            if v136 = 0 then (
              (dI a5 a4).bind fun v138 =>
              (rI (v138 - 1) 8).bind fun v139 =>
              (gO w a0 6).bind fun o140 =>
              (fX6_passRestart X w a0 (208 + v139)).bind fun q141 =>
              fX6_read_104 X (fX6_read_49 X  m) a0 a3 a4 a5 q141
            ) else (
              fX6_read_104 X (fX6_read_49 X  m) a0 a3 a4 a5 w
            )
          )
        )
      ) else (
        fX6_read_280 X  a0 w
      )
    )
def fX6_read (X : px_X) (w : px_W) (a0 : Nat) (a1 : Nat) (a2 : Nat) (a3 : Nat) (a4 : Int32) : Option (Int32 × px_W) :=
  (pV w a0 6 1 (.ref a1)).bind fun w142 =>
  (pV w142 a0 6 2 (.ref a2)).bind fun w143 =>
  (gR w143 a0 6 2).bind fun v144 =>
  (gR w143 a0 6 1).bind fun v145 =>
  (gO w143 v144 5).bind fun o146 =>
  (fX5_layOut X w143 v144 v145).bind fun q147 =>
  (gR q147 a0 6 2).bind fun v148 =>
  (gI q147 v148 5 9).bind fun v149 =>
  (pV q147 a0 6 3 (.int v149)).bind fun w150 =>
  (pV w150 a0 6 6 (.int 0)).bind fun w151 =>
  (pV w151 a0 6 5 (.int 0)).bind fun w152 =>
  (gO w152 a0 6).bind fun o153 =>
  (fX6_begin X w152 a0).bind fun q154 =>
  fX6_read_49 X  FU a0 a3 a4 0 q154
def fX10_init (X : px_X) (w : px_W) (a0 : Nat) : Option (px_W) :=
  (nA w 0 17 (.inl (fun _ => 0))).bind fun q9 =>
  (pV q9.2 a0 10 0 (.ref q9.1)).bind fun w10 =>
  (nA w10 0 17 (.inl (fun _ => 0))).bind fun q11 =>
  (pV q11.2 a0 10 1 (.ref q11.1)).bind fun w12 =>
  (nA w12 0 17 (.inl (fun _ => 0))).bind fun q13 =>
  (pV q13.2 a0 10 2 (.ref q13.1)).bind fun w14 =>
  (nA w14 0 256 (.inl (fun _ => 0))).bind fun q15 =>
  (pV q15.2 a0 10 3 (.ref q15.1)).bind fun w16 =>
  some w16
def fX8_init_77 (X : px_X)  : Nat → Nat → Int32 → px_W → Option (px_W)
  | 0, _, _, _ => none
  | m + 1, a0, a3, w =>
    if 8 ≤ a3 then (
      some w
    ) else (
      (gR w a0 8 3).bind fun v23 =>
      (nO w 10 6 [.null, .null, .null, .null, .int 0, .int 0]).bind fun q24 =>
      (fX10_init X q24.2 q24.1).bind fun q25 =>
      (sQ q25 7 10 v23 a3 q24.1).bind fun w26 =>
      fX8_init_77 X  m a0 (a3 + 1) w26
    )
def fX8_init (X : px_X) (w : px_W) (a0 : Nat) (a1 : Nat) (a2 : Nat) : Option (px_W) :=
  (nO w 5 17 [.int 0, .int 0, .int 0, .int 0, .int 0, .null, .null, .null, .null, .int 0, .int 0, .int 0, .int 0, .int 0, .null, .null, .null]).bind fun q27 =>
  (fX5_init X q27.2 q27.1).bind fun q28 =>
  (pV q28 a0 8 2 (.ref q27.1)).bind fun w29 =>
  (nA w29 7 8 (.inr (.inr (.inr (.inr (fun _ => none)))))).bind fun q30 =>
  (pV q30.2 a0 8 3 (.ref q30.1)).bind fun w31 =>
  (nA w31 0 4 (.inl (fun _ => 0))).bind fun q32 =>
  (pV q32.2 a0 8 15 (.ref q32.1)).bind fun w33 =>
  (nA w33 0 4 (.inl (fun _ => 0))).bind fun q34 =>
  (pV q34.2 a0 8 16 (.ref q34.1)).bind fun w35 =>
  (nA w35 0 256 (.inl (fun _ => 0))).bind fun q36 =>
  (pV q36.2 a0 8 17 (.ref q36.1)).bind fun w37 =>
  (nA w37 0 256 (.inl (fun _ => 0))).bind fun q38 =>
  (pV q38.2 a0 8 18 (.ref q38.1)).bind fun w39 =>
  (nA w39 0 256 (.inl (fun _ => 0))).bind fun q40 =>
  (pV q40.2 a0 8 19 (.ref q40.1)).bind fun w41 =>
  (pV w41 a0 8 0 (.ref a1)).bind fun w42 =>
  (pV w42 a0 8 1 (.ref a2)).bind fun w43 =>
  fX8_init_77 X  FU a0 0 w43
def fX8_fail (X : px_X) (w : px_W) (a0 : Nat) (a1 : Int32) (a2 : Int32) : Option (Int32 × px_W) :=
  (pV w a0 8 6 (.int a1)).bind fun w3 =>
  (pV w3 a0 8 7 (.int a2)).bind fun w4 =>
  some ((-1), w4)
def fX8_beginAgain_83 (X : px_X)  (a0 : Nat) (w : px_W) : Option (px_W) :=
  (pV w a0 8 8 (.int 2)).bind fun w36 =>
  (gR w36 a0 8 0).bind fun v37 =>
  (gI w36 v37 1 1).bind fun v38 =>
  if v38 = 0 then (
    (gO w36 a0 8).bind fun o57 =>
    (fX8_fail X w36 a0 1 0).bind fun q58 =>
    some q58.2
  ) else (
    (gR w36 a0 8 0).bind fun v40 =>
    (gO w36 v40 1).bind fun o41 =>
    (fX1_at X w36 v40 0).bind fun q42 =>
    if q42.1 = 255 then (
      (gR q42.2 a0 8 0).bind fun v44 =>
      (gI q42.2 v44 1 1).bind fun v45 =>
      if v45 = 1 then (
        (gO q42.2 a0 8).bind fun o53 =>
        (fX8_fail X q42.2 a0 1 1).bind fun q54 =>
        some q54.2
      ) else (
        (gR q42.2 a0 8 0).bind fun v47 =>
        (gO q42.2 v47 1).bind fun o48 =>
        (fX1_at X q42.2 v47 1).bind fun q49 =>
        if q49.1 = 216 then (
          some q49.2
        ) else (
          (gO q49.2 a0 8).bind fun o51 =>
          (fX8_fail X q49.2 a0 2 0).bind fun q52 =>
          some q52.2
        )
      )
    ) else (
      (gO q42.2 a0 8).bind fun o55 =>
      (fX8_fail X q42.2 a0 2 0).bind fun q56 =>
      some q56.2
    )
  )
def fX8_beginAgain_61 (X : px_X)  : Nat → Nat → Int32 → px_W → Option (px_W)
  | 0, _, _, _ => none
  | m + 1, a0, a1, w =>
    if 8 ≤ a1 then (
      fX8_beginAgain_83 X  a0 w
    ) else (
      (gR w a0 8 3).bind fun v60 =>
      (aQ w 7 v60 a1).bind fun v61 =>
      (pV w v61 10 4 (.int 0)).bind fun w62 =>
      fX8_beginAgain_61 X  m a0 (a1 + 1) w62
    )
def fX8_beginAgain (X : px_X) (w : px_W) (a0 : Nat) : Option (px_W) :=
  (pV w a0 8 4 (.int 0)).bind fun w63 =>
  (pV w63 a0 8 5 (.int 0)).bind fun w64 =>
  (pV w64 a0 8 6 (.int 0)).bind fun w65 =>
  (pV w65 a0 8 7 (.int ((-1)))).bind fun w66 =>
  (pV w66 a0 8 11 (.int 0)).bind fun w67 =>
  (pZ w67 a0 8 12 0).bind fun w68 =>
  (pZ w68 a0 8 13 0).bind fun w69 =>
  (gR w69 a0 8 1).bind fun v70 =>
  (pV w69 v70 2 2 (.int 0)).bind fun w71 =>
  (gR w71 a0 8 17).bind fun v72 =>
  (fJ7_fill_53178 X w71 v72 0).bind fun q73 =>
  (gR q73 a0 8 18).bind fun v74 =>
  (fJ7_fill_53178 X q73 v74 ((-1))).bind fun q75 =>
  fX8_beginAgain_61 X  FU a0 0 q75
def fX8_begin (X : px_X) (w : px_W) (a0 : Nat) (a1 : Nat) : Option (px_W) :=
  (pV w a0 8 1 (.ref a1)).bind fun w5 =>
  (pV w5 a0 8 14 (.int 0)).bind fun w6 =>
  (gO w6 a0 8).bind fun o7 =>
  (fX8_beginAgain X w6 a0).bind fun q8 =>
  some q8
def fX8_allWereInScans_2 (X : px_X)  : Nat → Nat → Int32 → px_W → Option (Int32 × px_W)
  | 0, _, _, _ => none
  | m + 1, a0, a1, w =>
    (gR w a0 8 1).bind fun v5 =>
    (gI w v5 2 2).bind fun v6 =>
    if v6 ≤ a1 then (
      some (1, w)
    ) else (
      (gR w a0 8 18).bind fun v8 =>
      (aN w 0 v8 (64 * a1)).bind fun v9 =>
      if v9 = ((-1)) then (
        some (0, w)
      ) else (
        fX8_allWereInScans_2 X  m a0 (a1 + 1) w
      )
    )
def fX8_allWereInScans (X : px_X) (w : px_W) (a0 : Nat) : Option (Int32 × px_W) :=
  fX8_allWereInScans_2 X  FU a0 0 w
def fX8_canStandHere (X : px_X) (w : px_W) (a0 : Nat) (a1 : Int32) : Option (Int32 × px_W) :=
  (gI w a0 8 13).bind fun v7 =>
  if v7 = 0 then (
    if a1 = 192 then (
      (gI w a0 8 11).bind fun v10 =>
      if v10 = 0 then (
        some (1, w)
      ) else (
        some (0, w)
      )
    ) else
    if a1 = 194 then (
      (gI w a0 8 11).bind fun v13 =>
      if v13 = 0 then (
        some (1, w)
      ) else (
        some (0, w)
      )
    ) else
    if a1 = 196 then (
      some (1, w)
    ) else
    if a1 = 217 then (
      (gI w a0 8 11).bind fun v17 =>
      if v17 = 0 then (
        some (0, w)
      ) else (
        (gO w a0 8).bind fun o19 =>
        (fX8_allWereInScans X w a0).bind fun q20 =>
        if q20.1 = 0 then (
          some (0, q20.2)
        ) else (
          some (1, q20.2)
        )
      )
    ) else
    if a1 = 218 then (
      (gI w a0 8 11).bind fun v23 =>
      if v23 = 0 then (
        some (0, w)
      ) else (
        some (1, w)
      )
    ) else
    if a1 = 219 then (
      some (1, w)
    ) else
    if a1 = 221 then (
      some (1, w)
    ) else
    if a1 = 254 then (
      some (1, w)
    ) else
    (
      if a1 < 224 then (
        some (0, w)
      ) else (
        if 239 < a1 then (
          some (0, w)
        ) else (
          some (1, w)
        )
      )
    )
  ) else (
    if a1 = 220 then (
      some (1, w)
    ) else (
      some (0, w)
    )
  )
def fX8_readMarker_85 (X : px_X)  (a0 : Nat) (w : px_W) : Option (Int32 × px_W) :=
  (gI w a0 8 8).bind fun v38 =>
  (gR w a0 8 0).bind fun v39 =>
  (gI w v39 1 1).bind fun v40 =>
  if v38 < v40 then (
    (gR w a0 8 0).bind fun v42 =>
    (gI w a0 8 8).bind fun v43 =>
    (gO w v42 1).bind fun o44 =>
    (fX1_at X w v42 v43).bind fun q45 =>
    (gO q45.2 a0 8).bind fun o46 =>
    (fX8_canStandHere X q45.2 a0 q45.1).bind fun q47 =>
    if q47.1 = 0 then (
      (gI q47.2 a0 8 8).bind fun v51 =>
      (gO q47.2 a0 8).bind fun o52 =>
      (fX8_fail X q47.2 a0 4 v51).bind fun q53 =>
      some (q53.1, q53.2)
    ) else (
      (gI q47.2 a0 8 8).bind fun v49 =>
      (pV q47.2 a0 8 8 (.int (v49 + 1))).bind fun w50 =>
      some (q45.1, w50)
    )
  ) else (
    (gR w a0 8 0).bind fun v54 =>
    (gI w v54 1 1).bind fun v55 =>
    (gO w a0 8).bind fun o56 =>
    (fX8_fail X w a0 1 v55).bind fun q57 =>
    some (q57.1, q57.2)
  )
def fX8_readMarker_41 (X : px_X)  : Nat → Nat → px_W → Option (Int32 × px_W)
  | 0, _, _ => none
  | m + 1, a0, w =>
    (gI w a0 8 8).bind fun v58 =>
    (gR w a0 8 0).bind fun v59 =>
    (gI w v59 1 1).bind fun v60 =>
    if v60 ≤ v58 then (
      fX8_readMarker_85 X  a0 w
    ) else (
      (gR w a0 8 0).bind fun v62 =>
      (gI w a0 8 8).bind fun v63 =>
      (gO w v62 1).bind fun o64 =>
      (fX1_at X w v62 v63).bind fun q65 =>
      if q65.1 = 255 then (
        (gI q65.2 a0 8 8).bind fun v67 =>
        (pV q65.2 a0 8 8 (.int (v67 + 1))).bind fun w68 =>
        fX8_readMarker_41 X  m a0 w68
      ) else (
        fX8_readMarker_85 X  a0 q65.2
      )
    )
def fX8_readMarker (X : px_X) (w : px_W) (a0 : Nat) : Option (Int32 × px_W) :=
  (gI w a0 8 8).bind fun v69 =>
  (gR w a0 8 0).bind fun v70 =>
  (gI w v70 1 1).bind fun v71 =>
  if v71 ≤ v69 then (
    fX8_readMarker_41 X  FU a0 w
  ) else (
    (gR w a0 8 0).bind fun v73 =>
    (gI w a0 8 8).bind fun v74 =>
    (gO w v73 1).bind fun o75 =>
    (fX1_at X w v73 v74).bind fun q76 =>
    if q76.1 = 255 then (
      fX8_readMarker_41 X  FU a0 q76.2
    ) else (
      (gI q76.2 a0 8 8).bind fun v78 =>
      (gO q76.2 a0 8).bind fun o79 =>
      (fX8_fail X q76.2 a0 3 v78).bind fun q80 =>
      some (q80.1, q80.2)
    )
  )
def fX8_contentByte (X : px_X) (w : px_W) (a0 : Nat) : Option (Int32 × px_W) :=
  (gI w a0 8 8).bind fun v19 =>
  (gI w a0 8 10).bind fun v20 =>
  if v19 < v20 then (
    (gI w a0 8 8).bind fun v22 =>
    (gR w a0 8 0).bind fun v23 =>
    (gI w v23 1 1).bind fun v24 =>
    if v22 < v24 then (
      (gI w a0 8 8).bind fun v26 =>
      (pV w a0 8 8 (.int (v26 + 1))).bind fun w27 =>
      (gR w27 a0 8 0).bind fun v28 =>
      (gI w27 a0 8 8).bind fun v29 =>
      (gO w27 v28 1).bind fun o30 =>
      (fX1_at X w27 v28 (v29 - 1)).bind fun q31 =>
      some (q31.1, q31.2)
    ) else (
      (gR w a0 8 0).bind fun v32 =>
      (gI w v32 1 1).bind fun v33 =>
      (gO w a0 8).bind fun o34 =>
      (fX8_fail X w a0 1 v33).bind fun q35 =>
      some (q35.1, q35.2)
    )
  ) else (
    (gI w a0 8 9).bind fun v36 =>
    (gO w a0 8).bind fun o37 =>
    (fX8_fail X w a0 5 v36).bind fun q38 =>
    some (q38.1, q38.2)
  )
def fX8_byteIn_20 (X : px_X)  (a0 : Nat) (w : px_W) : Option (Int32 × px_W) :=
  (gI w a0 8 8).bind fun v6 =>
  (gO w a0 8).bind fun o7 =>
  (fX8_fail X w a0 6 (v6 - 1)).bind fun q8 =>
  some (q8.1, q8.2)
def fX8_byteIn (X : px_X) (w : px_W) (a0 : Nat) (a1 : Int32) (a2 : Int32) : Option (Int32 × px_W) :=
  (gO w a0 8).bind fun o9 =>
  (fX8_contentByte X w a0).bind fun q10 =>
  if q10.1 = ((-1)) then (
    some (q10.1, q10.2)
  ) else (
    if q10.1 < a1 then (
      fX8_byteIn_20 X  a0 q10.2
    ) else (
      if q10.1 ≤ a2 then (
        some (q10.1, q10.2)
      ) else (
        fX8_byteIn_20 X  a0 q10.2
      )
    )
  )
def fX8_readQuantiser_48 (X : px_X) (k9 : Nat → Int32 → Int32 → px_W → Option (Int32 × px_W)) (a0 : Nat) (a1 : Int32) (a2 : Int32) (w : px_W) : Option (Int32 × px_W) :=
  k9 a0 a1 (a2 + 1) w
def fX8_readQuantiser_54 (X : px_X)  (a0 : Nat) (w : px_W) : Option (Int32 × px_W) :=
  (gI w a0 8 6).bind fun v9 =>
  if v9 = 0 then (
    some (1, w)
  ) else (
    some (0, w)
  )
def fX8_readQuantiser_9 (X : px_X)  : Nat → Nat → Int32 → Int32 → px_W → Option (Int32 × px_W)
  | 0, _, _, _, _ => none
  | m + 1, a0, a1, a2, w =>
    if 64 ≤ a2 then (
      fX8_readQuantiser_54 X  a0 w
    ) else (
      (gI w a0 8 6).bind fun v12 =>
      if v12 = 0 then (
        (gO w a0 8).bind fun o14 =>
        (fX8_byteIn X w a0 1 255).bind fun q15 =>
        if q15.1 = ((-1)) then (
          fX8_readQuantiser_48 X (fX8_readQuantiser_9 X  m) a0 a1 a2 q15.2
        ) else (
          (gR q15.2 a0 8 17).bind fun v17 =>
          (sN id q15.2 0 v17 ((64 * a1) + a2) q15.1).bind fun w18 =>
          fX8_readQuantiser_48 X (fX8_readQuantiser_9 X  m) a0 a1 a2 w18
        )
      ) else (
        fX8_readQuantiser_54 X  a0 w
      )
    )
def fX8_readQuantiser (X : px_X) (w : px_W) (a0 : Nat) : Option (Int32 × px_W) :=
  (gO w a0 8).bind fun o19 =>
  (fX8_byteIn X w a0 0 3).bind fun q20 =>
  fX8_readQuantiser_9 X  FU a0 q20.1 0 q20.2
def fX8_readQuantisers_30 (X : px_X) (k4 : Nat → Int32 → Int32 → px_W → Option (Int32 × px_W)) (a0 : Nat) (a2 : Int32) (w : px_W) : Option (Int32 × px_W) :=
  (gO w a0 8).bind fun o5 =>
  (fX8_readQuantiser X w a0).bind fun q6 =>
  k4 a0 q6.1 (a2 + 1) q6.2
def fX8_readQuantisers_4 (X : px_X)  : Nat → Nat → Int32 → Int32 → px_W → Option (Int32 × px_W)
  | 0, _, _, _, _ => none
  | m + 1, a0, a1, a2, w =>
    if a1 = 0 then (
      zR a1 w
    ) else (
      if 16384 ≤ a2 then (
        zR a1 w
      ) else (
        if a2 = 0 then (
          fX8_readQuantisers_30 X (fX8_readQuantisers_4 X  m) a0 a2 w
        ) else (
          (gI w a0 8 8).bind fun v10 =>
          (gI w a0 8 10).bind fun v11 =>
          if v11 ≤ v10 then (
            zR a1 w
          ) else (
            fX8_readQuantisers_30 X (fX8_readQuantisers_4 X  m) a0 a2 w
          )
        )
      )
    )
def fX8_readQuantisers (X : px_X) (w : px_W) (a0 : Nat) : Option (Int32 × px_W) :=
  fX8_readQuantisers_4 X  FU a0 1 0 w
def fX8_refuse (X : px_X) (w : px_W) (a0 : Nat) : Option (Int32 × px_W) :=
  (gI w a0 8 8).bind fun v4 =>
  (gO w a0 8).bind fun o5 =>
  (fX8_fail X w a0 6 (v4 - 1)).bind fun q6 =>
  some (0, q6.2)
def fX10_settle_74 (X : px_X) (k11 : Nat → Int32 → Int32 → Int32 → px_W → Option (px_W)) (a0 : Nat) (a1 : Int32) (a2 : Int32) (a3 : Int32) (w : px_W) : Option (px_W) :=
  k11 a0 a1 a2 (a3 + 1) w
def fX10_settle_11 (X : px_X)  : Nat → Nat → Int32 → Int32 → Int32 → px_W → Option (px_W)
  | 0, _, _, _, _, _ => none
  | m + 1, a0, a1, a2, a3, w =>
    if 16 < a3 then (
      some w
    ) else (
      (gR w a0 10 1).bind fun v15 =>
      (sN id w 0 v15 a3 (a1 * 2)).bind fun w16 =>
      (gR w16 a0 10 2).bind fun v17 =>
      (sN id w16 0 v17 a3 a2).bind fun w18 =>
      (gR w18 a0 10 0).bind fun v19 =>
      (aN w18 0 v19 a3).bind fun v20 =>
      (gR w18 a0 10 0).bind fun v21 =>
      (aN w18 0 v21 a3).bind fun v22 =>
      (gR w18 a0 10 0).bind fun v23 =>
      (aN w18 0 v23 a3).bind fun v24 =>
      if v24 ≤ 0 then (
        fX10_settle_74 X (fX10_settle_11 X  m) a0 ((a1 * 2) + v20) (a2 + v22) a3 w18
      ) else (
        (pV w18 a0 10 4 (.int a3)).bind fun w26 =>
        (pV w26 a0 10 5 (.int (((a1 * 2) + v20) - 1))).bind fun w27 =>
        fX10_settle_74 X (fX10_settle_11 X  m) a0 ((a1 * 2) + v20) (a2 + v22) a3 w27
      )
    )
def fX10_settle (X : px_X) (w : px_W) (a0 : Nat) : Option (px_W) :=
  (pV w a0 10 4 (.int 0)).bind fun w28 =>
  fX10_settle_11 X  FU a0 0 0 1 w28
def fX8_readCounts_75 (X : px_X)  (a0 : Nat) (a1 : Nat) (a2 : Int32) (w : px_W) : Option (Int32 × px_W) :=
  if a2 = 0 then (
    (gO w a0 8).bind fun o14 =>
    (fX8_refuse X w a0).bind fun q15 =>
    zR q15.1 q15.2
  ) else (
    (gO w a1 10).bind fun o12 =>
    (fX10_settle X w a1).bind fun q13 =>
    some (1, q13)
  )
def fX8_readCounts_55 (X : px_X)  (a0 : Nat) (w : px_W) : Option (Int32 × px_W) :=
  (gO w a0 8).bind fun o16 =>
  (fX8_refuse X w a0).bind fun q17 =>
  zR q17.1 q17.2
def fX8_readCounts_7 (X : px_X)  : Nat → Nat → Nat → Int32 → Int32 → Int32 → px_W → Option (Int32 × px_W)
  | 0, _, _, _, _, _, _ => none
  | m + 1, a0, a1, a2, a3, a4, w =>
    if 16 < a4 then (
      fX8_readCounts_75 X  a0 a1 a2 w
    ) else (
      (gO w a0 8).bind fun o19 =>
      (fX8_contentByte X w a0).bind fun q20 =>
      if q20.1 = ((-1)) then (
        some (0, q20.2)
      ) else (
        if 256 < (a2 + q20.1) then (
          fX8_readCounts_55 X  a0 q20.2
        ) else (
          if ((2 * a3) + q20.1) < ((1 : Int32) <<< (a4 &&& 31)) then (
            (gR q20.2 a1 10 0).bind fun v24 =>
            (sN id q20.2 0 v24 a4 q20.1).bind fun w25 =>
            fX8_readCounts_7 X  m a0 a1 (a2 + q20.1) ((2 * a3) + q20.1) (a4 + 1) w25
          ) else (
            fX8_readCounts_55 X  a0 q20.2
          )
        )
      )
    )
def fX8_readCounts (X : px_X) (w : px_W) (a0 : Nat) (a1 : Nat) : Option (Int32 × px_W) :=
  fX8_readCounts_7 X  FU a0 a1 0 0 1 w
def fX8_readSymbols_59 (X : px_X)  (a0 : Nat) (w : px_W) : Option (Int32 × px_W) :=
  (gO w a0 8).bind fun o17 =>
  (fX8_refuse X w a0).bind fun q18 =>
  zR q18.1 q18.2
def fX8_readSymbols_27 (X : px_X)  : Nat → Nat → Nat → Int32 → Int32 → Int32 → px_W → Option (Int32 × px_W)
  | 0, _, _, _, _, _, _ => none
  | m + 1, a0, a1, a2, a3, a4, w =>
    if a3 ≤ a4 then (
      some (1, w)
    ) else (
      (gO w a0 8).bind fun o20 =>
      (fX8_byteIn X w a0 0 a2).bind fun q21 =>
      if q21.1 = ((-1)) then (
        some (0, q21.2)
      ) else (
        (gR q21.2 a0 8 19).bind fun v23 =>
        (aN q21.2 0 v23 q21.1).bind fun v24 =>
        if v24 = 0 then (
          (gR q21.2 a0 8 19).bind fun v26 =>
          (sN id q21.2 0 v26 q21.1 1).bind fun w27 =>
          (gR w27 a1 10 3).bind fun v28 =>
          (sN id w27 0 v28 a4 q21.1).bind fun w29 =>
          fX8_readSymbols_27 X  m a0 a1 a2 a3 (a4 + 1) w29
        ) else (
          fX8_readSymbols_59 X  a0 q21.2
        )
      )
    )
def fX8_readSymbols (X : px_X) (w : px_W) (a0 : Nat) (a1 : Nat) (a2 : Int32) : Option (Int32 × px_W) :=
  (gR w a1 10 2).bind fun v30 =>
  (aN w 0 v30 16).bind fun v31 =>
  (gR w a1 10 0).bind fun v32 =>
  (aN w 0 v32 16).bind fun v33 =>
  (gR w a0 8 19).bind fun v34 =>
  (fJ7_fill_53178 X w v34 0).bind fun q35 =>
  fX8_readSymbols_27 X  FU a0 a1 a2 (v31 + v33) 0 q35
def fX8_readWordTables_56 (X : px_X)  (a0 : Nat) (w : px_W) : Option (Int32 × px_W) :=
  (gO w a0 8).bind fun o13 =>
  (fX8_refuse X w a0).bind fun q14 =>
  zR q14.1 q14.2
def fX8_readWordTables_117 (X : px_X) (k4 : Nat → Int32 → Int32 → px_W → Option (Int32 × px_W)) (a0 : Nat) (a2 : Int32) (s0 : Int32) (w : px_W) : Option (Int32 × px_W) :=
  k4 a0 s0 (a2 + 1) w
def fX8_readWordTables_116 (X : px_X) (k4 : Nat → Int32 → Int32 → px_W → Option (Int32 × px_W)) (a0 : Nat) (a2 : Int32) (w : px_W) : Option (Int32 × px_W) :=
  fX8_readWordTables_117 X k4 a0 a2 0 w
def fX8_readWordTables_106 (X : px_X) (k4 : Nat → Int32 → Int32 → px_W → Option (Int32 × px_W)) (a0 : Nat) (a2 : Int32) (s0 : Int32) (s1 : Nat) (s2 : Nat) (w : px_W) : Option (Int32 × px_W) :=
  (gO w s2 8).bind fun o15 =>
  (fX8_readSymbols X w s2 s1 s0).bind fun q16 =>
  if q16.1 = 0 then (
    fX8_readWordTables_116 X k4 a0 a2 q16.2
  ) else (
    fX8_readWordTables_117 X k4 a0 a2 1 q16.2
  )
def fX8_readWordTables_78 (X : px_X) (k4 : Nat → Int32 → Int32 → px_W → Option (Int32 × px_W)) (a0 : Nat) (a2 : Int32) (a3 : Int32) (s0 : Int32) (s1 : Nat) (w : px_W) : Option (Int32 × px_W) :=
  (aQ w 7 s1 s0).bind fun v18 =>
  (gO w a0 8).bind fun o19 =>
  (fX8_readCounts X w a0 v18).bind fun q20 =>
  if q20.1 = 0 then (
    fX8_readWordTables_116 X k4 a0 a2 q20.2
  ) else (
    if 4 ≤ a3 then (
      fX8_readWordTables_106 X k4 a0 a2 255 v18 a0 q20.2
    ) else (
      fX8_readWordTables_106 X k4 a0 a2 11 v18 a0 q20.2
    )
  )
def fX8_readWordTables_61 (X : px_X) (k4 : Nat → Int32 → Int32 → px_W → Option (Int32 × px_W)) (a0 : Nat) (a2 : Int32) (a3 : Int32) (w : px_W) : Option (Int32 × px_W) :=
  (gR w a0 8 3).bind fun v23 =>
  if 4 ≤ a3 then (
    fX8_readWordTables_78 X k4 a0 a2 a3 (a3 - 12) v23 w
  ) else (
    fX8_readWordTables_78 X k4 a0 a2 a3 a3 v23 w
  )
def fX8_readWordTables_30 (X : px_X) (k4 : Nat → Int32 → Int32 → px_W → Option (Int32 × px_W)) (a0 : Nat) (a2 : Int32) (w : px_W) : Option (Int32 × px_W) :=
  (gO w a0 8).bind fun o25 =>
  (fX8_byteIn X w a0 0 19).bind fun q26 =>
  if q26.1 = ((-1)) then (
    some (0, q26.2)
  ) else (
    if q26.1 ≤ 3 then (
      fX8_readWordTables_61 X k4 a0 a2 q26.1 q26.2
    ) else (
      if 16 ≤ q26.1 then (
        fX8_readWordTables_61 X k4 a0 a2 q26.1 q26.2
      ) else (
        fX8_readWordTables_56 X  a0 q26.2
      )
    )
  )
def fX8_readWordTables_4 (X : px_X)  : Nat → Nat → Int32 → Int32 → px_W → Option (Int32 × px_W)
  | 0, _, _, _, _ => none
  | m + 1, a0, a1, a2, w =>
    if a1 = 0 then (
      zR a1 w
    ) else (
      if 16384 ≤ a2 then (
        zR a1 w
      ) else (
        if a2 = 0 then (
          fX8_readWordTables_30 X (fX8_readWordTables_4 X  m) a0 a2 w
        ) else (
          (gI w a0 8 8).bind fun v33 =>
          (gI w a0 8 10).bind fun v34 =>
          if v34 ≤ v33 then (
            zR a1 w
          ) else (
            fX8_readWordTables_30 X (fX8_readWordTables_4 X  m) a0 a2 w
          )
        )
      )
    )
def fX8_readWordTables (X : px_X) (w : px_W) (a0 : Nat) : Option (Int32 × px_W) :=
  fX8_readWordTables_4 X  FU a0 1 0 w
def fX8_numberIn_50 (X : px_X)  (a0 : Nat) (w : px_W) : Option (Int32 × px_W) :=
  (gI w a0 8 8).bind fun v8 =>
  (gO w a0 8).bind fun o9 =>
  (fX8_fail X w a0 6 (v8 - 1)).bind fun q10 =>
  some (q10.1, q10.2)
def fX8_numberIn_18 (X : px_X)  (a0 : Nat) (a1 : Int32) (a2 : Int32) (a3 : Int32) (s0 : Int32) (w : px_W) : Option (Int32 × px_W) :=
  if s0 = ((-1)) then (
    some ((-1), w)
  ) else (
    if ((256 * a3) + s0) < a1 then (
      fX8_numberIn_50 X  a0 w
    ) else (
      if ((256 * a3) + s0) ≤ a2 then (
        some ((256 * a3) + s0, w)
      ) else (
        fX8_numberIn_50 X  a0 w
      )
    )
  )
def fX8_numberIn (X : px_X) (w : px_W) (a0 : Nat) (a1 : Int32) (a2 : Int32) : Option (Int32 × px_W) :=
  (gO w a0 8).bind fun o14 =>
  (fX8_contentByte X w a0).bind fun q15 =>
  if q15.1 = ((-1)) then (
    fX8_numberIn_18 X  a0 a1 a2 q15.1 ((-1)) q15.2
  ) else (
    (gO q15.2 a0 8).bind fun o17 =>
    (fX8_contentByte X q15.2 a0).bind fun q18 =>
    fX8_numberIn_18 X  a0 a1 a2 q15.1 q18.1 q18.2
  )
def fX8_endsHere (X : px_X) (w : px_W) (a0 : Nat) : Option (Int32 × px_W) :=
  (gI w a0 8 8).bind fun v6 =>
  (gI w a0 8 10).bind fun v7 =>
  if v6 = v7 then (
    some (1, w)
  ) else (
    (gI w a0 8 9).bind fun v9 =>
    (gO w a0 8).bind fun o10 =>
    (fX8_fail X w a0 5 v9).bind fun q11 =>
    some (0, q11.2)
  )
def fX8_readInterval (X : px_X) (w : px_W) (a0 : Nat) : Option (Int32 × px_W) :=
  (gO w a0 8).bind fun o6 =>
  (fX8_numberIn X w a0 0 65535).bind fun q7 =>
  if q7.1 = ((-1)) then (
    some (0, q7.2)
  ) else (
    (pV q7.2 a0 8 4 (.int q7.1)).bind fun w9 =>
    (gO w9 a0 8).bind fun o10 =>
    (fX8_endsHere X w9 a0).bind fun q11 =>
    zR q11.1 q11.2
  )
def fX8_readComponent_88 (X : px_X)  (a0 : Nat) (a1 : Int32) (a3 : Int32) (w : px_W) : Option (Int32 × px_W) :=
  (gR w a0 8 1).bind fun v26 =>
  (gR w v26 2 6).bind fun v27 =>
  (dI a3 16).bind fun v28 =>
  (sN id w 0 v27 a1 v28).bind fun w29 =>
  (gR w29 a0 8 1).bind fun v30 =>
  (gR w29 v30 2 7).bind fun v31 =>
  (rI a3 16).bind fun v32 =>
  (sN id w29 0 v31 a1 v32).bind fun w33 =>
  (gR w33 a0 8 16).bind fun v34 =>
  (gO w33 a0 8).bind fun o35 =>
  (fX8_byteIn X w33 a0 0 3).bind fun q36 =>
  (sN id q36.2 0 v34 a1 q36.1).bind fun w37 =>
  (gI w37 a0 8 6).bind fun v38 =>
  if v38 = 0 then (
    some (1, w37)
  ) else (
    some (0, w37)
  )
def fX8_readComponent_40 (X : px_X)  (a0 : Nat) (a1 : Int32) (a2 : Int32) (w : px_W) : Option (Int32 × px_W) :=
  (gR w a0 8 15).bind fun v40 =>
  (sN id w 0 v40 a1 a2).bind fun w41 =>
  (gO w41 a0 8).bind fun o42 =>
  (fX8_contentByte X w41 a0).bind fun q43 =>
  if q43.1 = ((-1)) then (
    some (0, q43.2)
  ) else (
    if q43.1 = 17 then (
      fX8_readComponent_88 X  a0 a1 q43.1 q43.2
    ) else (
      if q43.1 = 18 then (
        fX8_readComponent_88 X  a0 a1 q43.1 q43.2
      ) else (
        if q43.1 = 33 then (
          fX8_readComponent_88 X  a0 a1 q43.1 q43.2
        ) else (
          if q43.1 = 34 then (
            fX8_readComponent_88 X  a0 a1 q43.1 q43.2
          ) else (
            (gO q43.2 a0 8).bind fun o49 =>
            (fX8_refuse X q43.2 a0).bind fun q50 =>
            zR q50.1 q50.2
          )
        )
      )
    )
  )
def fX8_readComponent_29 (X : px_X)  (a0 : Nat) (w : px_W) : Option (Int32 × px_W) :=
  (gO w a0 8).bind fun o51 =>
  (fX8_refuse X w a0).bind fun q52 =>
  zR q52.1 q52.2
def fX8_readComponent_14 (X : px_X)  : Nat → Nat → Int32 → Int32 → Int32 → px_W → Option (Int32 × px_W)
  | 0, _, _, _, _, _ => none
  | m + 1, a0, a1, a2, a3, w =>
    if a1 ≤ a3 then (
      fX8_readComponent_40 X  a0 a1 a2 w
    ) else (
      (gR w a0 8 15).bind fun v54 =>
      (aN w 0 v54 a3).bind fun v55 =>
      if v55 = a2 then (
        fX8_readComponent_29 X  a0 w
      ) else (
        fX8_readComponent_14 X  m a0 a1 a2 (a3 + 1) w
      )
    )
def fX8_readComponent (X : px_X) (w : px_W) (a0 : Nat) (a1 : Int32) : Option (Int32 × px_W) :=
  (gO w a0 8).bind fun o57 =>
  (fX8_contentByte X w a0).bind fun q58 =>
  if q58.1 = ((-1)) then (
    some (0, q58.2)
  ) else (
    fX8_readComponent_14 X  FU a0 a1 q58.1 0 q58.2
  )
def fX8_readFrame_136 (X : px_X)  (a0 : Nat) (a4 : Int32) (s0 : Int32) (s1 : Nat) (w : px_W) : Option (Int32 × px_W) :=
  (pV w s1 2 1 (.int s0)).bind fun w23 =>
  (gR w23 a0 8 1).bind fun v24 =>
  (pV w23 v24 2 2 (.int a4)).bind fun w25 =>
  (gO w25 a0 8).bind fun o26 =>
  (fX8_endsHere X w25 a0).bind fun q27 =>
  zR q27.1 q27.2
def fX8_readFrame_106 (X : px_X)  (a0 : Nat) (a2 : Int32) (a3 : Int32) (a4 : Int32) (s0 : Int32) (s1 : Nat) (w : px_W) : Option (Int32 × px_W) :=
  (pZ w s1 8 12 s0).bind fun w28 =>
  (gR w28 a0 8 1).bind fun v29 =>
  (pV w28 v29 2 0 (.int a3)).bind fun w30 =>
  (gR w30 a0 8 1).bind fun v31 =>
  (gI w30 a0 8 12).bind fun v32 =>
  if v32 = 0 then (
    fX8_readFrame_136 X  a0 a4 a2 v31 w30
  ) else (
    (gI w30 a0 8 14).bind fun v34 =>
    fX8_readFrame_136 X  a0 a4 v34 v31 w30
  )
def fX8_readFrame_91 (X : px_X)  (a0 : Nat) (a1 : Int32) (a2 : Int32) (a3 : Int32) (a4 : Int32) (w : px_W) : Option (Int32 × px_W) :=
  (pV w a0 8 11 (.int a1)).bind fun w35 =>
  if a2 = 0 then (
    fX8_readFrame_106 X  a0 a2 a3 a4 1 a0 w35
  ) else (
    fX8_readFrame_106 X  a0 a2 a3 a4 0 a0 w35
  )
def fX8_readFrame_67 (X : px_X)  : Nat → Nat → Int32 → Int32 → Int32 → Int32 → Int32 → px_W → Option (Int32 × px_W)
  | 0, _, _, _, _, _, _, _ => none
  | m + 1, a0, a1, a2, a3, a4, a5, w =>
    if a4 ≤ a5 then (
      fX8_readFrame_91 X  a0 a1 a2 a3 a4 w
    ) else (
      (gO w a0 8).bind fun o38 =>
      (fX8_readComponent X w a0 a5).bind fun q39 =>
      if q39.1 = 0 then (
        some (0, q39.2)
      ) else (
        fX8_readFrame_67 X  m a0 a1 a2 a3 a4 (a5 + 1) q39.2
      )
    )
def fX8_readFrame_54 (X : px_X)  (a0 : Nat) (a1 : Int32) (a2 : Int32) (a3 : Int32) (s0 : Int32) (w : px_W) : Option (Int32 × px_W) :=
  if s0 = ((-1)) then (
    some (0, w)
  ) else (
    fX8_readFrame_67 X  FU a0 a1 a2 a3 s0 0 w
  )
def fX8_readFrame_38 (X : px_X)  (a0 : Nat) (a1 : Int32) (a2 : Int32) (s0 : Int32) (w : px_W) : Option (Int32 × px_W) :=
  if s0 = ((-1)) then (
    fX8_readFrame_54 X  a0 a1 a2 s0 ((-1)) w
  ) else (
    (gO w a0 8).bind fun o43 =>
    (fX8_byteIn X w a0 1 4).bind fun q44 =>
    fX8_readFrame_54 X  a0 a1 a2 s0 q44.1 q44.2
  )
def fX8_readFrame (X : px_X) (w : px_W) (a0 : Nat) (a1 : Int32) : Option (Int32 × px_W) :=
  (gO w a0 8).bind fun o45 =>
  (fX8_byteIn X w a0 8 8).bind fun q46 =>
  if q46.1 = ((-1)) then (
    some (0, q46.2)
  ) else (
    (gO q46.2 a0 8).bind fun o48 =>
    (fX8_numberIn X q46.2 a0 0 64).bind fun q49 =>
    if q49.1 = ((-1)) then (
      fX8_readFrame_38 X  a0 a1 q49.1 ((-1)) q49.2
    ) else (
      (gO q49.2 a0 8).bind fun o51 =>
      (fX8_numberIn X q49.2 a0 1 64).bind fun q52 =>
      fX8_readFrame_38 X  a0 a1 q49.1 q52.1 q52.2
    )
  )
def fX8_componentNamed_2 (X : px_X)  : Nat → Nat → Int32 → Int32 → px_W → Option (Int32 × px_W)
  | 0, _, _, _, _ => none
  | m + 1, a0, a1, a2, w =>
    (gR w a0 8 1).bind fun v5 =>
    (gI w v5 2 2).bind fun v6 =>
    if v6 ≤ a2 then (
      some ((-1), w)
    ) else (
      (gR w a0 8 15).bind fun v8 =>
      (aN w 0 v8 a2).bind fun v9 =>
      if v9 = a1 then (
        some (a2, w)
      ) else (
        fX8_componentNamed_2 X  m a0 a1 (a2 + 1) w
      )
    )
def fX8_componentNamed (X : px_X) (w : px_W) (a0 : Nat) (a1 : Int32) : Option (Int32 × px_W) :=
  fX8_componentNamed_2 X  FU a0 a1 0 w
def fX8_readMembers_93 (X : px_X)  (a0 : Nat) (w : px_W) : Option (Int32 × px_W) :=
  (gO w a0 8).bind fun o38 =>
  (fX8_refuse X w a0).bind fun q39 =>
  zR q39.1 q39.2
def fX8_readMembers_45 (X : px_X)  (a0 : Nat) (w : px_W) : Option (Int32 × px_W) :=
  (gI w a0 8 8).bind fun v40 =>
  (gO w a0 8).bind fun o41 =>
  (fX8_fail X w a0 7 (v40 - 1)).bind fun q42 =>
  some (0, q42.2)
def fX8_readMembers_150 (X : px_X)  (a0 : Nat) (w : px_W) : Option (Int32 × px_W) :=
  (gO w a0 8).bind fun o43 =>
  (fX8_refuse X w a0).bind fun q44 =>
  zR q44.1 q44.2
def fX8_readMembers_6 (X : px_X)  : Nat → Nat → Int32 → Int32 → Int32 → px_W → Option (Int32 × px_W)
  | 0, _, _, _, _, _ => none
  | m + 1, a0, a1, a2, a3, w =>
    (gR w a0 8 2).bind fun v45 =>
    (gI w v45 5 0).bind fun v46 =>
    if v46 ≤ a3 then (
      some (1, w)
    ) else (
      (gO w a0 8).bind fun o48 =>
      (fX8_contentByte X w a0).bind fun q49 =>
      if q49.1 = ((-1)) then (
        some (0, q49.2)
      ) else (
        (gO q49.2 a0 8).bind fun o51 =>
        (fX8_componentNamed X q49.2 a0 q49.1).bind fun q52 =>
        if a1 < q52.1 then (
          (gR q52.2 a0 8 1).bind fun v54 =>
          (gR q52.2 v54 2 6).bind fun v55 =>
          (aN q52.2 0 v55 q52.1).bind fun v56 =>
          (gR q52.2 a0 8 1).bind fun v57 =>
          (gR q52.2 v57 2 7).bind fun v58 =>
          (aN q52.2 0 v58 q52.1).bind fun v59 =>
          if (a2 + (v56 * v59)) ≤ 10 then (
            (gR q52.2 a0 8 2).bind fun v61 =>
            (gR q52.2 v61 5 5).bind fun v62 =>
            (sN id q52.2 0 v62 a3 q52.1).bind fun w63 =>
            (gR w63 a0 8 2).bind fun v64 =>
            (gR w63 v64 5 8).bind fun v65 =>
            (gI w63 a0 8 8).bind fun v66 =>
            (sN id w63 0 v65 a3 (v66 - 1)).bind fun w67 =>
            (gO w67 a0 8).bind fun o68 =>
            (fX8_byteIn X w67 a0 0 51).bind fun q69 =>
            if q69.1 = ((-1)) then (
              some (0, q69.2)
            ) else (
              (rI q69.1 16).bind fun v71 =>
              if v71 ≤ 3 then (
                (gR q69.2 a0 8 2).bind fun v73 =>
                (gR q69.2 v73 5 6).bind fun v74 =>
                (dI q69.1 16).bind fun v75 =>
                (sN id q69.2 0 v74 a3 v75).bind fun w76 =>
                (gR w76 a0 8 2).bind fun v77 =>
                (gR w76 v77 5 7).bind fun v78 =>
                (rI q69.1 16).bind fun v79 =>
                (sN id w76 0 v78 a3 v79).bind fun w80 =>
                fX8_readMembers_6 X  m a0 q52.1 (a2 + (v56 * v59)) (a3 + 1) w80
              ) else (
                fX8_readMembers_150 X  a0 q69.2
              )
            )
          ) else (
            fX8_readMembers_93 X  a0 q52.2
          )
        ) else (
          fX8_readMembers_45 X  a0 q52.2
        )
      )
    )
def fX8_readMembers (X : px_X) (w : px_W) (a0 : Nat) : Option (Int32 × px_W) :=
  fX8_readMembers_6 X  FU a0 ((-1)) 0 0 w
def fX8_readBand_200 (X : px_X)  (a0 : Nat) (w : px_W) : Option (Int32 × px_W) :=
  (gO w a0 8).bind fun o30 =>
  (fX8_refuse X w a0).bind fun q31 =>
  zR q31.1 q31.2
def fX8_readBand_108 (X : px_X)  (a0 : Nat) (a2 : Int32) (a4 : Int32) (s0 : Int32) (w : px_W) : Option (Int32 × px_W) :=
  if s0 = ((-1)) then (
    some (0, w)
  ) else (
    (gR w a0 8 2).bind fun v33 =>
    (pV w v33 5 1 (.int a2)).bind fun w34 =>
    (gR w34 a0 8 2).bind fun v35 =>
    (pV w34 v35 5 2 (.int a4)).bind fun w36 =>
    (gR w36 a0 8 2).bind fun v37 =>
    (dI s0 16).bind fun v38 =>
    (pV w36 v37 5 3 (.int v38)).bind fun w39 =>
    (gR w39 a0 8 2).bind fun v40 =>
    (rI s0 16).bind fun v41 =>
    (pV w39 v40 5 4 (.int v41)).bind fun w42 =>
    (gR w42 a0 8 2).bind fun v43 =>
    (gI w42 v43 5 4).bind fun v44 =>
    if 13 < v44 then (
      fX8_readBand_200 X  a0 w42
    ) else (
      (gR w42 a0 8 2).bind fun v46 =>
      (gI w42 v46 5 3).bind fun v47 =>
      if v47 = 0 then (
        some (1, w42)
      ) else (
        (gR w42 a0 8 2).bind fun v49 =>
        (gI w42 v49 5 3).bind fun v50 =>
        (gR w42 a0 8 2).bind fun v51 =>
        (gI w42 v51 5 4).bind fun v52 =>
        if v50 = (v52 + 1) then (
          some (1, w42)
        ) else (
          fX8_readBand_200 X  a0 w42
        )
      )
    )
  )
def fX8_readBand_105 (X : px_X)  (a0 : Nat) (a2 : Int32) (a4 : Int32) (s0 : Int32) (s1 : Int32) (s2 : Nat) (w : px_W) : Option (Int32 × px_W) :=
  (gO w s2 8).bind fun o54 =>
  (fX8_byteIn X w s2 s1 s0).bind fun q55 =>
  fX8_readBand_108 X  a0 a2 a4 q55.1 q55.2
def fX8_readBand_77 (X : px_X)  (a0 : Nat) (a1 : Int32) (a2 : Int32) (s0 : Int32) (s1 : Int32) (s2 : Nat) (w : px_W) : Option (Int32 × px_W) :=
  (gO w s2 8).bind fun o56 =>
  (fX8_byteIn X w s2 s1 s0).bind fun q57 =>
  if q57.1 = ((-1)) then (
    fX8_readBand_108 X  a0 a2 q57.1 ((-1)) q57.2
  ) else (
    if a1 = 0 then (
      fX8_readBand_105 X  a0 a2 q57.1 0 0 a0 q57.2
    ) else (
      fX8_readBand_105 X  a0 a2 q57.1 255 0 a0 q57.2
    )
  )
def fX8_readBand_75 (X : px_X)  (a0 : Nat) (a1 : Int32) (a2 : Int32) (s0 : Int32) (s1 : Nat) (w : px_W) : Option (Int32 × px_W) :=
  fX8_readBand_77 X  a0 a1 a2 63 s0 s1 w
def fX8_readBand_60 (X : px_X)  (a0 : Nat) (a1 : Int32) (a2 : Int32) (s0 : Int32) (w : px_W) : Option (Int32 × px_W) :=
  if a1 = 0 then (
    fX8_readBand_75 X  a0 a1 a2 s0 a0 w
  ) else (
    if a2 = 0 then (
      fX8_readBand_77 X  a0 a1 a2 0 s0 a0 w
    ) else (
      fX8_readBand_75 X  a0 a1 a2 s0 a0 w
    )
  )
def fX8_readBand_39 (X : px_X)  (a0 : Nat) (a1 : Int32) (s0 : Int32) (s1 : Int32) (s2 : Nat) (w : px_W) : Option (Int32 × px_W) :=
  (gO w s2 8).bind fun o62 =>
  (fX8_byteIn X w s2 s1 s0).bind fun q63 =>
  if q63.1 = ((-1)) then (
    some (0, q63.2)
  ) else (
    if a1 = 0 then (
      fX8_readBand_60 X  a0 a1 q63.1 63 q63.2
    ) else (
      fX8_readBand_60 X  a0 a1 q63.1 q63.1 q63.2
    )
  )
def fX8_readBand_38 (X : px_X)  (a0 : Nat) (a1 : Int32) (s0 : Int32) (s1 : Nat) (w : px_W) : Option (Int32 × px_W) :=
  fX8_readBand_39 X  a0 a1 0 s0 s1 w
def fX8_readBand_15 (X : px_X)  (a0 : Nat) (s0 : Int32) (w : px_W) : Option (Int32 × px_W) :=
  if s0 = 0 then (
    fX8_readBand_38 X  a0 s0 0 a0 w
  ) else (
    (gR w a0 8 2).bind fun v67 =>
    (gI w v67 5 0).bind fun v68 =>
    if v68 = 1 then (
      fX8_readBand_39 X  a0 s0 63 0 a0 w
    ) else (
      fX8_readBand_38 X  a0 s0 0 a0 w
    )
  )
def fX8_readBand (X : px_X) (w : px_W) (a0 : Nat) : Option (Int32 × px_W) :=
  (gI w a0 8 11).bind fun v70 =>
  if v70 = 194 then (
    fX8_readBand_15 X  a0 1 w
  ) else (
    fX8_readBand_15 X  a0 0 w
  )
def fX8_fitsWhatWasSent_60 (X : px_X)  (a0 : Nat) (a1 : Int32) (w : px_W) : Option (Int32 × px_W) :=
  (gR w a0 8 2).bind fun v26 =>
  (gR w v26 5 8).bind fun v27 =>
  (aN w 0 v27 a1).bind fun v28 =>
  (gO w a0 8).bind fun o29 =>
  (fX8_fail X w a0 7 v28).bind fun q30 =>
  some (0, q30.2)
def fX8_fitsWhatWasSent_161 (X : px_X)  (a0 : Nat) (w : px_W) : Option (Int32 × px_W) :=
  (gO w a0 8).bind fun o31 =>
  (fX8_refuse X w a0).bind fun q32 =>
  zR q32.1 q32.2
def fX8_fitsWhatWasSent_154 (X : px_X) (k87 : Nat → Int32 → Int32 → px_W → Option (Int32 × px_W)) (a0 : Nat) (a2 : Int32) (a4 : Int32) (s0 : Int32) (w : px_W) : Option (Int32 × px_W) :=
  if s0 = 0 then (
    fX8_fitsWhatWasSent_161 X  a0 w
  ) else (
    k87 a0 a2 (a4 + 1) w
  )
def fX8_fitsWhatWasSent_87 (X : px_X)  : Nat → Nat → Int32 → Int32 → px_W → Option (Int32 × px_W)
  | 0, _, _, _, _ => none
  | m + 1, a0, a2, a4, w =>
    (gR w a0 8 2).bind fun v34 =>
    (gI w v34 5 2).bind fun v35 =>
    if v35 < a4 then (
      some (1, w)
    ) else (
      (gR w a0 8 18).bind fun v37 =>
      (aN w 0 v37 ((64 * a2) + a4)).bind fun v38 =>
      (gR w a0 8 2).bind fun v39 =>
      (gI w v39 5 3).bind fun v40 =>
      if v40 = 0 then (
        if v38 = ((-1)) then (
          fX8_fitsWhatWasSent_154 X (fX8_fitsWhatWasSent_87 X  m) a0 a2 a4 1 w
        ) else (
          fX8_fitsWhatWasSent_154 X (fX8_fitsWhatWasSent_87 X  m) a0 a2 a4 0 w
        )
      ) else (
        (gR w a0 8 2).bind fun v42 =>
        (gI w v42 5 3).bind fun v43 =>
        if v38 = v43 then (
          fX8_fitsWhatWasSent_154 X (fX8_fitsWhatWasSent_87 X  m) a0 a2 a4 1 w
        ) else (
          fX8_fitsWhatWasSent_154 X (fX8_fitsWhatWasSent_87 X  m) a0 a2 a4 0 w
        )
      )
    )
def fX8_fitsWhatWasSent_78 (X : px_X)  (a0 : Nat) (a2 : Int32) (w : px_W) : Option (Int32 × px_W) :=
  (gR w a0 8 2).bind fun v46 =>
  (gI w v46 5 1).bind fun v47 =>
  fX8_fitsWhatWasSent_87 X  FU a0 a2 v47 w
def fX8_fitsWhatWasSent_28 (X : px_X)  (a0 : Nat) (a1 : Int32) (a2 : Int32) (s0 : Int32) (w : px_W) : Option (Int32 × px_W) :=
  (gI w a0 8 11).bind fun v48 =>
  if v48 = 192 then (
    if s0 = 0 then (
      fX8_fitsWhatWasSent_78 X  a0 a2 w
    ) else (
      fX8_fitsWhatWasSent_60 X  a0 a1 w
    )
  ) else (
    (gR w a0 8 2).bind fun v50 =>
    (gI w v50 5 1).bind fun v51 =>
    if v51 ≤ 0 then (
      fX8_fitsWhatWasSent_78 X  a0 a2 w
    ) else (
      if s0 = 0 then (
        fX8_fitsWhatWasSent_60 X  a0 a1 w
      ) else (
        fX8_fitsWhatWasSent_78 X  a0 a2 w
      )
    )
  )
def fX8_fitsWhatWasSent (X : px_X) (w : px_W) (a0 : Nat) (a1 : Int32) : Option (Int32 × px_W) :=
  (gR w a0 8 2).bind fun v55 =>
  (gR w v55 5 5).bind fun v56 =>
  (aN w 0 v56 a1).bind fun v57 =>
  (gR w a0 8 18).bind fun v58 =>
  (aN w 0 v58 (64 * v57)).bind fun v59 =>
  if v59 = ((-1)) then (
    fX8_fitsWhatWasSent_28 X  a0 a1 v57 0 w
  ) else (
    fX8_fitsWhatWasSent_28 X  a0 a1 v57 1 w
  )
def fX8_hasItsTables_139 (X : px_X)  (a0 : Nat) (a2 : Int32) (w : px_W) : Option (Int32 × px_W) :=
  (gO w a0 8).bind fun o33 =>
  (fX8_fail X w a0 8 (a2 + 1)).bind fun q34 =>
  some (0, q34.2)
def fX8_hasItsTables_112 (X : px_X)  (a0 : Nat) (a1 : Int32) (a2 : Int32) (a4 : Int32) (w : px_W) : Option (Int32 × px_W) :=
  if a4 = 0 then (
    some (1, w)
  ) else (
    (gR w a0 8 3).bind fun v36 =>
    (gR w a0 8 2).bind fun v37 =>
    (gR w v37 5 7).bind fun v38 =>
    (aN w 0 v38 a1).bind fun v39 =>
    (aQ w 7 v36 (4 + v39)).bind fun v40 =>
    (gI w v40 10 4).bind fun v41 =>
    if v41 = 0 then (
      fX8_hasItsTables_139 X  a0 a2 w
    ) else (
      some (1, w)
    )
  )
def fX8_hasItsTables_86 (X : px_X)  (a0 : Nat) (a1 : Int32) (a2 : Int32) (a3 : Int32) (s0 : Int32) (w : px_W) : Option (Int32 × px_W) :=
  if a3 = 0 then (
    fX8_hasItsTables_112 X  a0 a1 a2 s0 w
  ) else (
    (gR w a0 8 3).bind fun v44 =>
    (gR w a0 8 2).bind fun v45 =>
    (gR w v45 5 6).bind fun v46 =>
    (aN w 0 v46 a1).bind fun v47 =>
    (aQ w 7 v44 v47).bind fun v48 =>
    (gI w v48 10 4).bind fun v49 =>
    if v49 = 0 then (
      fX8_hasItsTables_139 X  a0 a2 w
    ) else (
      fX8_hasItsTables_112 X  a0 a1 a2 s0 w
    )
  )
def fX8_hasItsTables_70 (X : px_X)  (a0 : Nat) (a1 : Int32) (a2 : Int32) (s0 : Int32) (w : px_W) : Option (Int32 × px_W) :=
  (gR w a0 8 2).bind fun v51 =>
  (gI w v51 5 2).bind fun v52 =>
  if v52 ≤ 0 then (
    fX8_hasItsTables_86 X  a0 a1 a2 s0 0 w
  ) else (
    fX8_hasItsTables_86 X  a0 a1 a2 s0 1 w
  )
def fX8_hasItsTables_69 (X : px_X)  (a0 : Nat) (a1 : Int32) (a2 : Int32) (w : px_W) : Option (Int32 × px_W) :=
  fX8_hasItsTables_70 X  a0 a1 a2 0 w
def fX8_hasItsTables (X : px_X) (w : px_W) (a0 : Nat) (a1 : Int32) : Option (Int32 × px_W) :=
  (gR w a0 8 2).bind fun v54 =>
  (gR w v54 5 8).bind fun v55 =>
  (aN w 0 v55 a1).bind fun v56 =>
  (gR w a0 8 17).bind fun v57 =>
  (gR w a0 8 16).bind fun v58 =>
  (gR w a0 8 2).bind fun v59 =>
  (gR w v59 5 5).bind fun v60 =>
  (aN w 0 v60 a1).bind fun v61 =>
  (aN w 0 v58 v61).bind fun v62 =>
  (aN w 0 v57 (64 * v62)).bind fun v63 =>
  if v63 = 0 then (
    (gO w a0 8).bind fun o71 =>
    (fX8_fail X w a0 8 v56).bind fun q72 =>
    some (0, q72.2)
  ) else (
    (gR w a0 8 2).bind fun v65 =>
    (gI w v65 5 1).bind fun v66 =>
    if v66 = 0 then (
      (gR w a0 8 2).bind fun v68 =>
      (gI w v68 5 3).bind fun v69 =>
      if v69 = 0 then (
        fX8_hasItsTables_70 X  a0 a1 v56 1 w
      ) else (
        fX8_hasItsTables_69 X  a0 a1 v56 w
      )
    ) else (
      fX8_hasItsTables_69 X  a0 a1 v56 w
    )
  )
def fX8_isFirstScan_2 (X : px_X)  : Nat → Nat → Int32 → px_W → Option (Int32 × px_W)
  | 0, _, _, _ => none
  | m + 1, a0, a1, w =>
    (gR w a0 8 1).bind fun v5 =>
    (gI w v5 2 2).bind fun v6 =>
    if v6 ≤ a1 then (
      some (1, w)
    ) else (
      (gR w a0 8 18).bind fun v8 =>
      (aN w 0 v8 (64 * a1)).bind fun v9 =>
      if v9 = ((-1)) then (
        fX8_isFirstScan_2 X  m a0 (a1 + 1) w
      ) else (
        some (0, w)
      )
    )
def fX8_isFirstScan (X : px_X) (w : px_W) (a0 : Nat) : Option (Int32 × px_W) :=
  fX8_isFirstScan_2 X  FU a0 0 w
def fX8_noteAsSent_50 (X : px_X)  : Nat → Nat → Int32 → Int32 → px_W → Option (px_W)
  | 0, _, _, _, _ => none
  | m + 1, a0, a1, a2, w =>
    (gR w a0 8 2).bind fun v17 =>
    (gI w v17 5 2).bind fun v18 =>
    if v18 < a2 then (
      some w
    ) else (
      (gR w a0 8 18).bind fun v20 =>
      (gR w a0 8 2).bind fun v21 =>
      (gI w v21 5 4).bind fun v22 =>
      (sN id w 0 v20 ((64 * a1) + a2) v22).bind fun w23 =>
      fX8_noteAsSent_50 X  m a0 a1 (a2 + 1) w23
    )
def fX8_noteAsSent_42 (X : px_X)  (a0 : Nat) (a1 : Int32) (w : px_W) : Option (px_W) :=
  (gR w a0 8 2).bind fun v24 =>
  (gI w v24 5 1).bind fun v25 =>
  fX8_noteAsSent_50 X  FU a0 a1 v25 w
def fX8_noteAsSent (X : px_X) (w : px_W) (a0 : Nat) (a1 : Int32) : Option (px_W) :=
  (gR w a0 8 18).bind fun v26 =>
  (aN w 0 v26 (64 * a1)).bind fun v27 =>
  if v27 = ((-1)) then (
    (gR w a0 8 17).bind fun v29 =>
    (gR w a0 8 16).bind fun v30 =>
    (aN w 0 v30 a1).bind fun v31 =>
    (gR w a0 8 1).bind fun v32 =>
    (gR w v32 2 12).bind fun v33 =>
    (cpy (fun _ => true) w 0 v29 (64 * v31) v33 (64 * a1) 64).bind fun w34 =>
    fX8_noteAsSent_42 X  a0 a1 w34
  ) else (
    fX8_noteAsSent_42 X  a0 a1 w
  )
def fX8_findEndOfData_147 (X : px_X) (k15 : Nat → Int32 → px_W → Option (Int32 × px_W)) (a0 : Nat) (a1 : Int32) (w : px_W) : Option (Int32 × px_W) :=
  k15 a0 a1 w
def fX8_findEndOfData_120 (X : px_X) (k15 : Nat → Int32 → px_W → Option (Int32 × px_W)) (a0 : Nat) (s0 : Int32) (w : px_W) : Option (Int32 × px_W) :=
  (gI w a0 8 8).bind fun v29 =>
  (pV w a0 8 8 (.int (v29 + 2))).bind fun w30 =>
  fX8_findEndOfData_147 X k15 a0 s0 w30
def fX8_findEndOfData_134 (X : px_X)  (a0 : Nat) (w : px_W) : Option (Int32 × px_W) :=
  (gR w a0 8 2).bind fun v31 =>
  (gI w a0 8 8).bind fun v32 =>
  (pV w v31 5 10 (.int v32)).bind fun w33 =>
  some (1, w33)
def fX8_findEndOfData_150 (X : px_X)  (a0 : Nat) (w : px_W) : Option (Int32 × px_W) :=
  (gR w a0 8 0).bind fun v34 =>
  (gI w v34 1 1).bind fun v35 =>
  (gO w a0 8).bind fun o36 =>
  (fX8_fail X w a0 1 v35).bind fun q37 =>
  some (0, q37.2)
def fX8_findEndOfData_15 (X : px_X)  : Nat → Nat → Int32 → px_W → Option (Int32 × px_W)
  | 0, _, _, _ => none
  | m + 1, a0, a1, w =>
    (gI w a0 8 8).bind fun v38 =>
    (gR w a0 8 0).bind fun v39 =>
    (gI w v39 1 1).bind fun v40 =>
    if v40 ≤ (v38 + 1) then (
      fX8_findEndOfData_150 X  a0 w
    ) else (
      (gR w a0 8 0).bind fun v42 =>
      (gI w a0 8 8).bind fun v43 =>
      (gO w v42 1).bind fun o44 =>
      (fX1_at X w v42 (v43 + 1)).bind fun q45 =>
      (gR q45.2 a0 8 0).bind fun v46 =>
      (gI q45.2 a0 8 8).bind fun v47 =>
      (gO q45.2 v46 1).bind fun o48 =>
      (fX1_at X q45.2 v46 v47).bind fun q49 =>
      if q49.1 = 255 then (
        if q45.1 = 0 then (
          (gI q49.2 a0 8 8).bind fun v56 =>
          (pV q49.2 a0 8 8 (.int (v56 + 2))).bind fun w57 =>
          fX8_findEndOfData_147 X (fX8_findEndOfData_15 X  m) a0 a1 w57
        ) else (
          (gI q49.2 a0 8 4).bind fun v52 =>
          if v52 ≤ 0 then (
            fX8_findEndOfData_134 X  a0 q49.2
          ) else (
            if q45.1 = a1 then (
              if a1 = 215 then (
                fX8_findEndOfData_120 X (fX8_findEndOfData_15 X  m) a0 208 q49.2
              ) else (
                fX8_findEndOfData_120 X (fX8_findEndOfData_15 X  m) a0 (a1 + 1) q49.2
              )
            ) else (
              fX8_findEndOfData_134 X  a0 q49.2
            )
          )
        )
      ) else (
        (gI q49.2 a0 8 8).bind fun v58 =>
        (pV q49.2 a0 8 8 (.int (v58 + 1))).bind fun w59 =>
        fX8_findEndOfData_147 X (fX8_findEndOfData_15 X  m) a0 a1 w59
      )
    )
def fX8_findEndOfData (X : px_X) (w : px_W) (a0 : Nat) : Option (Int32 × px_W) :=
  (gR w a0 8 2).bind fun v60 =>
  (gI w a0 8 8).bind fun v61 =>
  (pV w v60 5 9 (.int v61)).bind fun w62 =>
  fX8_findEndOfData_15 X  FU a0 208 w62
def fX8_readScan_162 (X : px_X)  (a0 : Nat) (w : px_W) : Option (Int32 × px_W) :=
  (gO w a0 8).bind fun o34 =>
  (fX8_findEndOfData X w a0).bind fun q35 =>
  zR q35.1 q35.2
def fX8_readScan_132 (X : px_X)  : Nat → Nat → Int32 → px_W → Option (Int32 × px_W)
  | 0, _, _, _ => none
  | m + 1, a0, a1, w =>
    (gR w a0 8 2).bind fun v36 =>
    (gI w v36 5 0).bind fun v37 =>
    if v37 ≤ a1 then (
      fX8_readScan_162 X  a0 w
    ) else (
      (gR w a0 8 2).bind fun v39 =>
      (gR w v39 5 5).bind fun v40 =>
      (aN w 0 v40 a1).bind fun v41 =>
      (gO w a0 8).bind fun o42 =>
      (fX8_noteAsSent X w a0 v41).bind fun q43 =>
      fX8_readScan_132 X  m a0 (a1 + 1) q43
    )
def fX8_readScan_127 (X : px_X)  (a0 : Nat) (s0 : Int32) (s1 : Nat) (w : px_W) : Option (Int32 × px_W) :=
  (pZ w s1 8 13 s0).bind fun w44 =>
  fX8_readScan_132 X  FU a0 0 w44
def fX8_readScan_126 (X : px_X)  (a0 : Nat) (s0 : Nat) (w : px_W) : Option (Int32 × px_W) :=
  fX8_readScan_127 X  a0 0 s0 w
def fX8_readScan_98 (X : px_X)  (a0 : Nat) (w : px_W) : Option (Int32 × px_W) :=
  (gO w a0 8).bind fun o45 =>
  (fX8_endsHere X w a0).bind fun q46 =>
  if q46.1 = 0 then (
    some (0, q46.2)
  ) else (
    (gI q46.2 a0 8 12).bind fun v48 =>
    if v48 = 0 then (
      fX8_readScan_126 X  a0 a0 q46.2
    ) else (
      (gO q46.2 a0 8).bind fun o50 =>
      (fX8_isFirstScan X q46.2 a0).bind fun q51 =>
      if q51.1 = 0 then (
        fX8_readScan_126 X  a0 a0 q51.2
      ) else (
        fX8_readScan_127 X  a0 1 a0 q51.2
      )
    )
  )
def fX8_readScan_71 (X : px_X)  : Nat → Nat → Int32 → px_W → Option (Int32 × px_W)
  | 0, _, _, _ => none
  | m + 1, a0, a1, w =>
    (gR w a0 8 2).bind fun v53 =>
    (gI w v53 5 0).bind fun v54 =>
    if v54 ≤ a1 then (
      fX8_readScan_98 X  a0 w
    ) else (
      (gO w a0 8).bind fun o56 =>
      (fX8_hasItsTables X w a0 a1).bind fun q57 =>
      if q57.1 = 0 then (
        some (0, q57.2)
      ) else (
        fX8_readScan_71 X  m a0 (a1 + 1) q57.2
      )
    )
def fX8_readScan_69 (X : px_X)  (a0 : Nat) (w : px_W) : Option (Int32 × px_W) :=
  fX8_readScan_71 X  FU a0 0 w
def fX8_readScan_42 (X : px_X)  : Nat → Nat → Int32 → px_W → Option (Int32 × px_W)
  | 0, _, _, _ => none
  | m + 1, a0, a1, w =>
    (gR w a0 8 2).bind fun v59 =>
    (gI w v59 5 0).bind fun v60 =>
    if v60 ≤ a1 then (
      fX8_readScan_69 X  a0 w
    ) else (
      (gO w a0 8).bind fun o62 =>
      (fX8_fitsWhatWasSent X w a0 a1).bind fun q63 =>
      if q63.1 = 0 then (
        some (0, q63.2)
      ) else (
        fX8_readScan_42 X  m a0 (a1 + 1) q63.2
      )
    )
def fX8_readScan (X : px_X) (w : px_W) (a0 : Nat) : Option (Int32 × px_W) :=
  (gR w a0 8 2).bind fun v65 =>
  (gO w a0 8).bind fun o66 =>
  (fX8_byteIn X w a0 1 4).bind fun q67 =>
  (pV q67.2 v65 5 0 (.int q67.1)).bind fun w68 =>
  (gR w68 a0 8 2).bind fun v69 =>
  (gI w68 v69 5 0).bind fun v70 =>
  if v70 = ((-1)) then (
    some (0, w68)
  ) else (
    (gO w68 a0 8).bind fun o72 =>
    (fX8_readMembers X w68 a0).bind fun q73 =>
    if q73.1 = 0 then (
      some (0, q73.2)
    ) else (
      (gO q73.2 a0 8).bind fun o75 =>
      (fX8_readBand X q73.2 a0).bind fun q76 =>
      if q76.1 = 0 then (
        some (0, q76.2)
      ) else (
        fX8_readScan_42 X  FU a0 0 q76.2
      )
    )
  )
def fX8_readLines (X : px_X) (w : px_W) (a0 : Nat) : Option (Int32 × px_W) :=
  (gO w a0 8).bind fun o9 =>
  (fX8_numberIn X w a0 1 64).bind fun q10 =>
  if q10.1 = ((-1)) then (
    some (0, q10.2)
  ) else (
    (pV q10.2 a0 8 14 (.int q10.1)).bind fun w12 =>
    (gR w12 a0 8 1).bind fun v13 =>
    (pV w12 v13 2 1 (.int q10.1)).bind fun w14 =>
    (pZ w14 a0 8 13 0).bind fun w15 =>
    (gO w15 a0 8).bind fun o16 =>
    (fX8_endsHere X w15 a0).bind fun q17 =>
    zR q17.1 q17.2
  )
def fX8_passOver (X : px_X) (w : px_W) (a0 : Nat) : Option (Int32 × px_W) :=
  (gI w a0 8 10).bind fun v10 =>
  (gR w a0 8 0).bind fun v11 =>
  (gI w v11 1 1).bind fun v12 =>
  if v10 ≤ v12 then (
    (gI w a0 8 10).bind fun v14 =>
    (pV w a0 8 8 (.int v14)).bind fun w15 =>
    some (1, w15)
  ) else (
    (gR w a0 8 0).bind fun v16 =>
    (gI w v16 1 1).bind fun v17 =>
    (gO w a0 8).bind fun o18 =>
    (fX8_fail X w a0 1 v17).bind fun q19 =>
    some (0, q19.2)
  )
def fX8_readSegment (X : px_X) (w : px_W) (a0 : Nat) (a1 : Int32) : Option (Int32 × px_W) :=
  (gI w a0 8 8).bind fun v41 =>
  (pV w a0 8 9 (.int v41)).bind fun w42 =>
  (gI w42 a0 8 8).bind fun v43 =>
  (gR w42 a0 8 0).bind fun v44 =>
  (gI w42 v44 1 1).bind fun v45 =>
  if (v43 + 1) < v45 then (
    (gR w42 a0 8 0).bind fun v47 =>
    (gI w42 a0 8 8).bind fun v48 =>
    (gO w42 v47 1).bind fun o49 =>
    (fX1_at X w42 v47 v48).bind fun q50 =>
    (gR q50.2 a0 8 0).bind fun v51 =>
    (gI q50.2 a0 8 8).bind fun v52 =>
    (gO q50.2 v51 1).bind fun o53 =>
    (fX1_at X q50.2 v51 (v52 + 1)).bind fun q54 =>
    if 2 ≤ ((256 * q50.1) + q54.1) then (
      (gI q54.2 a0 8 8).bind fun v56 =>
      (pV q54.2 a0 8 10 (.int (v56 + ((256 * q50.1) + q54.1)))).bind fun w57 =>
      (gI w57 a0 8 8).bind fun v58 =>
      (pV w57 a0 8 8 (.int (v58 + 2))).bind fun w59 =>
      (gI w59 a0 8 5).bind fun v60 =>
      (pV w59 a0 8 5 (.int (v60 + 1))).bind fun w61 =>
      if a1 = 192 then (
        (gO w61 a0 8).bind fun o63 =>
        (fX8_readFrame X w61 a0 a1).bind fun q64 =>
        zR q64.1 q64.2
      ) else
      if a1 = 194 then (
        (gO w61 a0 8).bind fun o66 =>
        (fX8_readFrame X w61 a0 a1).bind fun q67 =>
        zR q67.1 q67.2
      ) else
      if a1 = 196 then (
        (gO w61 a0 8).bind fun o69 =>
        (fX8_readWordTables X w61 a0).bind fun q70 =>
        zR q70.1 q70.2
      ) else
      if a1 = 218 then (
        (gO w61 a0 8).bind fun o72 =>
        (fX8_readScan X w61 a0).bind fun q73 =>
        zR q73.1 q73.2
      ) else
      if a1 = 219 then (
        (gO w61 a0 8).bind fun o75 =>
        (fX8_readQuantisers X w61 a0).bind fun q76 =>
        zR q76.1 q76.2
      ) else
      if a1 = 220 then (
        (gO w61 a0 8).bind fun o78 =>
        (fX8_readLines X w61 a0).bind fun q79 =>
        zR q79.1 q79.2
      ) else
      if a1 = 221 then (
        (gO w61 a0 8).bind fun o81 =>
        (fX8_readInterval X w61 a0).bind fun q82 =>
        zR q82.1 q82.2
      ) else
      (
        (gO w61 a0 8).bind fun o83 =>
        (fX8_passOver X w61 a0).bind fun q84 =>
        zR q84.1 q84.2
      )
    ) else (
      (gI q54.2 a0 8 9).bind fun v85 =>
      (gO q54.2 a0 8).bind fun o86 =>
      (fX8_fail X q54.2 a0 5 v85).bind fun q87 =>
      some (0, q87.2)
    )
  ) else (
    (gR w42 a0 8 0).bind fun v88 =>
    (gI w42 v88 1 1).bind fun v89 =>
    (gO w42 a0 8).bind fun o90 =>
    (fX8_fail X w42 a0 1 v89).bind fun q91 =>
    some (0, q91.2)
  )
def fX8_nextScan_2 (X : px_X)  : Nat → Nat → Int32 → px_W → Option (Int32 × px_W)
  | 0, _, _, _ => none
  | m + 1, a0, a1, w =>
    (gI w a0 8 6).bind fun v6 =>
    if v6 = 0 then (
      if 16384 ≤ a1 then (
        some (0, w)
      ) else (
        (gO w a0 8).bind fun o9 =>
        (fX8_readMarker X w a0).bind fun q10 =>
        if q10.1 = ((-1)) then (
          some (0, q10.2)
        ) else (
          if q10.1 = 217 then (
            some (0, q10.2)
          ) else (
            (gO q10.2 a0 8).bind fun o13 =>
            (fX8_readSegment X q10.2 a0 q10.1).bind fun q14 =>
            if q14.1 = 0 then (
              some (0, q14.2)
            ) else (
              if q10.1 = 218 then (
                some (1, q14.2)
              ) else (
                fX8_nextScan_2 X  m a0 (a1 + 1) q14.2
              )
            )
          )
        )
      )
    ) else (
      some (0, w)
    )
def fX8_nextScan (X : px_X) (w : px_W) (a0 : Nat) : Option (Int32 × px_W) :=
  fX8_nextScan_2 X  FU a0 0 w
def fX9_cosine (X : px_X) (w : px_W) (a0 : Int32) : Option (Int32 × px_W) :=
  if 8 < (a0 &&& 31) then (
    if 16 < (a0 &&& 31) then (
      if 24 < (a0 &&& 31) then (
        (aX X (X.2.2.2.2.2 0) (32 - (a0 &&& 31))).bind fun v8 =>
        some (v8, w)
      ) else (
        (aX X (X.2.2.2.2.2 0) ((a0 &&& 31) - 16)).bind fun v9 =>
        some (-v9, w)
      )
    ) else (
      (aX X (X.2.2.2.2.2 0) (16 - (a0 &&& 31))).bind fun v10 =>
      some (-v10, w)
    )
  ) else (
    (aX X (X.2.2.2.2.2 0) (a0 &&& 31)).bind fun v11 =>
    some (v11, w)
  )
def fX9_init_113 (X : px_X) (k31 : Nat → Int32 → px_W → Option (px_W)) (a0 : Nat) (a1 : Int32) (w : px_W) : Option (px_W) :=
  k31 a0 (a1 + 1) w
def fX9_init_107 (X : px_X) (k31 : Nat → Int32 → px_W → Option (px_W)) (k42 : Nat → Int32 → Int32 → Int32 → px_W → Option (px_W)) (a0 : Nat) (a1 : Int32) (a2 : Int32) (a3 : Int32) (w : px_W) : Option (px_W) :=
  k42 a0 a1 a2 (a3 + 1) w
def fX9_init_100 (X : px_X) (k31 : Nat → Int32 → px_W → Option (px_W)) (k42 : Nat → Int32 → Int32 → Int32 → px_W → Option (px_W)) (k50 : Nat → Int32 → Int32 → Int32 → Int32 → px_W → Option (px_W)) (a0 : Nat) (a1 : Int32) (a2 : Int32) (a3 : Int32) (a4 : Int32) (s0 : Int32) (s1 : Int32) (s2 : Nat) (w : px_W) : Option (px_W) :=
  (sN id w 0 s2 s1 s0).bind fun w12 =>
  k50 a0 a1 a2 a3 (a4 + 1) w12
def fX9_init_50 (X : px_X) (k31 : Nat → Int32 → px_W → Option (px_W)) (k42 : Nat → Int32 → Int32 → Int32 → px_W → Option (px_W)) : Nat → Nat → Int32 → Int32 → Int32 → Int32 → px_W → Option (px_W)
  | 0, _, _, _, _, _, _ => none
  | m + 1, a0, a1, a2, a3, a4, w =>
    if a2 ≤ a4 then (
      fX9_init_107 X k31 k42 a0 a1 a2 a3 w
    ) else (
      (gR w a0 9 0).bind fun v14 =>
      if a3 = 0 then (
        (aX X (X.2.2.2.2.2 0) 4).bind fun v18 =>
        fX9_init_100 X k31 k42 (fX9_init_50 X k31 k42 m) a0 a1 a2 a3 a4 v18 (((64 * a1) + (8 * a3)) + a4) v14 w
      ) else (
        (dI 8 a2).bind fun v16 =>
        (fX9_cosine X w ((((2 * a4) + 1) * a3) * v16)).bind fun q17 =>
        fX9_init_100 X k31 k42 (fX9_init_50 X k31 k42 m) a0 a1 a2 a3 a4 q17.1 (((64 * a1) + (8 * a3)) + a4) v14 q17.2
      )
    )
def fX9_init_42 (X : px_X) (k31 : Nat → Int32 → px_W → Option (px_W)) : Nat → Nat → Int32 → Int32 → Int32 → px_W → Option (px_W)
  | 0, _, _, _, _, _ => none
  | m + 1, a0, a1, a2, a3, w =>
    if a2 ≤ a3 then (
      fX9_init_113 X k31 a0 a1 w
    ) else (
      fX9_init_50 X k31 (fX9_init_42 X k31 m) FU a0 a1 a2 a3 0 w
    )
def fX9_init_31 (X : px_X)  : Nat → Nat → Int32 → px_W → Option (px_W)
  | 0, _, _, _ => none
  | m + 1, a0, a1, w =>
    if 4 ≤ a1 then (
      some w
    ) else (
      fX9_init_42 X (fX9_init_31 X  m) FU a0 a1 ((1 : Int32) <<< (a1 &&& 31)) 0 w
    )
def fX9_init (X : px_X) (w : px_W) (a0 : Nat) : Option (px_W) :=
  (nA w 0 256 (.inl (fun _ => 0))).bind fun q21 =>
  (pV q21.2 a0 9 0 (.ref q21.1)).bind fun w22 =>
  (nA w22 3 64 (.inr (.inl (fun _ => 0)))).bind fun q23 =>
  (pV q23.2 a0 9 1 (.ref q23.1)).bind fun w24 =>
  (nA w24 3 64 (.inr (.inl (fun _ => 0)))).bind fun q25 =>
  (pV q25.2 a0 9 2 (.ref q25.1)).bind fun w26 =>
  fX9_init_31 X  FU a0 0 w26
def fX9_round (X : px_X) (w : px_W) (a0 : Int64) (a2 : Int32) : Option (Int64 × px_W) :=
  some ((a0 + ((1 : Int64) <<< ((a2 - 1).toInt64 &&& 63))) >>> (a2.toInt64 &&& 63), w)
def fX9_back_216 (X : px_X) (k115 : Nat → Int32 → Int32 → Int32 → Nat → Int32 → Int32 → px_W → Option (px_W)) (a0 : Nat) (a3 : Int32) (a4 : Int32) (a5 : Int32) (a6 : Nat) (a8 : Int32) (a9 : Int32) (w : px_W) : Option (px_W) :=
  k115 a0 a3 a4 a5 a6 a8 (a9 + 1) w
def fX9_back_190 (X : px_X) (k115 : Nat → Int32 → Int32 → Int32 → Nat → Int32 → Int32 → px_W → Option (px_W)) (k125 : Nat → Int32 → Int32 → Int32 → Nat → Int32 → Int32 → Int32 → px_W → Option (px_W)) (a0 : Nat) (a3 : Int32) (a4 : Int32) (a5 : Int32) (a6 : Nat) (a8 : Int32) (a9 : Int32) (a10 : Int32) (a11 : Int64) (w : px_W) : Option (px_W) :=
  (gR w a0 9 2).bind fun v25 =>
  (fX9_round X w a11 11).bind fun q26 =>
  (sJ q26.2 v25 ((8 * a9) + a10) q26.1).bind fun w27 =>
  k125 a0 a3 a4 a5 a6 a8 a9 (a10 + 1) w27
def fX9_back_138 (X : px_X) (k115 : Nat → Int32 → Int32 → Int32 → Nat → Int32 → Int32 → px_W → Option (px_W)) (k125 : Nat → Int32 → Int32 → Int32 → Nat → Int32 → Int32 → Int32 → px_W → Option (px_W)) : Nat → Nat → Int32 → Int32 → Int32 → Nat → Int32 → Int32 → Int32 → Int64 → Int32 → px_W → Option (px_W)
  | 0, _, _, _, _, _, _, _, _, _, _, _ => none
  | m + 1, a0, a3, a4, a5, a6, a8, a9, a10, a11, a13, w =>
    if a5 ≤ a13 then (
      fX9_back_190 X k115 k125 a0 a3 a4 a5 a6 a8 a9 a10 a11 w
    ) else (
      (gR w a0 9 0).bind fun v29 =>
      (aN w 0 v29 (((64 * a8) + (8 * a13)) + a9)).bind fun v30 =>
      (gR w a0 9 1).bind fun v31 =>
      (aJ w v31 ((8 * a13) + a10)).bind fun v32 =>
      fX9_back_138 X k115 k125 m a0 a3 a4 a5 a6 a8 a9 a10 (a11 + (v30.toInt64 * v32)) (a13 + 1) w
    )
def fX9_back_125 (X : px_X) (k115 : Nat → Int32 → Int32 → Int32 → Nat → Int32 → Int32 → px_W → Option (px_W)) : Nat → Nat → Int32 → Int32 → Int32 → Nat → Int32 → Int32 → Int32 → px_W → Option (px_W)
  | 0, _, _, _, _, _, _, _, _, _ => none
  | m + 1, a0, a3, a4, a5, a6, a8, a9, a10, w =>
    if a5 ≤ a10 then (
      fX9_back_216 X k115 a0 a3 a4 a5 a6 a8 a9 w
    ) else (
      fX9_back_138 X k115 (fX9_back_125 X k115 m) FU a0 a3 a4 a5 a6 a8 a9 a10 0 0 w
    )
def fX9_back_300 (X : px_X) (k225 : Nat → Int32 → Int32 → Int32 → Nat → Int32 → Int32 → px_W → Option (px_W)) (k235 : Nat → Int32 → Int32 → Int32 → Nat → Int32 → Int32 → Int32 → px_W → Option (px_W)) (a0 : Nat) (a3 : Int32) (a4 : Int32) (a5 : Int32) (a6 : Nat) (a8 : Int32) (a9 : Int32) (a10 : Int32) (a11 : Int64) (w : px_W) : Option (px_W) :=
  (fX9_round X w a11 17).bind fun q34 =>
  (gR q34.2 a6 3 2).bind fun v35 =>
  (sN id q34.2 0 v35 (((32 * ((a4 * a5) + a9)) + (a3 * a5)) + a10) ((mmaxL 0 (mminL 255 (q34.1 + 128))).toInt32)).bind fun w36 =>
  k235 a0 a3 a4 a5 a6 a8 a9 (a10 + 1) w36
def fX9_back_248 (X : px_X) (k225 : Nat → Int32 → Int32 → Int32 → Nat → Int32 → Int32 → px_W → Option (px_W)) (k235 : Nat → Int32 → Int32 → Int32 → Nat → Int32 → Int32 → Int32 → px_W → Option (px_W)) : Nat → Nat → Int32 → Int32 → Int32 → Nat → Int32 → Int32 → Int32 → Int64 → Int32 → px_W → Option (px_W)
  | 0, _, _, _, _, _, _, _, _, _, _, _ => none
  | m + 1, a0, a3, a4, a5, a6, a8, a9, a10, a11, a13, w =>
    if a5 ≤ a13 then (
      fX9_back_300 X k225 k235 a0 a3 a4 a5 a6 a8 a9 a10 a11 w
    ) else (
      (gR w a0 9 0).bind fun v38 =>
      (aN w 0 v38 (((64 * a8) + (8 * a13)) + a10)).bind fun v39 =>
      (gR w a0 9 2).bind fun v40 =>
      (aJ w v40 ((8 * a9) + a13)).bind fun v41 =>
      fX9_back_248 X k225 k235 m a0 a3 a4 a5 a6 a8 a9 a10 (a11 + (v39.toInt64 * v41)) (a13 + 1) w
    )
def fX9_back_357 (X : px_X) (k225 : Nat → Int32 → Int32 → Int32 → Nat → Int32 → Int32 → px_W → Option (px_W)) (a0 : Nat) (a3 : Int32) (a4 : Int32) (a5 : Int32) (a6 : Nat) (a8 : Int32) (a9 : Int32) (w : px_W) : Option (px_W) :=
  k225 a0 a3 a4 a5 a6 a8 (a9 + 1) w
def fX9_back_235 (X : px_X) (k225 : Nat → Int32 → Int32 → Int32 → Nat → Int32 → Int32 → px_W → Option (px_W)) : Nat → Nat → Int32 → Int32 → Int32 → Nat → Int32 → Int32 → Int32 → px_W → Option (px_W)
  | 0, _, _, _, _, _, _, _, _, _ => none
  | m + 1, a0, a3, a4, a5, a6, a8, a9, a10, w =>
    if a5 ≤ a10 then (
      fX9_back_357 X k225 a0 a3 a4 a5 a6 a8 a9 w
    ) else (
      fX9_back_248 X k225 (fX9_back_235 X k225 m) FU a0 a3 a4 a5 a6 a8 a9 a10 0 0 w
    )
def fX9_back_225 (X : px_X)  : Nat → Nat → Int32 → Int32 → Int32 → Nat → Int32 → Int32 → px_W → Option (px_W)
  | 0, _, _, _, _, _, _, _, _ => none
  | m + 1, a0, a3, a4, a5, a6, a8, a9, w =>
    if a5 ≤ a9 then (
      some w
    ) else (
      fX9_back_235 X (fX9_back_225 X  m) FU a0 a3 a4 a5 a6 a8 a9 0 w
    )
def fX9_back_222 (X : px_X)  (a0 : Nat) (a3 : Int32) (a4 : Int32) (a5 : Int32) (a6 : Nat) (a8 : Int32) (w : px_W) : Option (px_W) :=
  fX9_back_225 X  FU a0 a3 a4 a5 a6 a8 0 w
def fX9_back_115 (X : px_X)  : Nat → Nat → Int32 → Int32 → Int32 → Nat → Int32 → Int32 → px_W → Option (px_W)
  | 0, _, _, _, _, _, _, _, _ => none
  | m + 1, a0, a3, a4, a5, a6, a8, a9, w =>
    if a5 ≤ a9 then (
      fX9_back_222 X  a0 a3 a4 a5 a6 a8 w
    ) else (
      fX9_back_125 X (fX9_back_115 X  m) FU a0 a3 a4 a5 a6 a8 a9 0 w
    )
def fX9_back_112 (X : px_X)  (a0 : Nat) (a3 : Int32) (a4 : Int32) (a5 : Int32) (a6 : Nat) (a8 : Int32) (w : px_W) : Option (px_W) :=
  fX9_back_115 X  FU a0 a3 a4 a5 a6 a8 0 w
def fX9_back_60 (X : px_X)  : Nat → Nat → Nat → Int32 → Int32 → Int32 → Int32 → Nat → Int32 → Int32 → Int32 → px_W → Option (px_W)
  | 0, _, _, _, _, _, _, _, _, _, _, _ => none
  | m + 1, a0, a1, a2, a3, a4, a5, a6, a7, a8, a9, w =>
    if 64 ≤ a9 then (
      fX9_back_112 X  a0 a3 a4 a5 a6 a8 w
    ) else (
      (gR w a0 9 1).bind fun v46 =>
      (aX X (X.2.2.2.2.2 4) a9).bind fun v47 =>
      (gR w a1 2 11).bind fun v48 =>
      (aN w 0 v48 ((64 * a7) + a9)).bind fun v49 =>
      (gR w a1 2 12).bind fun v50 =>
      (aN w 0 v50 ((64 * a2) + a9)).bind fun v51 =>
      (sJ w v46 v47 (v49.toInt64 * v51.toInt64)).bind fun w52 =>
      fX9_back_60 X  m a0 a1 a2 a3 a4 a5 a6 a7 a8 (a9 + 1) w52
    )
def fX9_back_25 (X : px_X)  (a0 : Nat) (a1 : Nat) (a2 : Int32) (a3 : Int32) (a4 : Int32) (a5 : Int32) (a6 : Nat) (a7 : Int32) (s0 : Int32) (w : px_W) : Option (px_W) :=
  if a7 = ((-1)) then (
    some w
  ) else (
    if 32 < ((a3 + 1) * a5) then (
      some w
    ) else (
      if ((a4 + 1) * a5) ≤ 32 then (
        fX9_back_60 X  FU a0 a1 a2 a3 a4 a5 a6 a7 s0 0 w
      ) else (
        some w
      )
    )
  )
def fX9_back (X : px_X) (w : px_W) (a0 : Nat) (a1 : Nat) (a2 : Int32) (a3 : Int32) (a4 : Int32) (a5 : Int32) (a6 : Nat) : Option (px_W) :=
  (gO w a1 2).bind fun o56 =>
  (fX2_block X w a1 a2 a3 a4).bind fun q57 =>
  if a5 = 8 then (
    fX9_back_25 X  a0 a1 a2 a3 a4 a5 a6 q57.1 3 q57.2
  ) else (
    (dI a5 2).bind fun v59 =>
    fX9_back_25 X  a0 a1 a2 a3 a4 a5 a6 q57.1 v59 q57.2
  )
def fX9_nearestMultiple (X : px_X) (w : px_W) (a0 : Int32) (a1 : Int32) : Option (Int32 × px_W) :=
  if 1 ≤ a1 then (
    (dI ((2 * (mabs a0)) + a1) (2 * a1)).bind fun v3 =>
    if 0 ≤ a0 then (
      some (v3, w)
    ) else (
      some (-v3, w)
    )
  ) else (
    some (0, w)
  )
def fX9_forward_319 (X : px_X) (k183 : Nat → Nat → Int32 → Int32 → Int32 → px_W → Option (px_W)) (a0 : Nat) (a2 : Nat) (a3 : Int32) (a6 : Int32) (a7 : Int32) (a12 : Int32) (s0 : Int32) (s1 : Int32) (s2 : Nat) (w : px_W) : Option (px_W) :=
  (sN id w 0 s2 s1 (mmax s0 (mmin 1023 a12))).bind fun w30 =>
  k183 a0 a2 a3 a6 (a7 + 1) w30
def fX9_forward_268 (X : px_X) (k183 : Nat → Nat → Int32 → Int32 → Int32 → px_W → Option (px_W)) (a0 : Nat) (a2 : Nat) (a3 : Int32) (a6 : Int32) (a7 : Int32) (a10 : Int64) (w : px_W) : Option (px_W) :=
  (fX9_round X w a10 17).bind fun q31 =>
  (gR q31.2 a2 2 12).bind fun v32 =>
  (aN q31.2 0 v32 ((64 * a3) + a7)).bind fun v33 =>
  (fX9_nearestMultiple X q31.2 q31.1.toInt32 v33).bind fun q34 =>
  (gR q34.2 a2 2 11).bind fun v35 =>
  if a7 = 0 then (
    fX9_forward_319 X k183 a0 a2 a3 a6 a7 q34.1 ((-1024)) ((64 * a6) + a7) v35 q34.2
  ) else (
    fX9_forward_319 X k183 a0 a2 a3 a6 a7 q34.1 ((-1023)) ((64 * a6) + a7) v35 q34.2
  )
def fX9_forward_218 (X : px_X) (k183 : Nat → Nat → Int32 → Int32 → Int32 → px_W → Option (px_W)) : Nat → Nat → Nat → Int32 → Int32 → Int32 → Int32 → Int32 → Int64 → Int32 → px_W → Option (px_W)
  | 0, _, _, _, _, _, _, _, _, _, _ => none
  | m + 1, a0, a2, a3, a6, a7, a8, a9, a10, a12, w =>
    if 8 ≤ a12 then (
      fX9_forward_268 X k183 a0 a2 a3 a6 a7 a10 w
    ) else (
      (gR w a0 9 0).bind fun v38 =>
      (aN w 0 v38 ((192 + (8 * a9)) + a12)).bind fun v39 =>
      (gR w a0 9 2).bind fun v40 =>
      (aJ w v40 ((8 * a8) + a12)).bind fun v41 =>
      fX9_forward_218 X k183 m a0 a2 a3 a6 a7 a8 a9 (a10 + (v39.toInt64 * v41)) (a12 + 1) w
    )
def fX9_forward_183 (X : px_X)  : Nat → Nat → Nat → Int32 → Int32 → Int32 → px_W → Option (px_W)
  | 0, _, _, _, _, _, _ => none
  | m + 1, a0, a2, a3, a6, a7, w =>
    if 64 ≤ a7 then (
      some w
    ) else (
      (aX X (X.2.2.2.2.2 4) a7).bind fun v43 =>
      (dI v43 8).bind fun v44 =>
      (aX X (X.2.2.2.2.2 4) a7).bind fun v45 =>
      (rI v45 8).bind fun v46 =>
      fX9_forward_218 X (fX9_forward_183 X  m) FU a0 a2 a3 a6 a7 v44 v46 0 0 w
    )
def fX9_forward_180 (X : px_X)  (a0 : Nat) (a2 : Nat) (a3 : Int32) (a6 : Int32) (w : px_W) : Option (px_W) :=
  fX9_forward_183 X  FU a0 a2 a3 a6 0 w
def fX9_forward_148 (X : px_X) (k75 : Nat → Nat → Int32 → Int32 → Int32 → px_W → Option (px_W)) (k85 : Nat → Nat → Int32 → Int32 → Int32 → Int32 → px_W → Option (px_W)) (a0 : Nat) (a2 : Nat) (a3 : Int32) (a6 : Int32) (a7 : Int32) (a8 : Int32) (a9 : Int64) (w : px_W) : Option (px_W) :=
  (gR w a0 9 2).bind fun v47 =>
  (fX9_round X w a9 11).bind fun q48 =>
  (sJ q48.2 v47 ((8 * a7) + a8) q48.1).bind fun w49 =>
  k85 a0 a2 a3 a6 a7 (a8 + 1) w49
def fX9_forward_98 (X : px_X) (k75 : Nat → Nat → Int32 → Int32 → Int32 → px_W → Option (px_W)) (k85 : Nat → Nat → Int32 → Int32 → Int32 → Int32 → px_W → Option (px_W)) : Nat → Nat → Nat → Int32 → Int32 → Int32 → Int32 → Int64 → Int32 → px_W → Option (px_W)
  | 0, _, _, _, _, _, _, _, _, _ => none
  | m + 1, a0, a2, a3, a6, a7, a8, a9, a11, w =>
    if 8 ≤ a11 then (
      fX9_forward_148 X k75 k85 a0 a2 a3 a6 a7 a8 a9 w
    ) else (
      (gR w a0 9 0).bind fun v51 =>
      (aN w 0 v51 ((192 + (8 * a7)) + a11)).bind fun v52 =>
      (gR w a0 9 1).bind fun v53 =>
      (aJ w v53 ((8 * a11) + a8)).bind fun v54 =>
      fX9_forward_98 X k75 k85 m a0 a2 a3 a6 a7 a8 (a9 + (v52.toInt64 * v54)) (a11 + 1) w
    )
def fX9_forward_174 (X : px_X) (k75 : Nat → Nat → Int32 → Int32 → Int32 → px_W → Option (px_W)) (a0 : Nat) (a2 : Nat) (a3 : Int32) (a6 : Int32) (a7 : Int32) (w : px_W) : Option (px_W) :=
  k75 a0 a2 a3 a6 (a7 + 1) w
def fX9_forward_85 (X : px_X) (k75 : Nat → Nat → Int32 → Int32 → Int32 → px_W → Option (px_W)) : Nat → Nat → Nat → Int32 → Int32 → Int32 → Int32 → px_W → Option (px_W)
  | 0, _, _, _, _, _, _, _ => none
  | m + 1, a0, a2, a3, a6, a7, a8, w =>
    if 8 ≤ a8 then (
      fX9_forward_174 X k75 a0 a2 a3 a6 a7 w
    ) else (
      fX9_forward_98 X k75 (fX9_forward_85 X k75 m) FU a0 a2 a3 a6 a7 a8 0 0 w
    )
def fX9_forward_75 (X : px_X)  : Nat → Nat → Nat → Int32 → Int32 → Int32 → px_W → Option (px_W)
  | 0, _, _, _, _, _, _ => none
  | m + 1, a0, a2, a3, a6, a7, w =>
    if 8 ≤ a7 then (
      fX9_forward_180 X  a0 a2 a3 a6 w
    ) else (
      fX9_forward_85 X (fX9_forward_75 X  m) FU a0 a2 a3 a6 a7 0 w
    )
def fX9_forward_72 (X : px_X)  (a0 : Nat) (a2 : Nat) (a3 : Int32) (a6 : Int32) (w : px_W) : Option (px_W) :=
  fX9_forward_75 X  FU a0 a2 a3 a6 0 w
def fX9_forward_21 (X : px_X)  : Nat → Nat → Nat → Nat → Int32 → Int32 → Int32 → Int32 → Int32 → px_W → Option (px_W)
  | 0, _, _, _, _, _, _, _, _, _ => none
  | m + 1, a0, a1, a2, a3, a4, a5, a6, a7, w =>
    if 64 ≤ a7 then (
      fX9_forward_72 X  a0 a2 a3 a6 w
    ) else (
      (gR w a0 9 1).bind fun v58 =>
      (rI a7 8).bind fun v59 =>
      (dI a7 8).bind fun v60 =>
      (gO w a1 3).bind fun o61 =>
      (fX3_nearest X w a1 ((8 * a4) + v59) ((8 * a5) + v60)).bind fun q62 =>
      (sJ q62.2 v58 a7 ((q62.1 - 128).toInt64)).bind fun w63 =>
      fX9_forward_21 X  m a0 a1 a2 a3 a4 a5 a6 (a7 + 1) w63
    )
def fX9_forward (X : px_X) (w : px_W) (a0 : Nat) (a1 : Nat) (a2 : Nat) (a3 : Int32) (a4 : Int32) (a5 : Int32) : Option (px_W) :=
  (gO w a2 2).bind fun o64 =>
  (fX2_block X w a2 a3 a4 a5).bind fun q65 =>
  if q65.1 = ((-1)) then (
    some q65.2
  ) else (
    fX9_forward_21 X  FU a0 a1 a2 a3 a4 a5 q65.1 0 q65.2
  )
def fX11_init_93 (X : px_X)  (a0 : Nat) (w : px_W) : Option (px_W) :=
  (nO w 3 3 [.int 0, .int 0, .null]).bind fun q47 =>
  (fX3_init X q47.2 q47.1).bind fun q48 =>
  (pV q48 a0 11 7 (.ref q47.1)).bind fun w49 =>
  (nO w49 3 3 [.int 0, .int 0, .null]).bind fun q50 =>
  (fX3_init X q50.2 q50.1).bind fun q51 =>
  (pV q51 a0 11 8 (.ref q50.1)).bind fun w52 =>
  (nO w52 9 3 [.null, .null, .null]).bind fun q53 =>
  (fX9_init X q53.2 q53.1).bind fun q54 =>
  (pV q54 a0 11 9 (.ref q53.1)).bind fun w55 =>
  (nO w55 8 20 [.null, .null, .null, .null, .int 0, .int 0, .int 0, .int 0, .int 0, .int 0, .int 0, .int 0, .int 0, .int 0, .int 0, .null, .null, .null, .null, .null]).bind fun q56 =>
  (gR q56.2 a0 11 0).bind fun v57 =>
  (gR q56.2 a0 11 5).bind fun v58 =>
  (fX8_init X q56.2 q56.1 v57 v58).bind fun q59 =>
  (pV q59 a0 11 10 (.ref q56.1)).bind fun w60 =>
  (nO w60 6 9 [.null, .null, .null, .int 0, .int 0, .int 0, .int 0, .int 0, .null]).bind fun q61 =>
  (gR q61.2 a0 11 0).bind fun v62 =>
  (gR q61.2 a0 11 5).bind fun v63 =>
  (fX6_init X q61.2 q61.1 v62 v63).bind fun q64 =>
  (pV q64 a0 11 11 (.ref q61.1)).bind fun w65 =>
  (nO w65 4 6 [.null, .null, .int 0, .null, .null, .null]).bind fun q66 =>
  (gR q66.2 a0 11 2).bind fun v67 =>
  (gR q66.2 a0 11 4).bind fun v68 =>
  (fX4_init X q66.2 q66.1 v67 v68).bind fun q69 =>
  (pV q69 a0 11 12 (.ref q66.1)).bind fun w70 =>
  (pV w70 a0 11 14 (.int ((-1)))).bind fun w71 =>
  some w71
def fX11_init_69 (X : px_X)  : Nat → Nat → Int32 → px_W → Option (px_W)
  | 0, _, _, _ => none
  | m + 1, a0, a1, w =>
    if 4 ≤ a1 then (
      fX11_init_93 X  a0 w
    ) else (
      (gR w a0 11 6).bind fun v73 =>
      (nO w 3 3 [.int 0, .int 0, .null]).bind fun q74 =>
      (fX3_init X q74.2 q74.1).bind fun q75 =>
      (sQ q75 6 3 v73 a1 q74.1).bind fun w76 =>
      fX11_init_69 X  m a0 (a1 + 1) w76
    )
def fX11_init (X : px_X) (w : px_W) (a0 : Nat) : Option (px_W) :=
  (nO w 1 3 [.null, .int 0, .int 0]).bind fun q77 =>
  (fX1_init X q77.2 q77.1).bind fun q78 =>
  (pV q78 a0 11 0 (.ref q77.1)).bind fun w79 =>
  (nO w79 1 3 [.null, .int 0, .int 0]).bind fun q80 =>
  (fX1_init X q80.2 q80.1).bind fun q81 =>
  (pV q81 a0 11 1 (.ref q80.1)).bind fun w82 =>
  (nO w82 1 3 [.null, .int 0, .int 0]).bind fun q83 =>
  (fX1_init X q83.2 q83.1).bind fun q84 =>
  (pV q84 a0 11 2 (.ref q83.1)).bind fun w85 =>
  (nO w85 2 13 [.int 0, .int 0, .int 0, .int 0, .int 0, .int 0, .null, .null, .null, .null, .null, .null, .null]).bind fun q86 =>
  (fX2_init X q86.2 q86.1).bind fun q87 =>
  (pV q87 a0 11 4 (.ref q86.1)).bind fun w88 =>
  (nO w88 2 13 [.int 0, .int 0, .int 0, .int 0, .int 0, .int 0, .null, .null, .null, .null, .null, .null, .null]).bind fun q89 =>
  (fX2_init X q89.2 q89.1).bind fun q90 =>
  (pV q90 a0 11 5 (.ref q89.1)).bind fun w91 =>
  (nA w91 6 4 (.inr (.inr (.inr (.inr (fun _ => none)))))).bind fun q92 =>
  (pV q92.2 a0 11 6 (.ref q92.1)).bind fun w93 =>
  fX11_init_69 X  FU a0 0 w93
def fX11_giveInput_33 (X : px_X)  : Nat → Nat → Int64 → Int32 → px_W → Option (Int32 × px_W)
  | 0, _, _, _, _ => none
  | m + 1, a0, a1, a4, w =>
    if a4 < 0 then (
      some (1, w)
    ) else (
      (gR w a0 11 0).bind fun v7 =>
      (gO w v7 1).bind fun o8 =>
      (fX1_add X w v7 (((a1 >>> ((8 * a4).toInt64 &&& 63)).toInt32) &&& 255)).bind fun q9 =>
      fX11_giveInput_33 X  m a0 a1 (a4 + (-1)) q9
    )
def fX11_giveInput (X : px_X) (w : px_W) (a0 : Nat) (a1 : Int64) (a3 : Int32) : Option (Int32 × px_W) :=
  if a3 < 1 then (
    some (0, w)
  ) else (
    if 8 < a3 then (
      some (0, w)
    ) else (
      (gR w a0 11 0).bind fun v12 =>
      (gI w v12 1 1).bind fun v13 =>
      if (v13 + a3) ≤ 16384 then (
        fX11_giveInput_33 X  FU a0 a1 (a3 - 1) w
      ) else (
        some (0, w)
      )
    )
  )
def fX11_wipeInput (X : px_X) (w : px_W) (a0 : Nat) : Option (px_W) :=
  (gR w a0 11 0).bind fun v4 =>
  (gO w v4 1).bind fun o5 =>
  (fX1_clear X w v4).bind fun q6 =>
  some q6
def fX11_takeOutput (X : px_X) (w : px_W) (a0 : Nat) : Option (px_W) :=
  (gR w a0 11 0).bind fun v5 =>
  (gR w a0 11 1).bind fun v6 =>
  (gO w v5 1).bind fun o7 =>
  (fX1_takeAll X w v5 v6).bind fun q8 =>
  some q8
def fX11_outputAt (X : px_X) (w : px_W) (a0 : Nat) (a1 : Int32) : Option (Int32 × px_W) :=
  (gR w a0 11 1).bind fun v4 =>
  (gO w v4 1).bind fun o5 =>
  (fX1_at X w v4 a1).bind fun q6 =>
  some (q6.1, q6.2)
def fX11_refuseInput (X : px_X) (w : px_W) (a0 : Nat) (a1 : Int32) (a2 : Int32) : Option (Int32 × px_W) :=
  (pV w a0 11 13 (.int a1)).bind fun w3 =>
  (pV w3 a0 11 14 (.int a2)).bind fun w4 =>
  some (a1, w4)
def fX11_takeDraft (X : px_X) (w : px_W) (a0 : Nat) : Option (px_W) :=
  (gR w a0 11 4).bind fun v6 =>
  (gR w a0 11 5).bind fun v7 =>
  (pV w a0 11 4 (.ref v7)).bind fun w8 =>
  (pV w8 a0 11 5 (.ref v6)).bind fun w9 =>
  (pZ w9 a0 11 3 1).bind fun w10 =>
  some w10
def fX11_openInput_209 (X : px_X)  (a0 : Nat) (a1 : Int32) (a2 : Int32) (w : px_W) : Option (Int32 × px_W) :=
  (pV w a0 11 13 (.int 0)).bind fun w57 =>
  (pV w57 a0 11 14 (.int ((-1)))).bind fun w58 =>
  (pV w58 a0 11 15 (.int a1)).bind fun w59 =>
  (pV w59 a0 11 16 (.int a2)).bind fun w60 =>
  (gI w60 a0 11 17).bind fun v61 =>
  (pV w60 a0 11 17 (.int (v61 + 1))).bind fun w62 =>
  (gO w62 a0 11).bind fun o63 =>
  (fX11_takeDraft X w62 a0).bind fun q64 =>
  some (0, q64)
def fX11_openInput_195 (X : px_X)  (a0 : Nat) (a3 : Int32) (a4 : Int32) (w : px_W) : Option (Int32 × px_W) :=
  (gO w a0 11).bind fun o65 =>
  (fX11_refuseInput X w a0 a4 a3).bind fun q66 =>
  some (q66.1, q66.2)
def fX11_openInput_188 (X : px_X) (k121 : Nat → Int32 → Int32 → Int32 → px_W → Option (Int32 × px_W)) (a0 : Nat) (a1 : Int32) (a2 : Int32) (a3 : Int32) (s0 : Int32) (w : px_W) : Option (Int32 × px_W) :=
  if s0 = 0 then (
    k121 a0 a1 a2 (a3 + 1) w
  ) else (
    fX11_openInput_195 X  a0 a3 s0 w
  )
def fX11_openInput_121 (X : px_X)  : Nat → Nat → Int32 → Int32 → Int32 → px_W → Option (Int32 × px_W)
  | 0, _, _, _, _, _ => none
  | m + 1, a0, a1, a2, a3, w =>
    if a1 ≤ a3 then (
      fX11_openInput_209 X  a0 a1 a2 w
    ) else (
      (gR w a0 11 10).bind fun v69 =>
      (gO w v69 8).bind fun o70 =>
      (fX8_nextScan X w v69).bind fun q71 =>
      if q71.1 = 0 then (
        fX11_openInput_209 X  a0 a1 a2 q71.2
      ) else (
        (gR q71.2 a0 11 10).bind fun v73 =>
        (gR q71.2 v73 8 2).bind fun v74 =>
        (gI q71.2 v74 5 4).bind fun v75 =>
        if v75 ≤ 9 then (
          (gR q71.2 a0 11 11).bind fun v77 =>
          (gR q71.2 a0 11 5).bind fun v78 =>
          (gR q71.2 a0 11 10).bind fun v79 =>
          (gR q71.2 v79 8 2).bind fun v80 =>
          (gR q71.2 a0 11 10).bind fun v81 =>
          (gR q71.2 v81 8 3).bind fun v82 =>
          (gR q71.2 a0 11 10).bind fun v83 =>
          (gI q71.2 v83 8 4).bind fun v84 =>
          (gO q71.2 v77 6).bind fun o85 =>
          (fX6_read X q71.2 v77 v78 v80 v82 v84).bind fun q86 =>
          fX11_openInput_188 X (fX11_openInput_121 X  m) a0 a1 a2 a3 q86.1 q86.2
        ) else (
          fX11_openInput_188 X (fX11_openInput_121 X  m) a0 a1 a2 a3 10 q71.2
        )
      )
    )
def fX11_openInput_36 (X : px_X)  (a0 : Nat) (a1 : Int32) (w : px_W) : Option (Int32 × px_W) :=
  (gR w a0 11 10).bind fun v87 =>
  (gI w v87 8 6).bind fun v88 =>
  if v88 = 0 then (
    (gR w a0 11 5).bind fun v90 =>
    (gO w v90 2).bind fun o91 =>
    (fX2_settle X w v90).bind fun q92 =>
    (gR q92 a0 11 5).bind fun v93 =>
    (gI q92 v93 2 5).bind fun v94 =>
    if v94 ≤ 192 then (
      (gR q92 a0 11 5).bind fun v96 =>
      (gR q92 v96 2 11).bind fun v97 =>
      (fJ7_fill_53178 X q92 v97 0).bind fun q98 =>
      (gR q98 a0 11 10).bind fun v99 =>
      (gI q98 v99 8 5).bind fun v100 =>
      (gR q98 a0 11 10).bind fun v101 =>
      (gO q98 v101 8).bind fun o102 =>
      (fX8_beginAgain X q98 v101).bind fun q103 =>
      fX11_openInput_121 X  FU a0 a1 v100 0 q103
    ) else (
      (gO q92 a0 11).bind fun o104 =>
      (fX11_refuseInput X q92 a0 9 ((-1))).bind fun q105 =>
      some (q105.1, q105.2)
    )
  ) else (
    (gR w a0 11 10).bind fun v106 =>
    (gI w v106 8 6).bind fun v107 =>
    (gR w a0 11 10).bind fun v108 =>
    (gI w v108 8 7).bind fun v109 =>
    (gO w a0 11).bind fun o110 =>
    (fX11_refuseInput X w a0 v107 v109).bind fun q111 =>
    some (q111.1, q111.2)
  )
def fX11_openInput_13 (X : px_X)  : Nat → Nat → Int32 → px_W → Option (Int32 × px_W)
  | 0, _, _, _ => none
  | m + 1, a0, a1, w =>
    if 16384 ≤ a1 then (
      fX11_openInput_36 X  a0 a1 w
    ) else (
      (gR w a0 11 10).bind fun v113 =>
      (gO w v113 8).bind fun o114 =>
      (fX8_nextScan X w v113).bind fun q115 =>
      if q115.1 = 0 then (
        fX11_openInput_36 X  a0 a1 q115.2
      ) else (
        fX11_openInput_13 X  m a0 (a1 + 1) q115.2
      )
    )
def fX11_openInput (X : px_X) (w : px_W) (a0 : Nat) : Option (Int32 × px_W) :=
  (gR w a0 11 10).bind fun v117 =>
  (gR w a0 11 5).bind fun v118 =>
  (gO w v117 8).bind fun o119 =>
  (fX8_begin X w v117 v118).bind fun q120 =>
  fX11_openInput_13 X  FU a0 0 q120
def fX11_saveAs_199 (X : px_X) (k93 : Nat → Nat → Int32 → px_W → Option (Int32 × px_W)) (a0 : Nat) (a3 : Nat) (a4 : Int32) (w : px_W) : Option (Int32 × px_W) :=
  k93 a0 a3 (a4 + 5) w
def fX11_saveAs_171 (X : px_X) (k93 : Nat → Nat → Int32 → px_W → Option (Int32 × px_W)) : Nat → Nat → Nat → Int32 → Int32 → px_W → Option (Int32 × px_W)
  | 0, _, _, _, _, _ => none
  | m + 1, a0, a3, a4, a5, w =>
    (gR w a0 11 4).bind fun v43 =>
    (gI w v43 2 2).bind fun v44 =>
    if v44 ≤ a5 then (
      fX11_saveAs_199 X k93 a0 a3 a4 w
    ) else (
      (gR w a0 11 12).bind fun v46 =>
      (gO w v46 4).bind fun o47 =>
      (fX4_tellScan X w v46 a5 1).bind fun q48 =>
      fX11_saveAs_171 X k93 m a0 a3 a4 (a5 + 1) q48
    )
def fX11_saveAs_168 (X : px_X) (k93 : Nat → Nat → Int32 → px_W → Option (Int32 × px_W)) (a0 : Nat) (a3 : Nat) (a4 : Int32) (w : px_W) : Option (Int32 × px_W) :=
  fX11_saveAs_171 X k93 FU a0 a3 a4 0 w
def fX11_saveAs_205 (X : px_X)  (a0 : Nat) (w : px_W) : Option (Int32 × px_W) :=
  (gR w a0 11 12).bind fun v49 =>
  (gO w v49 4).bind fun o50 =>
  (fX4_tellMarker X w v49 217).bind fun q51 =>
  (gR q51 a0 11 2).bind fun v52 =>
  (gI q51 v52 1 2).bind fun v53 =>
  if v53 = 0 then (
    (gR q51 a0 11 1).bind fun v55 =>
    (gR q51 a0 11 2).bind fun v56 =>
    (pV q51 a0 11 1 (.ref v56)).bind fun w57 =>
    (pV w57 a0 11 2 (.ref v55)).bind fun w58 =>
    (gR w58 a0 11 1).bind fun v59 =>
    (gI w58 v59 1 1).bind fun v60 =>
    some (v60, w58)
  ) else (
    some ((-1), q51)
  )
def fX11_saveAs_93 (X : px_X)  : Nat → Nat → Nat → Int32 → px_W → Option (Int32 × px_W)
  | 0, _, _, _, _ => none
  | m + 1, a0, a3, a4, w =>
    (aLX X a3).bind fun v61 =>
    if v61 < (a4 + 5) then (
      fX11_saveAs_205 X  a0 w
    ) else (
      (gR w a0 11 12).bind fun v63 =>
      (aX X a3 (a4 + 1)).bind fun v64 =>
      (aX X a3 (a4 + 2)).bind fun v65 =>
      (aX X a3 (a4 + 3)).bind fun v66 =>
      (aX X a3 (a4 + 4)).bind fun v67 =>
      (gO w v63 4).bind fun o68 =>
      (fX4_setBand X w v63 v64 v65 v66 v67).bind fun q69 =>
      (aX X a3 a4).bind fun v70 =>
      if v70 = 0 then (
        (gR q69 a0 11 12).bind fun v72 =>
        (gO q69 v72 4).bind fun o73 =>
        (fX4_canBeTogether X q69 v72).bind fun q74 =>
        if q74.1 = 0 then (
          fX11_saveAs_168 X (fX11_saveAs_93 X  m) a0 a3 a4 q74.2
        ) else (
          (gR q74.2 a0 11 12).bind fun v76 =>
          (gR q74.2 a0 11 4).bind fun v77 =>
          (gI q74.2 v77 2 2).bind fun v78 =>
          (gO q74.2 v76 4).bind fun o79 =>
          (fX4_tellScan X q74.2 v76 0 v78).bind fun q80 =>
          fX11_saveAs_199 X (fX11_saveAs_93 X  m) a0 a3 a4 q80
        )
      ) else (
        fX11_saveAs_168 X (fX11_saveAs_93 X  m) a0 a3 a4 q69
      )
    )
def fX11_saveAs_87 (X : px_X)  (a0 : Nat) (a3 : Nat) (s0 : Int32) (s1 : Nat) (w : px_W) : Option (Int32 × px_W) :=
  (gO w s1 4).bind fun o81 =>
  (fX4_tellPicture X w s1 s0).bind fun q82 =>
  fX11_saveAs_93 X  FU a0 a3 0 q82
def fX11_saveAs_52 (X : px_X)  (a0 : Nat) (a1 : Int32) (a2 : Int32) (s0 : Nat) (w : px_W) : Option (Int32 × px_W) :=
  (gR w a0 11 12).bind fun v83 =>
  (gR w a0 11 2).bind fun v84 =>
  (gR w a0 11 4).bind fun v85 =>
  (gO w v83 4).bind fun o86 =>
  (fX4_begin X w v83 v84 v85 a2).bind fun q87 =>
  (gR q87 a0 11 12).bind fun v88 =>
  if a1 = 2 then (
    fX11_saveAs_87 X  a0 s0 194 v88 q87
  ) else (
    fX11_saveAs_87 X  a0 s0 192 v88 q87
  )
def fX11_saveAs (X : px_X) (w : px_W) (a0 : Nat) (a1 : Int32) (a2 : Int32) : Option (Int32 × px_W) :=
  (gI w a0 11 3).bind fun v90 =>
  if v90 = 0 then (
    some ((-1), w)
  ) else (
    if a1 < 0 then (
      some ((-1), w)
    ) else (
      if 2 < a1 then (
        some ((-1), w)
      ) else (
        if a2 < 0 then (
          some ((-1), w)
        ) else (
          if a2 ≤ 65535 then (
            if a1 = 0 then (
              fX11_saveAs_52 X  a0 a1 a2 (X.2.2.2.2.2 1) w
            ) else (
              if a1 = 1 then (
                fX11_saveAs_52 X  a0 a1 a2 (X.2.2.2.2.2 2) w
              ) else (
                fX11_saveAs_52 X  a0 a1 a2 (X.2.2.2.2.2 3) w
              )
            )
          ) else (
            some ((-1), w)
          )
        )
      )
    )
  )
def fX11_paintComponent_115 (X : px_X) (k63 : Nat → Int32 → Int32 → px_W → Option (px_W)) (a0 : Nat) (a1 : Int32) (a2 : Int32) (w : px_W) : Option (px_W) :=
  k63 a0 a1 (a2 + 1) w
def fX11_paintComponent_78 (X : px_X) (k63 : Nat → Int32 → Int32 → px_W → Option (px_W)) : Nat → Nat → Int32 → Int32 → Int32 → px_W → Option (px_W)
  | 0, _, _, _, _, _ => none
  | m + 1, a0, a1, a2, a3, w =>
    (gR w a0 11 5).bind fun v27 =>
    (gR w v27 2 8).bind fun v28 =>
    (aN w 0 v28 a1).bind fun v29 =>
    if v29 ≤ a3 then (
      fX11_paintComponent_115 X k63 a0 a1 a2 w
    ) else (
      (gR w a0 11 9).bind fun v31 =>
      (gR w a0 11 7).bind fun v32 =>
      (gR w a0 11 5).bind fun v33 =>
      (gO w v31 9).bind fun o34 =>
      (fX9_forward X w v31 v32 v33 a1 a3 a2).bind fun q35 =>
      fX11_paintComponent_78 X k63 m a0 a1 a2 (a3 + 1) q35
    )
def fX11_paintComponent_63 (X : px_X)  : Nat → Nat → Int32 → Int32 → px_W → Option (px_W)
  | 0, _, _, _, _ => none
  | m + 1, a0, a1, a2, w =>
    (gR w a0 11 5).bind fun v36 =>
    (gR w v36 2 9).bind fun v37 =>
    (aN w 0 v37 a1).bind fun v38 =>
    if v38 ≤ a2 then (
      some w
    ) else (
      fX11_paintComponent_78 X (fX11_paintComponent_63 X  m) FU a0 a1 a2 0 w
    )
def fX11_paintComponent_58 (X : px_X)  (a0 : Nat) (a1 : Int32) (s0 : Int32) (s1 : Int32) (s2 : Nat) (s3 : Nat) (w : px_W) : Option (px_W) :=
  (gO w s3 3).bind fun o40 =>
  (fX3_becomeShrunk X w s3 s2 s1 s0).bind fun q41 =>
  fX11_paintComponent_63 X  FU a0 a1 0 q41
def fX11_paintComponent_34 (X : px_X)  (a0 : Nat) (a1 : Int32) (s0 : Int32) (s1 : Nat) (s2 : Nat) (w : px_W) : Option (px_W) :=
  (gR w a0 11 5).bind fun v42 =>
  (gR w v42 2 7).bind fun v43 =>
  (aN w 0 v43 a1).bind fun v44 =>
  (gR w a0 11 5).bind fun v45 =>
  (gI w v45 2 4).bind fun v46 =>
  if v46 ≤ v44 then (
    fX11_paintComponent_58 X  a0 a1 0 s0 s1 s2 w
  ) else (
    fX11_paintComponent_58 X  a0 a1 1 s0 s1 s2 w
  )
def fX11_paintComponent (X : px_X) (w : px_W) (a0 : Nat) (a1 : Int32) : Option (px_W) :=
  (gR w a0 11 7).bind fun v48 =>
  (gR w a0 11 6).bind fun v49 =>
  (aQ w 6 v49 a1).bind fun v50 =>
  (gR w a0 11 5).bind fun v51 =>
  (gR w v51 2 6).bind fun v52 =>
  (aN w 0 v52 a1).bind fun v53 =>
  (gR w a0 11 5).bind fun v54 =>
  (gI w v54 2 3).bind fun v55 =>
  if v55 ≤ v53 then (
    fX11_paintComponent_34 X  a0 a1 0 v50 v48 w
  ) else (
    fX11_paintComponent_34 X  a0 a1 1 v50 v48 w
  )
def fX11_paintFrom_217 (X : px_X)  (a0 : Nat) (w : px_W) : Option (Int32 × px_W) :=
  (gO w a0 11).bind fun o29 =>
  (fX11_takeDraft X w a0).bind fun q30 =>
  some (1, q30)
def fX11_paintFrom_188 (X : px_X)  : Nat → Nat → Int32 → Int32 → Int32 → px_W → Option (Int32 × px_W)
  | 0, _, _, _, _, _ => none
  | m + 1, a0, a3, a5, a6, w =>
    if a3 ≤ a6 then (
      fX11_paintFrom_217 X  a0 w
    ) else (
      (gR w a0 11 5).bind fun v32 =>
      (gO w v32 2).bind fun o33 =>
      (fX2_setSteps X w v32 a6 a5).bind fun q34 =>
      (gO q34 a0 11).bind fun o35 =>
      (fX11_paintComponent X q34 a0 a6).bind fun q36 =>
      fX11_paintFrom_188 X  m a0 a3 a5 (a6 + 1) q36
    )
def fX11_paintFrom_139 (X : px_X)  (a0 : Nat) (a1 : Int32) (a2 : Int32) (a3 : Int32) (a5 : Int32) (w : px_W) : Option (Int32 × px_W) :=
  (gR w a0 11 5).bind fun v37 =>
  (pV w v37 2 0 (.int a1)).bind fun w38 =>
  (gR w38 a0 11 5).bind fun v39 =>
  (pV w38 v39 2 1 (.int a2)).bind fun w40 =>
  (gR w40 a0 11 5).bind fun v41 =>
  (pV w40 v41 2 2 (.int a3)).bind fun w42 =>
  (gR w42 a0 11 5).bind fun v43 =>
  (gO w42 v43 2).bind fun o44 =>
  (fX2_settle X w42 v43).bind fun q45 =>
  (gR q45 a0 11 5).bind fun v46 =>
  (gI q45 v46 2 5).bind fun v47 =>
  if v47 ≤ 192 then (
    fX11_paintFrom_188 X  FU a0 a3 a5 0 q45
  ) else (
    some (0, q45)
  )
def fX11_paintFrom_66 (X : px_X)  : Nat → Nat → Int32 → Int32 → Int32 → Int32 → Int32 → Int32 → px_W → Option (Int32 × px_W)
  | 0, _, _, _, _, _, _, _, _ => none
  | m + 1, a0, a1, a2, a3, a4, a5, a6, w =>
    if a3 ≤ a6 then (
      fX11_paintFrom_139 X  a0 a1 a2 a3 a5 w
    ) else (
      (gR w a0 11 6).bind fun v50 =>
      (aQ w 6 v50 a6).bind fun v51 =>
      (gO w v51 3).bind fun o52 =>
      (fX3_isOfSize X w v51 a1 a2).bind fun q53 =>
      if q53.1 = 0 then (
        some (0, q53.2)
      ) else (
        (gR q53.2 a0 11 5).bind fun v55 =>
        (gR q53.2 v55 2 6).bind fun v56 =>
        (sN id q53.2 0 v56 a6 (((a4 >>> ((2 * a6) &&& 31)) &&& 1) + 1)).bind fun w57 =>
        (gR w57 a0 11 5).bind fun v58 =>
        (gR w57 v58 2 7).bind fun v59 =>
        (sN id w57 0 v59 a6 (((a4 >>> (((2 * a6) + 1) &&& 31)) &&& 1) + 1)).bind fun w60 =>
        fX11_paintFrom_66 X  m a0 a1 a2 a3 a4 a5 (a6 + 1) w60
      )
    )
def fX11_paintFrom (X : px_X) (w : px_W) (a0 : Nat) (a1 : Int32) (a2 : Int32) (a3 : Int32) (a4 : Int32) (a5 : Int32) : Option (Int32 × px_W) :=
  if a1 < 1 then (
    some (0, w)
  ) else (
    if 32 < a1 then (
      some (0, w)
    ) else (
      if a2 < 1 then (
        some (0, w)
      ) else (
        if 32 < a2 then (
          some (0, w)
        ) else (
          if a3 < 1 then (
            some (0, w)
          ) else (
            if 4 < a3 then (
              some (0, w)
            ) else (
              if a5 < 1 then (
                some (0, w)
              ) else (
                if 5000 < a5 then (
                  some (0, w)
                ) else (
                  if a4 < 0 then (
                    some (0, w)
                  ) else (
                    if a4 < ((1 : Int32) <<< ((2 * a3) &&& 31)) then (
                      fX11_paintFrom_66 X  FU a0 a1 a2 a3 a4 a5 0 w
                    ) else (
                      some (0, w)
                    )
                  )
                )
              )
            )
          )
        )
      )
    )
  )
def fX11_showComponent_177 (X : px_X)  (a0 : Nat) (a1 : Int32) (a3 : Int32) (w : px_W) : Option (px_W) :=
  (gR w a0 11 4).bind fun v58 =>
  (gR w v58 2 7).bind fun v59 =>
  (aN w 0 v59 a1).bind fun v60 =>
  (gR w a0 11 4).bind fun v61 =>
  (gI w v61 2 4).bind fun v62 =>
  if v62 ≤ v60 then (
    some w
  ) else (
    (gR w a0 11 8).bind fun v64 =>
    (gR w a0 11 7).bind fun v65 =>
    (gO w v64 3).bind fun o66 =>
    (fX3_becomeGrownDown X w v64 v65 a3).bind fun q67 =>
    (gR q67 a0 11 7).bind fun v68 =>
    (gR q67 a0 11 8).bind fun v69 =>
    (gR q67 a0 11 8).bind fun v70 =>
    (gI q67 v70 3 0).bind fun v71 =>
    (gR q67 a0 11 8).bind fun v72 =>
    (gI q67 v72 3 1).bind fun v73 =>
    (gO q67 v68 3).bind fun o74 =>
    (fX3_becomeFirst X q67 v68 v69 v71 v73).bind fun q75 =>
    some q75
  )
def fX11_showComponent_67 (X : px_X)  (a0 : Nat) (a1 : Int32) (a2 : Int32) (a3 : Int32) (w : px_W) : Option (px_W) :=
  (gR w a0 11 7).bind fun v76 =>
  (gR w a0 11 4).bind fun v77 =>
  (gO w v77 2).bind fun o78 =>
  (fX2_samplesAcross X w v77 a1).bind fun q79 =>
  (fX11_up X q79.2 (q79.1 * a2) 8).bind fun q80 =>
  (pV q80.2 v76 3 0 (.int (mmin 32 q80.1))).bind fun w81 =>
  (gR w81 a0 11 7).bind fun v82 =>
  (gR w81 a0 11 4).bind fun v83 =>
  (gO w81 v83 2).bind fun o84 =>
  (fX2_samplesDown X w81 v83 a1).bind fun q85 =>
  (fX11_up X q85.2 (q85.1 * a2) 8).bind fun q86 =>
  (pV q86.2 v82 3 1 (.int (mmin 32 q86.1))).bind fun w87 =>
  (gR w87 a0 11 4).bind fun v88 =>
  (gR w87 v88 2 6).bind fun v89 =>
  (aN w87 0 v89 a1).bind fun v90 =>
  (gR w87 a0 11 4).bind fun v91 =>
  (gI w87 v91 2 3).bind fun v92 =>
  if v92 ≤ v90 then (
    fX11_showComponent_177 X  a0 a1 a3 w87
  ) else (
    (gR w87 a0 11 8).bind fun v94 =>
    (gR w87 a0 11 7).bind fun v95 =>
    (gO w87 v94 3).bind fun o96 =>
    (fX3_becomeGrownAcross X w87 v94 v95 a3).bind fun q97 =>
    (gR q97 a0 11 7).bind fun v98 =>
    (gR q97 a0 11 8).bind fun v99 =>
    (gR q97 a0 11 8).bind fun v100 =>
    (gI q97 v100 3 0).bind fun v101 =>
    (gR q97 a0 11 8).bind fun v102 =>
    (gI q97 v102 3 1).bind fun v103 =>
    (gO q97 v98 3).bind fun o104 =>
    (fX3_becomeFirst X q97 v98 v99 v101 v103).bind fun q105 =>
    fX11_showComponent_177 X  a0 a1 a3 q105
  )
def fX11_showComponent_61 (X : px_X) (k3 : Nat → Int32 → Int32 → Int32 → Int32 → px_W → Option (px_W)) (a0 : Nat) (a1 : Int32) (a2 : Int32) (a3 : Int32) (a4 : Int32) (w : px_W) : Option (px_W) :=
  k3 a0 a1 a2 a3 (a4 + 1) w
def fX11_showComponent_20 (X : px_X) (k3 : Nat → Int32 → Int32 → Int32 → Int32 → px_W → Option (px_W)) : Nat → Nat → Int32 → Int32 → Int32 → Int32 → Int32 → px_W → Option (px_W)
  | 0, _, _, _, _, _, _, _ => none
  | m + 1, a0, a1, a2, a3, a4, a5, w =>
    (gR w a0 11 4).bind fun v106 =>
    (gR w v106 2 8).bind fun v107 =>
    (aN w 0 v107 a1).bind fun v108 =>
    if v108 ≤ a5 then (
      fX11_showComponent_61 X k3 a0 a1 a2 a3 a4 w
    ) else (
      (gR w a0 11 9).bind fun v110 =>
      (gR w a0 11 4).bind fun v111 =>
      (gR w a0 11 7).bind fun v112 =>
      (gO w v110 9).bind fun o113 =>
      (fX9_back X w v110 v111 a1 a5 a4 a2 v112).bind fun q114 =>
      fX11_showComponent_20 X k3 m a0 a1 a2 a3 a4 (a5 + 1) q114
    )
def fX11_showComponent_3 (X : px_X)  : Nat → Nat → Int32 → Int32 → Int32 → Int32 → px_W → Option (px_W)
  | 0, _, _, _, _, _, _ => none
  | m + 1, a0, a1, a2, a3, a4, w =>
    (gR w a0 11 4).bind fun v115 =>
    (gR w v115 2 9).bind fun v116 =>
    (aN w 0 v116 a1).bind fun v117 =>
    if v117 ≤ a4 then (
      fX11_showComponent_67 X  a0 a1 a2 a3 w
    ) else (
      fX11_showComponent_20 X (fX11_showComponent_3 X  m) FU a0 a1 a2 a3 a4 0 w
    )
def fX11_showComponent (X : px_X) (w : px_W) (a0 : Nat) (a1 : Int32) (a2 : Int32) (a3 : Int32) : Option (px_W) :=
  fX11_showComponent_3 X  FU a0 a1 a2 a3 0 w
def fX11_showAt_79 (X : px_X)  : Nat → Nat → Int32 → Int32 → Int32 → Int32 → Int32 → px_W → Option (Int32 × px_W)
  | 0, _, _, _, _, _, _, _ => none
  | m + 1, a0, a1, a2, a3, a4, a5, w =>
    (gR w a0 11 4).bind fun v17 =>
    (gI w v17 2 2).bind fun v18 =>
    if v18 ≤ a5 then (
      some (1, w)
    ) else (
      (gO w a0 11).bind fun o20 =>
      (fX11_showComponent X w a0 a5 a1 a2).bind fun q21 =>
      (gR q21 a0 11 6).bind fun v22 =>
      (aQ q21 6 v22 a5).bind fun v23 =>
      (gR q21 a0 11 7).bind fun v24 =>
      (gO q21 v23 3).bind fun o25 =>
      (fX3_becomeFirst X q21 v23 v24 a3 a4).bind fun q26 =>
      fX11_showAt_79 X  m a0 a1 a2 a3 a4 (a5 + 1) q26
    )
def fX11_showAt_30 (X : px_X)  (a0 : Nat) (a1 : Int32) (a2 : Int32) (w : px_W) : Option (Int32 × px_W) :=
  (gR w a0 11 4).bind fun v27 =>
  (gI w v27 2 0).bind fun v28 =>
  (fX11_up X w (v28 * a1) 8).bind fun q29 =>
  (gR q29.2 a0 11 4).bind fun v30 =>
  (gI q29.2 v30 2 1).bind fun v31 =>
  (fX11_up X q29.2 (v31 * a1) 8).bind fun q32 =>
  if 32 < q29.1 then (
    some (0, q32.2)
  ) else (
    if q32.1 ≤ 32 then (
      fX11_showAt_79 X  FU a0 a1 a2 q29.1 q32.1 0 q32.2
    ) else (
      some (0, q32.2)
    )
  )
def fX11_showAt (X : px_X) (w : px_W) (a0 : Nat) (a1 : Int32) (a2 : Int32) : Option (Int32 × px_W) :=
  (gI w a0 11 3).bind fun v35 =>
  if v35 = 0 then (
    some (0, w)
  ) else (
    if a1 = 1 then (
      fX11_showAt_30 X  a0 a1 a2 w
    ) else (
      if a1 = 2 then (
        fX11_showAt_30 X  a0 a1 a2 w
      ) else (
        if a1 = 4 then (
          fX11_showAt_30 X  a0 a1 a2 w
        ) else (
          if a1 = 8 then (
            fX11_showAt_30 X  a0 a1 a2 w
          ) else (
            some (0, w)
          )
        )
      )
    )
  )
def fX11_turnBy_188 (X : px_X)  (a0 : Nat) (a3 : Int32) (a4 : Int32) (w : px_W) : Option (Int32 × px_W) :=
  (gR w a0 11 5).bind fun v24 =>
  (gR w a0 11 4).bind fun v25 =>
  (gO w v24 2).bind fun o26 =>
  (fX2_becomeReflected X w v24 v25 a3 a4).bind fun q27 =>
  (gO q27 a0 11).bind fun o28 =>
  (fX11_takeDraft X q27 a0).bind fun q29 =>
  some (1, q29)
def fX11_turnBy_179 (X : px_X)  (a0 : Nat) (a3 : Int32) (a4 : Int32) (w : px_W) : Option (Int32 × px_W) :=
  if a3 = 0 then (
    if a4 = 0 then (
      some (1, w)
    ) else (
      fX11_turnBy_188 X  a0 a3 a4 w
    )
  ) else (
    fX11_turnBy_188 X  a0 a3 a4 w
  )
def fX11_turnBy_160 (X : px_X)  (a0 : Nat) (a2 : Int32) (a3 : Int32) (a4 : Int32) (w : px_W) : Option (Int32 × px_W) :=
  if a2 = 0 then (
    fX11_turnBy_179 X  a0 a3 a4 w
  ) else (
    (gR w a0 11 5).bind fun v33 =>
    (gR w a0 11 4).bind fun v34 =>
    (gO w v33 2).bind fun o35 =>
    (fX2_becomeTransposed X w v33 v34).bind fun q36 =>
    (gO q36 a0 11).bind fun o37 =>
    (fX11_takeDraft X q36 a0).bind fun q38 =>
    fX11_turnBy_179 X  a0 a3 a4 q38
  )
def fX11_turnBy_155 (X : px_X)  (a0 : Nat) (a2 : Int32) (a3 : Int32) (a4 : Int32) (s0 : Int32) (w : px_W) : Option (Int32 × px_W) :=
  if s0 = 0 then (
    some (0, w)
  ) else (
    fX11_turnBy_160 X  a0 a2 a3 a4 w
  )
def fX11_turnBy_139 (X : px_X)  (a0 : Nat) (a2 : Int32) (a3 : Int32) (a4 : Int32) (a5 : Int32) (a6 : Int32) (w : px_W) : Option (Int32 × px_W) :=
  if a4 = 0 then (
    fX11_turnBy_160 X  a0 a2 a3 a4 w
  ) else (
    if a2 = 0 then (
      fX11_turnBy_155 X  a0 a2 a3 a4 a6 w
    ) else (
      fX11_turnBy_155 X  a0 a2 a3 a4 a5 w
    )
  )
def fX11_turnBy_136 (X : px_X)  (a0 : Nat) (a2 : Int32) (a3 : Int32) (a4 : Int32) (a5 : Int32) (a6 : Int32) (s0 : Int32) (w : px_W) : Option (Int32 × px_W) :=
  if s0 = 0 then (
    some (0, w)
  ) else (
    fX11_turnBy_139 X  a0 a2 a3 a4 a5 a6 w
  )
def fX11_turnBy_79 (X : px_X)  (a0 : Nat) (a2 : Int32) (a3 : Int32) (s0 : Int32) (w : px_W) : Option (Int32 × px_W) :=
  (gR w a0 11 4).bind fun v43 =>
  (gI w v43 2 0).bind fun v44 =>
  (gR w a0 11 4).bind fun v45 =>
  (gI w v45 2 3).bind fun v46 =>
  (dI v44 (8 * v46)).bind fun v47 =>
  (gR w a0 11 4).bind fun v48 =>
  (gI w v48 2 1).bind fun v49 =>
  (gR w a0 11 4).bind fun v50 =>
  (gI w v50 2 4).bind fun v51 =>
  (dI v49 (8 * v51)).bind fun v52 =>
  if a3 = 0 then (
    fX11_turnBy_139 X  a0 a2 a3 s0 v47 v52 w
  ) else (
    if a2 = 0 then (
      fX11_turnBy_136 X  a0 a2 a3 s0 v47 v52 v47 w
    ) else (
      fX11_turnBy_136 X  a0 a2 a3 s0 v47 v52 v52 w
    )
  )
def fX11_turnBy_74 (X : px_X)  (a0 : Nat) (a2 : Int32) (a3 : Int32) (w : px_W) : Option (Int32 × px_W) :=
  fX11_turnBy_79 X  a0 a2 a3 1 w
def fX11_turnBy_58 (X : px_X)  (a0 : Nat) (a1 : Int32) (a2 : Int32) (s0 : Int32) (w : px_W) : Option (Int32 × px_W) :=
  if a1 = 2 then (
    fX11_turnBy_74 X  a0 a2 s0 w
  ) else (
    if a1 = 4 then (
      fX11_turnBy_74 X  a0 a2 s0 w
    ) else (
      if a1 = 5 then (
        fX11_turnBy_74 X  a0 a2 s0 w
      ) else (
        fX11_turnBy_79 X  a0 a2 s0 0 w
      )
    )
  )
def fX11_turnBy_53 (X : px_X)  (a0 : Nat) (a1 : Int32) (a2 : Int32) (w : px_W) : Option (Int32 × px_W) :=
  fX11_turnBy_58 X  a0 a1 a2 1 w
def fX11_turnBy_37 (X : px_X)  (a0 : Nat) (a1 : Int32) (s0 : Int32) (w : px_W) : Option (Int32 × px_W) :=
  if a1 = 1 then (
    fX11_turnBy_53 X  a0 a1 s0 w
  ) else (
    if a1 = 3 then (
      fX11_turnBy_53 X  a0 a1 s0 w
    ) else (
      if a1 = 4 then (
        fX11_turnBy_53 X  a0 a1 s0 w
      ) else (
        fX11_turnBy_58 X  a0 a1 s0 0 w
      )
    )
  )
def fX11_turnBy_32 (X : px_X)  (a0 : Nat) (a1 : Int32) (w : px_W) : Option (Int32 × px_W) :=
  fX11_turnBy_37 X  a0 a1 1 w
def fX11_turnBy (X : px_X) (w : px_W) (a0 : Nat) (a1 : Int32) : Option (Int32 × px_W) :=
  (gI w a0 11 3).bind fun v61 =>
  if v61 = 0 then (
    some (0, w)
  ) else (
    if a1 < 0 then (
      some (0, w)
    ) else (
      if a1 ≤ 5 then (
        if a1 = 0 then (
          fX11_turnBy_32 X  a0 a1 w
        ) else (
          if a1 = 3 then (
            fX11_turnBy_32 X  a0 a1 w
          ) else (
            if a1 = 5 then (
              fX11_turnBy_32 X  a0 a1 w
            ) else (
              fX11_turnBy_37 X  a0 a1 0 w
            )
          )
        )
      ) else (
        some (0, w)
      )
    )
  )
def fX11_cropTo (X : px_X) (w : px_W) (a0 : Nat) (a1 : Int32) (a2 : Int32) (a3 : Int32) (a4 : Int32) : Option (Int32 × px_W) :=
  (gI w a0 11 3).bind fun v14 =>
  if v14 = 0 then (
    some (0, w)
  ) else (
    if a3 < 1 then (
      some (0, w)
    ) else (
      if a4 < 1 then (
        some (0, w)
      ) else (
        if a1 < 0 then (
          some (0, w)
        ) else (
          if 0 ≤ a2 then (
            (gR w a0 11 4).bind fun v20 =>
            (gO w v20 2).bind fun o21 =>
            (fX2_unitsAcross X w v20).bind fun q22 =>
            (gR q22.2 a0 11 4).bind fun v23 =>
            (gO q22.2 v23 2).bind fun o24 =>
            (fX2_unitsDown X q22.2 v23).bind fun q25 =>
            if q22.1 ≤ a1 then (
              some (0, q25.2)
            ) else (
              if (q22.1 - a1) < a3 then (
                some (0, q25.2)
              ) else (
                if q25.1 ≤ a2 then (
                  some (0, q25.2)
                ) else (
                  if a4 ≤ (q25.1 - a2) then (
                    (gR q25.2 a0 11 5).bind fun v30 =>
                    (gR q25.2 a0 11 4).bind fun v31 =>
                    (gO q25.2 v30 2).bind fun o32 =>
                    (fX2_becomeCropped X q25.2 v30 v31 a1 a2 a3 a4).bind fun q33 =>
                    (gO q33 a0 11).bind fun o34 =>
                    (fX11_takeDraft X q33 a0).bind fun q35 =>
                    some (1, q35)
                  ) else (
                    some (0, q25.2)
                  )
                )
              )
            )
          ) else (
            some (0, w)
          )
        )
      )
    )
  )
def fX11_blockOf (X : px_X) (w : px_W) (a0 : Nat) (a1 : Int32) (a2 : Int32) (a3 : Int32) : Option (Int32 × px_W) :=
  (gI w a0 11 3).bind fun v7 =>
  if v7 = 0 then (
    some ((-1), w)
  ) else (
    if a1 < 0 then (
      some ((-1), w)
    ) else (
      (gR w a0 11 4).bind fun v10 =>
      (gI w v10 2 2).bind fun v11 =>
      if v11 ≤ a1 then (
        some ((-1), w)
      ) else (
        (gR w a0 11 4).bind fun v13 =>
        (gO w v13 2).bind fun o14 =>
        (fX2_block X w v13 a1 a2 a3).bind fun q15 =>
        some (q15.1, q15.2)
      )
    )
  )
def fX11_setCoefficient_43 (X : px_X)  (a0 : Nat) (a4 : Int32) (a5 : Int32) (a6 : Int32) (s0 : Int32) (s1 : Int32) (w : px_W) : Option (Int32 × px_W) :=
  if s1 < s0 then (
    some (0, w)
  ) else (
    if a5 ≤ 1023 then (
      (gR w a0 11 4).bind fun v8 =>
      (gR w v8 2 11).bind fun v9 =>
      (sN id w 0 v9 ((64 * a6) + a4) a5).bind fun w10 =>
      some (1, w10)
    ) else (
      some (0, w)
    )
  )
def fX11_setCoefficient (X : px_X) (w : px_W) (a0 : Nat) (a1 : Int32) (a2 : Int32) (a3 : Int32) (a4 : Int32) (a5 : Int32) : Option (Int32 × px_W) :=
  (gO w a0 11).bind fun o11 =>
  (fX11_blockOf X w a0 a1 a2 a3).bind fun q12 =>
  if q12.1 = ((-1)) then (
    some (0, q12.2)
  ) else (
    if a4 < 0 then (
      some (0, q12.2)
    ) else (
      if 63 < a4 then (
        some (0, q12.2)
      ) else (
        if a4 = 0 then (
          fX11_setCoefficient_43 X  a0 a4 a5 q12.1 ((-1024)) a5 q12.2
        ) else (
          fX11_setCoefficient_43 X  a0 a4 a5 q12.1 ((-1023)) a5 q12.2
        )
      )
    )
  )
def fX11_coefficientAt (X : px_X) (w : px_W) (a0 : Nat) (a1 : Int32) (a2 : Int32) (a3 : Int32) (a4 : Int32) : Option (Int32 × px_W) :=
  (gO w a0 11).bind fun o6 =>
  (fX11_blockOf X w a0 a1 a2 a3).bind fun q7 =>
  if q7.1 = ((-1)) then (
    some (0, q7.2)
  ) else (
    if a4 < 0 then (
      some (0, q7.2)
    ) else (
      if a4 ≤ 63 then (
        (gR q7.2 a0 11 4).bind fun v11 =>
        (gR q7.2 v11 2 11).bind fun v12 =>
        (aN q7.2 0 v12 ((64 * q7.1) + a4)).bind fun v13 =>
        some (v13, q7.2)
      ) else (
        some (0, q7.2)
      )
    )
  )
def fX11_stepAt (X : px_X) (w : px_W) (a0 : Nat) (a1 : Int32) (a2 : Int32) : Option (Int32 × px_W) :=
  (gI w a0 11 3).bind fun v7 =>
  if v7 = 0 then (
    some ((-1), w)
  ) else (
    if a1 < 0 then (
      some ((-1), w)
    ) else (
      (gR w a0 11 4).bind fun v10 =>
      (gI w v10 2 2).bind fun v11 =>
      if v11 ≤ a1 then (
        some ((-1), w)
      ) else (
        if a2 < 0 then (
          some ((-1), w)
        ) else (
          if a2 ≤ 63 then (
            (gR w a0 11 4).bind fun v15 =>
            (gR w v15 2 12).bind fun v16 =>
            (aN w 0 v16 ((64 * a1) + a2)).bind fun v17 =>
            some (v17, w)
          ) else (
            some ((-1), w)
          )
        )
      )
    )
  )
def fX11_aboutComponent (X : px_X) (w : px_W) (a0 : Nat) (a1 : Int32) : Option (Int32 × px_W) :=
  if a1 < 0 then (
    some ((-1), w)
  ) else (
    (gR w a0 11 4).bind fun v18 =>
    (gI w v18 2 2).bind fun v19 =>
    if a1 < (4 * v19) then (
      (dI a1 4).bind fun v21 =>
      (rI a1 4).bind fun v22 =>
      if v22 = 0 then (
        (gR w a0 11 4).bind fun v24 =>
        (gR w v24 2 6).bind fun v25 =>
        (aN w 0 v25 v21).bind fun v26 =>
        some (v26, w)
      ) else
      if v22 = 1 then (
        (gR w a0 11 4).bind fun v28 =>
        (gR w v28 2 7).bind fun v29 =>
        (aN w 0 v29 v21).bind fun v30 =>
        some (v30, w)
      ) else
      if v22 = 2 then (
        (gR w a0 11 4).bind fun v32 =>
        (gR w v32 2 8).bind fun v33 =>
        (aN w 0 v33 v21).bind fun v34 =>
        some (v34, w)
      ) else
      (
        (gR w a0 11 4).bind fun v35 =>
        (gR w v35 2 9).bind fun v36 =>
        (aN w 0 v36 v21).bind fun v37 =>
        some (v37, w)
      )
    ) else (
      some ((-1), w)
    )
  )
