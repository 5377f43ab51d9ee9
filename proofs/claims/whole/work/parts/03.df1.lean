def fX0_init (X : px_X) (w : px_W) (a0 : Nat) : Option (px_W) :=
  (nA w 0 256 (.inl (fun _ => 0))).bind fun q19 =>
  (pV q19.2 a0 0 0 (.ref q19.1)).bind fun w20 =>
  (nA w20 0 256 (.inl (fun _ => 0))).bind fun q21 =>
  (pV q21.2 a0 0 1 (.ref q21.1)).bind fun w22 =>
  (nA w22 0 256 (.inl (fun _ => 0))).bind fun q23 =>
  (pV q23.2 a0 0 2 (.ref q23.1)).bind fun w24 =>
  (nA w24 0 258 (.inl (fun _ => 0))).bind fun q25 =>
  (pV q25.2 a0 0 3 (.ref q25.1)).bind fun w26 =>
  (nA w26 0 256 (.inl (fun _ => 0))).bind fun q27 =>
  (pV q27.2 a0 0 4 (.ref q27.1)).bind fun w28 =>
  (nA w28 0 257 (.inl (fun _ => 0))).bind fun q29 =>
  (pV q29.2 a0 0 6 (.ref q29.1)).bind fun w30 =>
  (nA w30 0 257 (.inl (fun _ => 0))).bind fun q31 =>
  (pV q31.2 a0 0 7 (.ref q31.1)).bind fun w32 =>
  (nA w32 0 257 (.inl (fun _ => 0))).bind fun q33 =>
  (pV q33.2 a0 0 8 (.ref q33.1)).bind fun w34 =>
  (nA w34 0 257 (.inl (fun _ => 0))).bind fun q35 =>
  (pV q35.2 a0 0 9 (.ref q35.1)).bind fun w36 =>
  some w36
def fJ7_fill_53178_5 (X : px_X)  : Nat → Nat → Int32 → Int32 → Int32 → px_W → Option (px_W)
  | 0, _, _, _, _, _ => none
  | m + 1, a0, a1, a2, a3, w =>
    if a3 ≤ a2 then (
      some w
    ) else (
      (sN id w 0 a0 a2 a1).bind fun w4 =>
      fJ7_fill_53178_5 X  m a0 a1 (a2 + 1) a3 w4
    )
def fJ7_fill_53178 (X : px_X) (w : px_W) (a0 : Nat) (a1 : Int32) : Option (px_W) :=
  (aL w 0 a0).bind fun v5 =>
  fJ7_fill_53178_5 X  FU a0 a1 0 v5 w
def fX0_forget (X : px_X) (w : px_W) (a0 : Nat) : Option (px_W) :=
  (gR w a0 0 0).bind fun v3 =>
  (fJ7_fill_53178 X w v3 0).bind fun q4 =>
  some q4
def fX0_addPlace (X : px_X) (w : px_W) (a0 : Nat) (a1 : Int32) (a2 : Int32) : Option (px_W) :=
  (gR w a0 0 6).bind fun v16 =>
  (gI w a0 0 5).bind fun v17 =>
  (sN id w 0 v16 v17 a1).bind fun w18 =>
  (gR w18 a0 0 7).bind fun v19 =>
  (gI w18 a0 0 5).bind fun v20 =>
  (sN id w18 0 v19 v20 a2).bind fun w21 =>
  (gR w21 a0 0 8).bind fun v22 =>
  (gI w21 a0 0 5).bind fun v23 =>
  (gI w21 a0 0 5).bind fun v24 =>
  (sN id w21 0 v22 v23 v24).bind fun w25 =>
  (gR w25 a0 0 9).bind fun v26 =>
  (gI w25 a0 0 5).bind fun v27 =>
  (sN id w25 0 v26 v27 0).bind fun w28 =>
  (gI w28 a0 0 5).bind fun v29 =>
  (pV w28 a0 0 5 (.int (v29 + 1))).bind fun w30 =>
  some w30
def fX0_gatherPlaces_40 (X : px_X)  (a0 : Nat) (w : px_W) : Option (px_W) :=
  (gO w a0 0).bind fun o12 =>
  (fX0_addPlace X w a0 256 1).bind fun q13 =>
  (gI q13 a0 0 5).bind fun v14 =>
  (pV q13 a0 0 5 (.int (v14 - 1))).bind fun w15 =>
  some w15
def fX0_gatherPlaces_34 (X : px_X) (k7 : Nat → Int32 → px_W → Option (px_W)) (a0 : Nat) (a1 : Int32) (w : px_W) : Option (px_W) :=
  k7 a0 (a1 + 1) w
def fX0_gatherPlaces_7 (X : px_X)  : Nat → Nat → Int32 → px_W → Option (px_W)
  | 0, _, _, _ => none
  | m + 1, a0, a1, w =>
    if 256 ≤ a1 then (
      fX0_gatherPlaces_40 X  a0 w
    ) else (
      (gR w a0 0 0).bind fun v17 =>
      (aN w 0 v17 a1).bind fun v18 =>
      if v18 ≤ 0 then (
        fX0_gatherPlaces_34 X (fX0_gatherPlaces_7 X  m) a0 a1 w
      ) else (
        (gR w a0 0 0).bind fun v20 =>
        (aN w 0 v20 a1).bind fun v21 =>
        (gO w a0 0).bind fun o22 =>
        (fX0_addPlace X w a0 a1 v21).bind fun q23 =>
        fX0_gatherPlaces_34 X (fX0_gatherPlaces_7 X  m) a0 a1 q23
      )
    )
def fX0_gatherPlaces (X : px_X) (w : px_W) (a0 : Nat) : Option (px_W) :=
  (pV w a0 0 5 (.int 0)).bind fun w24 =>
  fX0_gatherPlaces_7 X  FU a0 0 w24
def fX0_joinTwoGroups_81 (X : px_X) (k6 : Nat → Int32 → Int32 → Int32 → px_W → Option (px_W)) (a0 : Nat) (a1 : Int32) (a2 : Int32) (a3 : Int32) (w : px_W) : Option (px_W) :=
  k6 a0 a1 a2 (a3 + 1) w
def fX0_joinTwoGroups_79 (X : px_X) (k6 : Nat → Int32 → Int32 → Int32 → px_W → Option (px_W)) (a0 : Nat) (a1 : Int32) (a3 : Int32) (w : px_W) : Option (px_W) :=
  fX0_joinTwoGroups_81 X k6 a0 a1 a3 a3 w
def fX0_joinTwoGroups_50 (X : px_X) (k6 : Nat → Int32 → Int32 → Int32 → px_W → Option (px_W)) (a0 : Nat) (a1 : Int32) (a2 : Int32) (a3 : Int32) (w : px_W) : Option (px_W) :=
  (gR w a0 0 7).bind fun v31 =>
  (aN w 0 v31 a3).bind fun v32 =>
  if v32 ≤ 0 then (
    fX0_joinTwoGroups_81 X k6 a0 a1 a2 a3 w
  ) else (
    if a2 = ((-1)) then (
      fX0_joinTwoGroups_79 X k6 a0 a1 a3 w
    ) else (
      (gR w a0 0 7).bind fun v35 =>
      (aN w 0 v35 a3).bind fun v36 =>
      (gR w a0 0 7).bind fun v37 =>
      (aN w 0 v37 a2).bind fun v38 =>
      if v38 < v36 then (
        fX0_joinTwoGroups_81 X k6 a0 a1 a2 a3 w
      ) else (
        fX0_joinTwoGroups_79 X k6 a0 a1 a3 w
      )
    )
  )
def fX0_joinTwoGroups_43 (X : px_X) (k6 : Nat → Int32 → Int32 → Int32 → px_W → Option (px_W)) (a0 : Nat) (a1 : Int32) (a3 : Int32) (w : px_W) : Option (px_W) :=
  fX0_joinTwoGroups_81 X k6 a0 a3 a1 a3 w
def fX0_joinTwoGroups_162 (X : px_X) (k117 : Nat → Int32 → Int32 → Int32 → px_W → Option (px_W)) (a0 : Nat) (a1 : Int32) (a2 : Int32) (a3 : Int32) (w : px_W) : Option (px_W) :=
  k117 a0 a1 a2 (a3 + 1) w
def fX0_joinTwoGroups_145 (X : px_X) (k117 : Nat → Int32 → Int32 → Int32 → px_W → Option (px_W)) (a0 : Nat) (a1 : Int32) (a2 : Int32) (a3 : Int32) (w : px_W) : Option (px_W) :=
  (gR w a0 0 8).bind fun v40 =>
  (sN id w 0 v40 a3 a1).bind fun w41 =>
  (gR w41 a0 0 9).bind fun v42 =>
  (aN w41 0 v42 a3).bind fun v43 =>
  (sN id w41 0 v42 a3 (v43 + 1)).bind fun w44 =>
  fX0_joinTwoGroups_162 X k117 a0 a1 a2 a3 w44
def fX0_joinTwoGroups_117 (X : px_X)  : Nat → Nat → Int32 → Int32 → Int32 → px_W → Option (px_W)
  | 0, _, _, _, _, _ => none
  | m + 1, a0, a1, a2, a3, w =>
    (gI w a0 0 5).bind fun v45 =>
    if v45 < a3 then (
      some w
    ) else (
      (gR w a0 0 8).bind fun v47 =>
      (aN w 0 v47 a3).bind fun v48 =>
      if v48 = a1 then (
        fX0_joinTwoGroups_145 X (fX0_joinTwoGroups_117 X  m) a0 a1 a2 a3 w
      ) else (
        (gR w a0 0 8).bind fun v50 =>
        (aN w 0 v50 a3).bind fun v51 =>
        if v51 = a2 then (
          fX0_joinTwoGroups_145 X (fX0_joinTwoGroups_117 X  m) a0 a1 a2 a3 w
        ) else (
          fX0_joinTwoGroups_162 X (fX0_joinTwoGroups_117 X  m) a0 a1 a2 a3 w
        )
      )
    )
def fX0_joinTwoGroups_87 (X : px_X)  (a0 : Nat) (a1 : Int32) (a2 : Int32) (w : px_W) : Option (px_W) :=
  if a2 = ((-1)) then (
    some w
  ) else (
    (gR w a0 0 7).bind fun v54 =>
    (aN w 0 v54 a1).bind fun v55 =>
    (gR w a0 0 7).bind fun v56 =>
    (aN w 0 v56 a2).bind fun v57 =>
    (sN id w 0 v54 a1 (v55 + v57)).bind fun w58 =>
    (gR w58 a0 0 7).bind fun v59 =>
    (sN id w58 0 v59 a2 0).bind fun w60 =>
    fX0_joinTwoGroups_117 X  FU a0 a1 a2 0 w60
  )
def fX0_joinTwoGroups_6 (X : px_X)  : Nat → Nat → Int32 → Int32 → Int32 → px_W → Option (px_W)
  | 0, _, _, _, _, _ => none
  | m + 1, a0, a1, a2, a3, w =>
    (gI w a0 0 5).bind fun v61 =>
    if v61 < a3 then (
      fX0_joinTwoGroups_87 X  a0 a1 a2 w
    ) else (
      (gR w a0 0 7).bind fun v63 =>
      (aN w 0 v63 a3).bind fun v64 =>
      if v64 ≤ 0 then (
        fX0_joinTwoGroups_50 X (fX0_joinTwoGroups_6 X  m) a0 a1 a2 a3 w
      ) else (
        if a1 = ((-1)) then (
          fX0_joinTwoGroups_43 X (fX0_joinTwoGroups_6 X  m) a0 a1 a3 w
        ) else (
          (gR w a0 0 7).bind fun v67 =>
          (aN w 0 v67 a3).bind fun v68 =>
          (gR w a0 0 7).bind fun v69 =>
          (aN w 0 v69 a1).bind fun v70 =>
          if v70 < v68 then (
            fX0_joinTwoGroups_50 X (fX0_joinTwoGroups_6 X  m) a0 a1 a2 a3 w
          ) else (
            fX0_joinTwoGroups_43 X (fX0_joinTwoGroups_6 X  m) a0 a1 a3 w
          )
        )
      )
    )
def fX0_joinTwoGroups (X : px_X) (w : px_W) (a0 : Nat) : Option (px_W) :=
  fX0_joinTwoGroups_6 X  FU a0 ((-1)) ((-1)) 0 w
def fX0_countLengths_10 (X : px_X)  : Nat → Nat → Int32 → px_W → Option (px_W)
  | 0, _, _, _ => none
  | m + 1, a0, a1, w =>
    (gI w a0 0 5).bind fun v9 =>
    if v9 < a1 then (
      some w
    ) else (
      (gR w a0 0 3).bind fun v11 =>
      (gR w a0 0 9).bind fun v12 =>
      (aN w 0 v12 a1).bind fun v13 =>
      (aN w 0 v11 v13).bind fun v14 =>
      (sN id w 0 v11 v13 (v14 + 1)).bind fun w15 =>
      fX0_countLengths_10 X  m a0 (a1 + 1) w15
    )
def fX0_countLengths (X : px_X) (w : px_W) (a0 : Nat) : Option (px_W) :=
  (gR w a0 0 3).bind fun v16 =>
  (fJ7_fill_53178 X w v16 0).bind fun q17 =>
  fX0_countLengths_10 X  FU a0 0 q17
def fX0_shortenLengths_119 (X : px_X)  (a0 : Nat) (a1 : Int32) (w : px_W) : Option (px_W) :=
  (gR w a0 0 3).bind fun v22 =>
  (aN w 0 v22 a1).bind fun v23 =>
  (sN id w 0 v22 a1 (v23 - 1)).bind fun w24 =>
  some w24
def fX0_shortenLengths_100 (X : px_X)  : Nat → Nat → Int32 → px_W → Option (px_W)
  | 0, _, _, _ => none
  | m + 1, a0, a1, w =>
    if a1 ≤ 0 then (
      fX0_shortenLengths_119 X  a0 a1 w
    ) else (
      (gR w a0 0 3).bind fun v26 =>
      (aN w 0 v26 a1).bind fun v27 =>
      if v27 = 0 then (
        fX0_shortenLengths_100 X  m a0 (a1 + (-1)) w
      ) else (
        fX0_shortenLengths_119 X  a0 a1 w
      )
    )
def fX0_shortenLengths_97 (X : px_X)  (a0 : Nat) (w : px_W) : Option (px_W) :=
  fX0_shortenLengths_100 X  FU a0 16 w
def fX0_shortenLengths_44 (X : px_X) (k4 : Nat → Int32 → px_W → Option (px_W)) (k10 : Nat → Int32 → px_W → Option (px_W)) (a0 : Nat) (a1 : Int32) (a2 : Int32) (w : px_W) : Option (px_W) :=
  (gR w a0 0 3).bind fun v29 =>
  (aN w 0 v29 a1).bind fun v30 =>
  (sN id w 0 v29 a1 (v30 - 2)).bind fun w31 =>
  (gR w31 a0 0 3).bind fun v32 =>
  (aN w31 0 v32 (a1 - 1)).bind fun v33 =>
  (sN id w31 0 v32 (a1 - 1) (v33 + 1)).bind fun w34 =>
  (gR w34 a0 0 3).bind fun v35 =>
  (aN w34 0 v35 (a2 + 1)).bind fun v36 =>
  (sN id w34 0 v35 (a2 + 1) (v36 + 2)).bind fun w37 =>
  (gR w37 a0 0 3).bind fun v38 =>
  (aN w37 0 v38 a2).bind fun v39 =>
  (sN id w37 0 v38 a2 (v39 - 1)).bind fun w40 =>
  k10 a0 a1 w40
def fX0_shortenLengths_24 (X : px_X) (k4 : Nat → Int32 → px_W → Option (px_W)) (k10 : Nat → Int32 → px_W → Option (px_W)) : Nat → Nat → Int32 → Int32 → px_W → Option (px_W)
  | 0, _, _, _, _ => none
  | m + 1, a0, a1, a2, w =>
    if a2 ≤ 1 then (
      fX0_shortenLengths_44 X k4 k10 a0 a1 a2 w
    ) else (
      (gR w a0 0 3).bind fun v42 =>
      (aN w 0 v42 a2).bind fun v43 =>
      if v43 = 0 then (
        fX0_shortenLengths_24 X k4 k10 m a0 a1 (a2 + (-1)) w
      ) else (
        fX0_shortenLengths_44 X k4 k10 a0 a1 a2 w
      )
    )
def fX0_shortenLengths_91 (X : px_X) (k4 : Nat → Int32 → px_W → Option (px_W)) (a0 : Nat) (a1 : Int32) (w : px_W) : Option (px_W) :=
  k4 a0 (a1 + (-1)) w
def fX0_shortenLengths_10 (X : px_X) (k4 : Nat → Int32 → px_W → Option (px_W)) : Nat → Nat → Int32 → px_W → Option (px_W)
  | 0, _, _, _ => none
  | m + 1, a0, a1, w =>
    (gR w a0 0 3).bind fun v45 =>
    (aN w 0 v45 a1).bind fun v46 =>
    if v46 ≤ 1 then (
      fX0_shortenLengths_91 X k4 a0 a1 w
    ) else (
      fX0_shortenLengths_24 X k4 (fX0_shortenLengths_10 X k4 m) FU a0 a1 (a1 - 2) w
    )
def fX0_shortenLengths_4 (X : px_X)  : Nat → Nat → Int32 → px_W → Option (px_W)
  | 0, _, _, _ => none
  | m + 1, a0, a1, w =>
    if a1 ≤ 16 then (
      fX0_shortenLengths_97 X  a0 w
    ) else (
      fX0_shortenLengths_10 X (fX0_shortenLengths_4 X  m) FU a0 a1 w
    )
def fX0_shortenLengths (X : px_X) (w : px_W) (a0 : Nat) : Option (px_W) :=
  fX0_shortenLengths_4 X  FU a0 256 w
def fX0_putSymbolsInOrder_60 (X : px_X) (k4 : Nat → Int32 → Int32 → px_W → Option (px_W)) (a0 : Nat) (a1 : Int32) (a2 : Int32) (w : px_W) : Option (px_W) :=
  k4 a0 a1 (a2 + 1) w
def fX0_putSymbolsInOrder_54 (X : px_X) (k4 : Nat → Int32 → Int32 → px_W → Option (px_W)) (k21 : Nat → Int32 → Int32 → Int32 → px_W → Option (px_W)) (a0 : Nat) (a1 : Int32) (a2 : Int32) (a3 : Int32) (w : px_W) : Option (px_W) :=
  k21 a0 a1 a2 (a3 + 1) w
def fX0_putSymbolsInOrder_21 (X : px_X) (k4 : Nat → Int32 → Int32 → px_W → Option (px_W)) : Nat → Nat → Int32 → Int32 → Int32 → px_W → Option (px_W)
  | 0, _, _, _, _, _ => none
  | m + 1, a0, a1, a2, a3, w =>
    (gI w a0 0 5).bind fun v9 =>
    if v9 ≤ a3 then (
      fX0_putSymbolsInOrder_60 X k4 a0 a1 a2 w
    ) else (
      (gR w a0 0 9).bind fun v11 =>
      (aN w 0 v11 a3).bind fun v12 =>
      if v12 = a2 then (
        (gR w a0 0 4).bind fun v14 =>
        (gR w a0 0 6).bind fun v15 =>
        (aN w 0 v15 a3).bind fun v16 =>
        (sN id w 0 v14 a1 v16).bind fun w17 =>
        fX0_putSymbolsInOrder_54 X k4 (fX0_putSymbolsInOrder_21 X k4 m) a0 (a1 + 1) a2 a3 w17
      ) else (
        fX0_putSymbolsInOrder_54 X k4 (fX0_putSymbolsInOrder_21 X k4 m) a0 a1 a2 a3 w
      )
    )
def fX0_putSymbolsInOrder_4 (X : px_X)  : Nat → Nat → Int32 → Int32 → px_W → Option (px_W)
  | 0, _, _, _, _ => none
  | m + 1, a0, a1, a2, w =>
    if 256 < a2 then (
      some w
    ) else (
      (gI w a0 0 5).bind fun v19 =>
      if v19 ≤ a1 then (
        some w
      ) else (
        fX0_putSymbolsInOrder_21 X (fX0_putSymbolsInOrder_4 X  m) FU a0 a1 a2 0 w
      )
    )
def fX0_putSymbolsInOrder (X : px_X) (w : px_W) (a0 : Nat) : Option (px_W) :=
  fX0_putSymbolsInOrder_4 X  FU a0 0 1 w
def fX0_giveWords_74 (X : px_X) (k6 : Nat → Int32 → Int32 → Int32 → px_W → Option (px_W)) (a0 : Nat) (a1 : Int32) (a2 : Int32) (a3 : Int32) (w : px_W) : Option (px_W) :=
  k6 a0 a1 a2 (a3 + 1) w
def fX0_giveWords_19 (X : px_X) (k6 : Nat → Int32 → Int32 → Int32 → px_W → Option (px_W)) : Nat → Nat → Int32 → Int32 → Int32 → Int32 → px_W → Option (px_W)
  | 0, _, _, _, _, _, _ => none
  | m + 1, a0, a1, a2, a3, a4, w =>
    (gR w a0 0 3).bind fun v12 =>
    (aN w 0 v12 a3).bind fun v13 =>
    if v13 ≤ a4 then (
      fX0_giveWords_74 X k6 a0 a1 a2 a3 w
    ) else (
      (gI w a0 0 5).bind fun v15 =>
      if v15 ≤ a2 then (
        fX0_giveWords_74 X k6 a0 a1 a2 a3 w
      ) else (
        (gR w a0 0 1).bind fun v17 =>
        (gR w a0 0 4).bind fun v18 =>
        (aN w 0 v18 a2).bind fun v19 =>
        (sN id w 0 v17 v19 a1).bind fun w20 =>
        (gR w20 a0 0 2).bind fun v21 =>
        (gR w20 a0 0 4).bind fun v22 =>
        (aN w20 0 v22 a2).bind fun v23 =>
        (sN id w20 0 v21 v23 a3).bind fun w24 =>
        fX0_giveWords_19 X k6 m a0 (a1 + 1) (a2 + 1) a3 (a4 + 1) w24
      )
    )
def fX0_giveWords_6 (X : px_X)  : Nat → Nat → Int32 → Int32 → Int32 → px_W → Option (px_W)
  | 0, _, _, _, _, _ => none
  | m + 1, a0, a1, a2, a3, w =>
    if 16 < a3 then (
      some w
    ) else (
      fX0_giveWords_19 X (fX0_giveWords_6 X  m) FU a0 (a1 * 2) a2 a3 0 w
    )
def fX0_giveWords (X : px_X) (w : px_W) (a0 : Nat) : Option (px_W) :=
  fX0_giveWords_6 X  FU a0 0 0 1 w
def fX0_settle_24 (X : px_X)  (a0 : Nat) (w : px_W) : Option (px_W) :=
  (gO w a0 0).bind fun o14 =>
  (fX0_countLengths X w a0).bind fun q15 =>
  (gO q15 a0 0).bind fun o16 =>
  (fX0_shortenLengths X q15 a0).bind fun q17 =>
  (gO q17 a0 0).bind fun o18 =>
  (fX0_putSymbolsInOrder X q17 a0).bind fun q19 =>
  (gO q19 a0 0).bind fun o20 =>
  (fX0_giveWords X q19 a0).bind fun q21 =>
  some q21
def fX0_settle_6 (X : px_X)  : Nat → Nat → Int32 → px_W → Option (px_W)
  | 0, _, _, _ => none
  | m + 1, a0, a1, w =>
    (gI w a0 0 5).bind fun v22 =>
    if v22 ≤ a1 then (
      fX0_settle_24 X  a0 w
    ) else (
      (gO w a0 0).bind fun o24 =>
      (fX0_joinTwoGroups X w a0).bind fun q25 =>
      fX0_settle_6 X  m a0 (a1 + 1) q25
    )
def fX0_settle (X : px_X) (w : px_W) (a0 : Nat) : Option (px_W) :=
  (gO w a0 0).bind fun o26 =>
  (fX0_gatherPlaces X w a0).bind fun q27 =>
  fX0_settle_6 X  FU a0 0 q27
def fX1_init (X : px_X) (w : px_W) (a0 : Nat) : Option (px_W) :=
  (nA w 1 16384 (.inl (fun _ => 0))).bind fun q3 =>
  (pV q3.2 a0 1 0 (.ref q3.1)).bind fun w4 =>
  some w4
def fX1_clear (X : px_X) (w : px_W) (a0 : Nat) : Option (px_W) :=
  (pV w a0 1 1 (.int 0)).bind fun w3 =>
  (pZ w3 a0 1 2 0).bind fun w4 =>
  some w4
def fX1_add (X : px_X) (w : px_W) (a0 : Nat) (a1 : Int32) : Option (px_W) :=
  (gI w a0 1 1).bind fun v8 =>
  if v8 < 16384 then (
    (gR w a0 1 0).bind fun v10 =>
    (gI w a0 1 1).bind fun v11 =>
    (sN (vp_nar .byte) w 1 v10 v11 a1.toInt8.toInt32).bind fun w12 =>
    (gI w12 a0 1 1).bind fun v13 =>
    (pV w12 a0 1 1 (.int (v13 + 1))).bind fun w14 =>
    some w14
  ) else (
    (pZ w a0 1 2 1).bind fun w15 =>
    some w15
  )
def fX1_addTwo (X : px_X) (w : px_W) (a0 : Nat) (a1 : Int32) : Option (px_W) :=
  (gO w a0 1).bind fun o5 =>
  (fX1_add X w a0 (a1 >>> (8 &&& 31))).bind fun q6 =>
  (gO q6 a0 1).bind fun o7 =>
  (fX1_add X q6 a0 (a1 &&& 255)).bind fun q8 =>
  some q8
def fX1_at (X : px_X) (w : px_W) (a0 : Nat) (a1 : Int32) : Option (Int32 × px_W) :=
  if a1 < 0 then (
    some ((-1), w)
  ) else (
    (gI w a0 1 1).bind fun v5 =>
    if a1 < v5 then (
      (gR w a0 1 0).bind fun v7 =>
      (aN w 1 v7 a1).bind fun v8 =>
      some (v8 &&& 255, w)
    ) else (
      some ((-1), w)
    )
  )
def fX1_takeAll (X : px_X) (w : px_W) (a0 : Nat) (a1 : Nat) : Option (px_W) :=
  (gR w a1 1 0).bind fun v7 =>
  (gR w a0 1 0).bind fun v8 =>
  (gI w a1 1 1).bind fun v9 =>
  (cpy (fun x => fits .byte (.int x)) w 1 v7 0 v8 0 v9).bind fun w10 =>
  (gI w10 a1 1 1).bind fun v11 =>
  (pV w10 a0 1 1 (.int v11)).bind fun w12 =>
  some w12
def fX2_init (X : px_X) (w : px_W) (a0 : Nat) : Option (px_W) :=
  (pV w a0 2 0 (.int 1)).bind fun w19 =>
  (pV w19 a0 2 1 (.int 1)).bind fun w20 =>
  (pV w20 a0 2 3 (.int 1)).bind fun w21 =>
  (pV w21 a0 2 4 (.int 1)).bind fun w22 =>
  (nA w22 0 4 (.inl (fun _ => 0))).bind fun q23 =>
  (pV q23.2 a0 2 6 (.ref q23.1)).bind fun w24 =>
  (nA w24 0 4 (.inl (fun _ => 0))).bind fun q25 =>
  (pV q25.2 a0 2 7 (.ref q25.1)).bind fun w26 =>
  (nA w26 0 4 (.inl (fun _ => 0))).bind fun q27 =>
  (pV q27.2 a0 2 8 (.ref q27.1)).bind fun w28 =>
  (nA w28 0 4 (.inl (fun _ => 0))).bind fun q29 =>
  (pV q29.2 a0 2 9 (.ref q29.1)).bind fun w30 =>
  (nA w30 0 4 (.inl (fun _ => 0))).bind fun q31 =>
  (pV q31.2 a0 2 10 (.ref q31.1)).bind fun w32 =>
  (nA w32 0 12288 (.inl (fun _ => 0))).bind fun q33 =>
  (pV q33.2 a0 2 11 (.ref q33.1)).bind fun w34 =>
  (nA w34 0 256 (.inl (fun _ => 0))).bind fun q35 =>
  (pV q35.2 a0 2 12 (.ref q35.1)).bind fun w36 =>
  some w36
def fX11_up (X : px_X) (w : px_W) (a0 : Int32) (a1 : Int32) : Option (Int32 × px_W) :=
  if 1 ≤ a1 then (
    (dI ((a0 + a1) - 1) a1).bind fun v3 =>
    some (v3, w)
  ) else (
    some (0, w)
  )
def fX2_unitsAcross (X : px_X) (w : px_W) (a0 : Nat) : Option (Int32 × px_W) :=
  (gI w a0 2 0).bind fun v4 =>
  (gI w a0 2 3).bind fun v5 =>
  (fX11_up X w v4 (8 * v5)).bind fun q6 =>
  some (q6.1, q6.2)
def fX2_unitsDown (X : px_X) (w : px_W) (a0 : Nat) : Option (Int32 × px_W) :=
  (gI w a0 2 1).bind fun v4 =>
  (gI w a0 2 4).bind fun v5 =>
  (fX11_up X w v4 (8 * v5)).bind fun q6 =>
  some (q6.1, q6.2)
def fX2_settle_67 (X : px_X)  : Nat → Nat → Int32 → px_W → Option (px_W)
  | 0, _, _, _ => none
  | m + 1, a0, a1, w =>
    (gI w a0 2 2).bind fun v35 =>
    if v35 ≤ a1 then (
      some w
    ) else (
      (gR w a0 2 8).bind fun v37 =>
      (gR w a0 2 6).bind fun v38 =>
      (aN w 0 v38 a1).bind fun v39 =>
      (gO w a0 2).bind fun o40 =>
      (fX2_unitsAcross X w a0).bind fun q41 =>
      (sN id q41.2 0 v37 a1 (v39 * q41.1)).bind fun w42 =>
      (gR w42 a0 2 9).bind fun v43 =>
      (gR w42 a0 2 7).bind fun v44 =>
      (aN w42 0 v44 a1).bind fun v45 =>
      (gO w42 a0 2).bind fun o46 =>
      (fX2_unitsDown X w42 a0).bind fun q47 =>
      (sN id q47.2 0 v43 a1 (v45 * q47.1)).bind fun w48 =>
      (gR w48 a0 2 10).bind fun v49 =>
      (gI w48 a0 2 5).bind fun v50 =>
      (sN id w48 0 v49 a1 v50).bind fun w51 =>
      (gI w51 a0 2 5).bind fun v52 =>
      (gR w51 a0 2 8).bind fun v53 =>
      (aN w51 0 v53 a1).bind fun v54 =>
      (gR w51 a0 2 9).bind fun v55 =>
      (aN w51 0 v55 a1).bind fun v56 =>
      (pV w51 a0 2 5 (.int (v52 + (v54 * v56)))).bind fun w57 =>
      fX2_settle_67 X  m a0 (a1 + 1) w57
    )
def fX2_settle_60 (X : px_X)  (a0 : Nat) (w : px_W) : Option (px_W) :=
  (pV w a0 2 5 (.int 0)).bind fun w58 =>
  fX2_settle_67 X  FU a0 0 w58
def fX2_settle_12 (X : px_X)  : Nat → Nat → Int32 → px_W → Option (px_W)
  | 0, _, _, _ => none
  | m + 1, a0, a1, w =>
    (gI w a0 2 2).bind fun v59 =>
    if v59 ≤ a1 then (
      fX2_settle_60 X  a0 w
    ) else (
      (gI w a0 2 3).bind fun v61 =>
      (gR w a0 2 6).bind fun v62 =>
      (aN w 0 v62 a1).bind fun v63 =>
      (pV w a0 2 3 (.int (mmax v61 v63))).bind fun w64 =>
      (gI w64 a0 2 4).bind fun v65 =>
      (gR w64 a0 2 7).bind fun v66 =>
      (aN w64 0 v66 a1).bind fun v67 =>
      (pV w64 a0 2 4 (.int (mmax v65 v67))).bind fun w68 =>
      fX2_settle_12 X  m a0 (a1 + 1) w68
    )
def fX2_settle (X : px_X) (w : px_W) (a0 : Nat) : Option (px_W) :=
  (pV w a0 2 3 (.int 1)).bind fun w69 =>
  (pV w69 a0 2 4 (.int 1)).bind fun w70 =>
  fX2_settle_12 X  FU a0 0 w70
def fX2_samplesAcross (X : px_X) (w : px_W) (a0 : Nat) (a1 : Int32) : Option (Int32 × px_W) :=
  (gI w a0 2 0).bind fun v6 =>
  (gR w a0 2 6).bind fun v7 =>
  (aN w 0 v7 a1).bind fun v8 =>
  (gI w a0 2 3).bind fun v9 =>
  (fX11_up X w (v6 * v8) v9).bind fun q10 =>
  some (q10.1, q10.2)
def fX2_samplesDown (X : px_X) (w : px_W) (a0 : Nat) (a1 : Int32) : Option (Int32 × px_W) :=
  (gI w a0 2 1).bind fun v6 =>
  (gR w a0 2 7).bind fun v7 =>
  (aN w 0 v7 a1).bind fun v8 =>
  (gI w a0 2 4).bind fun v9 =>
  (fX11_up X w (v6 * v8) v9).bind fun q10 =>
  some (q10.1, q10.2)
def fX2_block (X : px_X) (w : px_W) (a0 : Nat) (a1 : Int32) (a2 : Int32) (a3 : Int32) : Option (Int32 × px_W) :=
  if a2 < 0 then (
    some ((-1), w)
  ) else (
    (gR w a0 2 8).bind fun v10 =>
    (aN w 0 v10 a1).bind fun v11 =>
    if v11 ≤ a2 then (
      some ((-1), w)
    ) else (
      if a3 < 0 then (
        some ((-1), w)
      ) else (
        (gR w a0 2 9).bind fun v14 =>
        (aN w 0 v14 a1).bind fun v15 =>
        if a3 < v15 then (
          (gR w a0 2 10).bind fun v17 =>
          (aN w 0 v17 a1).bind fun v18 =>
          (gR w a0 2 8).bind fun v19 =>
          (aN w 0 v19 a1).bind fun v20 =>
          some ((v18 + (a3 * v20)) + a2, w)
        ) else (
          some ((-1), w)
        )
      )
    )
  )
def fX2_countOthersThanZero_30 (X : px_X) (k4 : Nat → Int32 → Int32 → px_W → Option (Int32 × px_W)) (a0 : Nat) (a2 : Int32) (s0 : Int32) (s1 : Int32) (w : px_W) : Option (Int32 × px_W) :=
  k4 a0 (s1 + s0) (a2 + 1) w
def fX2_countOthersThanZero_4 (X : px_X)  : Nat → Nat → Int32 → Int32 → px_W → Option (Int32 × px_W)
  | 0, _, _, _, _ => none
  | m + 1, a0, a1, a2, w =>
    (gI w a0 2 5).bind fun v4 =>
    if (64 * v4) ≤ a2 then (
      some (a1, w)
    ) else (
      (gR w a0 2 11).bind fun v6 =>
      (aN w 0 v6 a2).bind fun v7 =>
      if v7 = 0 then (
        fX2_countOthersThanZero_30 X (fX2_countOthersThanZero_4 X  m) a0 a2 0 a1 w
      ) else (
        fX2_countOthersThanZero_30 X (fX2_countOthersThanZero_4 X  m) a0 a2 1 a1 w
      )
    )
def fX2_countOthersThanZero (X : px_X) (w : px_W) (a0 : Nat) : Option (Int32 × px_W) :=
  fX2_countOthersThanZero_4 X  FU a0 0 0 w
def fX2_sumOfAmounts_4 (X : px_X)  : Nat → Nat → Int32 → Int32 → px_W → Option (Int32 × px_W)
  | 0, _, _, _, _ => none
  | m + 1, a0, a1, a2, w =>
    (gI w a0 2 5).bind fun v4 =>
    if (64 * v4) ≤ a2 then (
      some (a1, w)
    ) else (
      (gR w a0 2 11).bind fun v6 =>
      (aN w 0 v6 a2).bind fun v7 =>
      fX2_sumOfAmounts_4 X  m a0 (a1 + (mabs v7)) (a2 + 1) w
    )
def fX2_sumOfAmounts (X : px_X) (w : px_W) (a0 : Nat) : Option (Int32 × px_W) :=
  fX2_sumOfAmounts_4 X  FU a0 0 0 w
def fX2_setSteps_28 (X : px_X)  : Nat → Nat → Int32 → Int32 → Int32 → Int32 → Int32 → px_W → Option (px_W)
  | 0, _, _, _, _, _, _, _ => none
  | m + 1, a0, a1, a2, a3, a4, a5, w =>
    if 64 ≤ a5 then (
      some w
    ) else (
      (aX X (X.2.2.2.2.2 4) a5).bind fun v9 =>
      (dI v9 8).bind fun v10 =>
      (aX X (X.2.2.2.2.2 4) a5).bind fun v11 =>
      (rI v11 8).bind fun v12 =>
      (dI (((a3 + (a4 * (v10 + v12))) * a2) + 50) 100).bind fun v13 =>
      (gR w a0 2 12).bind fun v14 =>
      (sN id w 0 v14 ((64 * a1) + a5) (mmax 1 (mmin 255 v13))).bind fun w15 =>
      fX2_setSteps_28 X  m a0 a1 a2 a3 a4 (a5 + 1) w15
    )
def fX2_setSteps_23 (X : px_X)  (a0 : Nat) (a1 : Int32) (a2 : Int32) (a3 : Int32) (s0 : Int32) (w : px_W) : Option (px_W) :=
  fX2_setSteps_28 X  FU a0 a1 a2 a3 s0 0 w
def fX2_setSteps_11 (X : px_X)  (a0 : Nat) (a1 : Int32) (a2 : Int32) (s0 : Int32) (w : px_W) : Option (px_W) :=
  if a1 = 0 then (
    fX2_setSteps_23 X  a0 a1 a2 s0 6 w
  ) else (
    fX2_setSteps_23 X  a0 a1 a2 s0 10 w
  )
def fX2_setSteps (X : px_X) (w : px_W) (a0 : Nat) (a1 : Int32) (a2 : Int32) : Option (px_W) :=
  if a1 = 0 then (
    fX2_setSteps_11 X  a0 a1 a2 16 w
  ) else (
    fX2_setSteps_11 X  a0 a1 a2 17 w
  )
def fX2_becomeTransposed_232 (X : px_X) (k110 : Nat → Nat → Int32 → px_W → Option (px_W)) (a0 : Nat) (a1 : Nat) (a2 : Int32) (w : px_W) : Option (px_W) :=
  k110 a0 a1 (a2 + 1) w
def fX2_becomeTransposed_226 (X : px_X) (k110 : Nat → Nat → Int32 → px_W → Option (px_W)) (k120 : Nat → Nat → Int32 → Int32 → px_W → Option (px_W)) (a0 : Nat) (a1 : Nat) (a2 : Int32) (a3 : Int32) (w : px_W) : Option (px_W) :=
  k120 a0 a1 a2 (a3 + 1) w
def fX2_becomeTransposed_189 (X : px_X) (k110 : Nat → Nat → Int32 → px_W → Option (px_W)) (k120 : Nat → Nat → Int32 → Int32 → px_W → Option (px_W)) : Nat → Nat → Nat → Int32 → Int32 → Int32 → Int32 → Int32 → px_W → Option (px_W)
  | 0, _, _, _, _, _, _, _, _ => none
  | m + 1, a0, a1, a2, a3, a4, a5, a6, w =>
    if 64 ≤ a6 then (
      fX2_becomeTransposed_226 X k110 k120 a0 a1 a2 a3 w
    ) else (
      (gR w a0 2 11).bind fun v46 =>
      (gR w a1 2 11).bind fun v47 =>
      (aX X (X.2.2.2.2.2 5) a6).bind fun v48 =>
      (aN w 0 v47 (a4 + v48)).bind fun v49 =>
      (sN id w 0 v46 (a5 + a6) v49).bind fun w50 =>
      fX2_becomeTransposed_189 X k110 k120 m a0 a1 a2 a3 a4 a5 (a6 + 1) w50
    )
def fX2_becomeTransposed_120 (X : px_X) (k110 : Nat → Nat → Int32 → px_W → Option (px_W)) : Nat → Nat → Nat → Int32 → Int32 → px_W → Option (px_W)
  | 0, _, _, _, _, _ => none
  | m + 1, a0, a1, a2, a3, w =>
    (gR w a0 2 8).bind fun v51 =>
    (aN w 0 v51 a2).bind fun v52 =>
    (gR w a0 2 9).bind fun v53 =>
    (aN w 0 v53 a2).bind fun v54 =>
    if (v52 * v54) ≤ a3 then (
      fX2_becomeTransposed_232 X k110 a0 a1 a2 w
    ) else (
      (gR w a1 2 10).bind fun v56 =>
      (aN w 0 v56 a2).bind fun v57 =>
      (gR w a0 2 8).bind fun v58 =>
      (aN w 0 v58 a2).bind fun v59 =>
      (rI a3 v59).bind fun v60 =>
      (gR w a1 2 8).bind fun v61 =>
      (aN w 0 v61 a2).bind fun v62 =>
      (gR w a0 2 8).bind fun v63 =>
      (aN w 0 v63 a2).bind fun v64 =>
      (dI a3 v64).bind fun v65 =>
      (gR w a0 2 10).bind fun v66 =>
      (aN w 0 v66 a2).bind fun v67 =>
      fX2_becomeTransposed_189 X k110 (fX2_becomeTransposed_120 X k110 m) FU a0 a1 a2 a3 (64 * ((v57 + (v60 * v62)) + v65)) (64 * (v67 + a3)) 0 w
    )
def fX2_becomeTransposed_110 (X : px_X)  : Nat → Nat → Nat → Int32 → px_W → Option (px_W)
  | 0, _, _, _, _ => none
  | m + 1, a0, a1, a2, w =>
    (gI w a0 2 2).bind fun v68 =>
    if v68 ≤ a2 then (
      some w
    ) else (
      fX2_becomeTransposed_120 X (fX2_becomeTransposed_110 X  m) FU a0 a1 a2 0 w
    )
def fX2_becomeTransposed_104 (X : px_X)  (a0 : Nat) (a1 : Nat) (w : px_W) : Option (px_W) :=
  (gO w a0 2).bind fun o70 =>
  (fX2_settle X w a0).bind fun q71 =>
  fX2_becomeTransposed_110 X  FU a0 a1 0 q71
def fX2_becomeTransposed_98 (X : px_X) (k26 : Nat → Nat → Int32 → px_W → Option (px_W)) (a0 : Nat) (a1 : Nat) (a2 : Int32) (w : px_W) : Option (px_W) :=
  k26 a0 a1 (a2 + 1) w
def fX2_becomeTransposed_60 (X : px_X) (k26 : Nat → Nat → Int32 → px_W → Option (px_W)) : Nat → Nat → Nat → Int32 → Int32 → px_W → Option (px_W)
  | 0, _, _, _, _, _ => none
  | m + 1, a0, a1, a2, a3, w =>
    if 64 ≤ a3 then (
      fX2_becomeTransposed_98 X k26 a0 a1 a2 w
    ) else (
      (gR w a0 2 12).bind fun v73 =>
      (gR w a1 2 12).bind fun v74 =>
      (aX X (X.2.2.2.2.2 5) a3).bind fun v75 =>
      (aN w 0 v74 ((64 * a2) + v75)).bind fun v76 =>
      (sN id w 0 v73 ((64 * a2) + a3) v76).bind fun w77 =>
      fX2_becomeTransposed_60 X k26 m a0 a1 a2 (a3 + 1) w77
    )
def fX2_becomeTransposed_26 (X : px_X)  : Nat → Nat → Nat → Int32 → px_W → Option (px_W)
  | 0, _, _, _, _ => none
  | m + 1, a0, a1, a2, w =>
    (gI w a0 2 2).bind fun v78 =>
    if v78 ≤ a2 then (
      fX2_becomeTransposed_104 X  a0 a1 w
    ) else (
      (gR w a0 2 6).bind fun v80 =>
      (gR w a1 2 7).bind fun v81 =>
      (aN w 0 v81 a2).bind fun v82 =>
      (sN id w 0 v80 a2 v82).bind fun w83 =>
      (gR w83 a0 2 7).bind fun v84 =>
      (gR w83 a1 2 6).bind fun v85 =>
      (aN w83 0 v85 a2).bind fun v86 =>
      (sN id w83 0 v84 a2 v86).bind fun w87 =>
      fX2_becomeTransposed_60 X (fX2_becomeTransposed_26 X  m) FU a0 a1 a2 0 w87
    )
def fX2_becomeTransposed (X : px_X) (w : px_W) (a0 : Nat) (a1 : Nat) : Option (px_W) :=
  (gI w a1 2 1).bind fun v88 =>
  (pV w a0 2 0 (.int v88)).bind fun w89 =>
  (gI w89 a1 2 0).bind fun v90 =>
  (pV w89 a0 2 1 (.int v90)).bind fun w91 =>
  (gI w91 a1 2 2).bind fun v92 =>
  (pV w91 a0 2 2 (.int v92)).bind fun w93 =>
  fX2_becomeTransposed_26 X  FU a0 a1 0 w93
def fX2_takeFrame (X : px_X) (w : px_W) (a0 : Nat) (a1 : Nat) : Option (px_W) :=
  (gI w a1 2 2).bind fun v12 =>
  (pV w a0 2 2 (.int v12)).bind fun w13 =>
  (gR w13 a1 2 6).bind fun v14 =>
  (gR w13 a0 2 6).bind fun v15 =>
  (cpy (fun _ => true) w13 0 v14 0 v15 0 4).bind fun w16 =>
  (gR w16 a1 2 7).bind fun v17 =>
  (gR w16 a0 2 7).bind fun v18 =>
  (cpy (fun _ => true) w16 0 v17 0 v18 0 4).bind fun w19 =>
  (gR w19 a1 2 12).bind fun v20 =>
  (gR w19 a0 2 12).bind fun v21 =>
  (cpy (fun _ => true) w19 0 v20 0 v21 0 256).bind fun w22 =>
  some w22
def fX2_takeBlock_116 (X : px_X) (k14 : Nat → Nat → Int32 → Int32 → Int32 → Int32 → Int32 → px_W → Option (px_W)) (a0 : Nat) (a1 : Nat) (a2 : Int32) (a3 : Int32) (a4 : Int32) (a5 : Int32) (a6 : Int32) (s0 : Int32) (s1 : Int32) (s2 : Nat) (w : px_W) : Option (px_W) :=
  (sN id w 0 s2 s1 s0).bind fun w10 =>
  k14 a0 a1 a2 a3 a4 a5 (a6 + 1) w10
def fX2_takeBlock_90 (X : px_X) (k14 : Nat → Nat → Int32 → Int32 → Int32 → Int32 → Int32 → px_W → Option (px_W)) (a0 : Nat) (a1 : Nat) (a2 : Int32) (a3 : Int32) (a4 : Int32) (a5 : Int32) (a6 : Int32) (a7 : Int32) (s0 : Int32) (w : px_W) : Option (px_W) :=
  (gR w a0 2 11).bind fun v11 =>
  if s0 = 0 then (
    fX2_takeBlock_116 X k14 a0 a1 a2 a3 a4 a5 a6 a7 ((64 * a3) + a6) v11 w
  ) else (
    fX2_takeBlock_116 X k14 a0 a1 a2 a3 a4 a5 a6 (-a7) ((64 * a3) + a6) v11 w
  )
def fX2_takeBlock_82 (X : px_X) (k14 : Nat → Nat → Int32 → Int32 → Int32 → Int32 → Int32 → px_W → Option (px_W)) (a0 : Nat) (a1 : Nat) (a2 : Int32) (a3 : Int32) (a4 : Int32) (a5 : Int32) (a6 : Int32) (a7 : Int32) (s0 : Int32) (s1 : Int32) (w : px_W) : Option (px_W) :=
  if s1 = s0 then (
    fX2_takeBlock_90 X k14 a0 a1 a2 a3 a4 a5 a6 a7 0 w
  ) else (
    fX2_takeBlock_90 X k14 a0 a1 a2 a3 a4 a5 a6 a7 1 w
  )
def fX2_takeBlock_81 (X : px_X) (k14 : Nat → Nat → Int32 → Int32 → Int32 → Int32 → Int32 → px_W → Option (px_W)) (a0 : Nat) (a1 : Nat) (a2 : Int32) (a3 : Int32) (a4 : Int32) (a5 : Int32) (a6 : Int32) (a7 : Int32) (s0 : Int32) (w : px_W) : Option (px_W) :=
  fX2_takeBlock_82 X k14 a0 a1 a2 a3 a4 a5 a6 a7 0 s0 w
def fX2_takeBlock_57 (X : px_X) (k14 : Nat → Nat → Int32 → Int32 → Int32 → Int32 → Int32 → px_W → Option (px_W)) (a0 : Nat) (a1 : Nat) (a2 : Int32) (a3 : Int32) (a4 : Int32) (a5 : Int32) (a6 : Int32) (a7 : Int32) (s0 : Int32) (w : px_W) : Option (px_W) :=
  if a5 = 0 then (
    fX2_takeBlock_81 X k14 a0 a1 a2 a3 a4 a5 a6 a7 s0 w
  ) else (
    (aX X (X.2.2.2.2.2 4) a6).bind fun v15 =>
    (dI v15 8).bind fun v16 =>
    (rI v16 2).bind fun v17 =>
    if v17 = 1 then (
      fX2_takeBlock_82 X k14 a0 a1 a2 a3 a4 a5 a6 a7 1 s0 w
    ) else (
      fX2_takeBlock_81 X k14 a0 a1 a2 a3 a4 a5 a6 a7 s0 w
    )
  )
def fX2_takeBlock_56 (X : px_X) (k14 : Nat → Nat → Int32 → Int32 → Int32 → Int32 → Int32 → px_W → Option (px_W)) (a0 : Nat) (a1 : Nat) (a2 : Int32) (a3 : Int32) (a4 : Int32) (a5 : Int32) (a6 : Int32) (a7 : Int32) (w : px_W) : Option (px_W) :=
  fX2_takeBlock_57 X k14 a0 a1 a2 a3 a4 a5 a6 a7 0 w
def fX2_takeBlock_14 (X : px_X)  : Nat → Nat → Nat → Int32 → Int32 → Int32 → Int32 → Int32 → px_W → Option (px_W)
  | 0, _, _, _, _, _, _, _, _ => none
  | m + 1, a0, a1, a2, a3, a4, a5, a6, w =>
    if 64 ≤ a6 then (
      some w
    ) else (
      (gR w a1 2 11).bind fun v20 =>
      (aN w 0 v20 ((64 * a2) + a6)).bind fun v21 =>
      if a4 = 0 then (
        fX2_takeBlock_56 X (fX2_takeBlock_14 X  m) a0 a1 a2 a3 a4 a5 a6 v21 w
      ) else (
        (aX X (X.2.2.2.2.2 4) a6).bind fun v23 =>
        (rI v23 2).bind fun v24 =>
        if v24 = 1 then (
          fX2_takeBlock_57 X (fX2_takeBlock_14 X  m) a0 a1 a2 a3 a4 a5 a6 v21 1 w
        ) else (
          fX2_takeBlock_56 X (fX2_takeBlock_14 X  m) a0 a1 a2 a3 a4 a5 a6 v21 w
        )
      )
    )
def fX2_takeBlock (X : px_X) (w : px_W) (a0 : Nat) (a1 : Nat) (a2 : Int32) (a3 : Int32) (a4 : Int32) (a5 : Int32) : Option (px_W) :=
  if a2 = ((-1)) then (
    some w
  ) else (
    if a3 = ((-1)) then (
      some w
    ) else (
      fX2_takeBlock_14 X  FU a0 a1 a2 a3 a4 a5 0 w
    )
  )
def fX2_becomeReflected_202 (X : px_X) (k82 : Nat → Nat → Int32 → Int32 → Int32 → px_W → Option (px_W)) (a0 : Nat) (a1 : Nat) (a2 : Int32) (a3 : Int32) (a4 : Int32) (w : px_W) : Option (px_W) :=
  k82 a0 a1 a2 a3 (a4 + 1) w
def fX2_becomeReflected_166 (X : px_X) (k82 : Nat → Nat → Int32 → Int32 → Int32 → px_W → Option (px_W)) (k94 : Nat → Nat → Int32 → Int32 → Int32 → Int32 → px_W → Option (px_W)) (k109 : Nat → Nat → Int32 → Int32 → Int32 → Int32 → Int32 → px_W → Option (px_W)) (a0 : Nat) (a1 : Nat) (a2 : Int32) (a3 : Int32) (a4 : Int32) (a5 : Int32) (a6 : Int32) (s0 : Int32) (s1 : Int32) (s2 : Int32) (s3 : Nat) (w : px_W) : Option (px_W) :=
  (gO w s3 2).bind fun o32 =>
  (fX2_block X w s3 s2 s1 s0).bind fun q33 =>
  (gO q33.2 a0 2).bind fun o34 =>
  (fX2_block X q33.2 a0 a4 a6 a5).bind fun q35 =>
  (gO q35.2 a0 2).bind fun o36 =>
  (fX2_takeBlock X q35.2 a0 a1 q33.1 q35.1 a2 a3).bind fun q37 =>
  k109 a0 a1 a2 a3 a4 a5 (a6 + 1) q37
def fX2_becomeReflected_145 (X : px_X) (k82 : Nat → Nat → Int32 → Int32 → Int32 → px_W → Option (px_W)) (k94 : Nat → Nat → Int32 → Int32 → Int32 → Int32 → px_W → Option (px_W)) (k109 : Nat → Nat → Int32 → Int32 → Int32 → Int32 → Int32 → px_W → Option (px_W)) (a0 : Nat) (a1 : Nat) (a2 : Int32) (a3 : Int32) (a4 : Int32) (a5 : Int32) (a6 : Int32) (s0 : Int32) (s1 : Int32) (s2 : Nat) (w : px_W) : Option (px_W) :=
  if a3 = 0 then (
    fX2_becomeReflected_166 X k82 k94 k109 a0 a1 a2 a3 a4 a5 a6 a5 s0 s1 s2 w
  ) else (
    (gR w a0 2 9).bind fun v39 =>
    (aN w 0 v39 a4).bind fun v40 =>
    fX2_becomeReflected_166 X k82 k94 k109 a0 a1 a2 a3 a4 a5 a6 ((v40 - 1) - a5) s0 s1 s2 w
  )
def fX2_becomeReflected_196 (X : px_X) (k82 : Nat → Nat → Int32 → Int32 → Int32 → px_W → Option (px_W)) (k94 : Nat → Nat → Int32 → Int32 → Int32 → Int32 → px_W → Option (px_W)) (a0 : Nat) (a1 : Nat) (a2 : Int32) (a3 : Int32) (a4 : Int32) (a5 : Int32) (w : px_W) : Option (px_W) :=
  k94 a0 a1 a2 a3 a4 (a5 + 1) w
def fX2_becomeReflected_109 (X : px_X) (k82 : Nat → Nat → Int32 → Int32 → Int32 → px_W → Option (px_W)) (k94 : Nat → Nat → Int32 → Int32 → Int32 → Int32 → px_W → Option (px_W)) : Nat → Nat → Nat → Int32 → Int32 → Int32 → Int32 → Int32 → px_W → Option (px_W)
  | 0, _, _, _, _, _, _, _, _ => none
  | m + 1, a0, a1, a2, a3, a4, a5, a6, w =>
    (gR w a0 2 8).bind fun v41 =>
    (aN w 0 v41 a4).bind fun v42 =>
    if v42 ≤ a6 then (
      fX2_becomeReflected_196 X k82 k94 a0 a1 a2 a3 a4 a5 w
    ) else (
      if a2 = 0 then (
        fX2_becomeReflected_145 X k82 k94 (fX2_becomeReflected_109 X k82 k94 m) a0 a1 a2 a3 a4 a5 a6 a6 a4 a1 w
      ) else (
        (gR w a0 2 8).bind fun v45 =>
        (aN w 0 v45 a4).bind fun v46 =>
        fX2_becomeReflected_145 X k82 k94 (fX2_becomeReflected_109 X k82 k94 m) a0 a1 a2 a3 a4 a5 a6 ((v46 - 1) - a6) a4 a1 w
      )
    )
def fX2_becomeReflected_94 (X : px_X) (k82 : Nat → Nat → Int32 → Int32 → Int32 → px_W → Option (px_W)) : Nat → Nat → Nat → Int32 → Int32 → Int32 → Int32 → px_W → Option (px_W)
  | 0, _, _, _, _, _, _, _ => none
  | m + 1, a0, a1, a2, a3, a4, a5, w =>
    (gR w a0 2 9).bind fun v47 =>
    (aN w 0 v47 a4).bind fun v48 =>
    if v48 ≤ a5 then (
      fX2_becomeReflected_202 X k82 a0 a1 a2 a3 a4 w
    ) else (
      fX2_becomeReflected_109 X k82 (fX2_becomeReflected_94 X k82 m) FU a0 a1 a2 a3 a4 a5 0 w
    )
def fX2_becomeReflected_82 (X : px_X)  : Nat → Nat → Nat → Int32 → Int32 → Int32 → px_W → Option (px_W)
  | 0, _, _, _, _, _, _ => none
  | m + 1, a0, a1, a2, a3, a4, w =>
    (gI w a0 2 2).bind fun v50 =>
    if v50 ≤ a4 then (
      some w
    ) else (
      fX2_becomeReflected_94 X (fX2_becomeReflected_82 X  m) FU a0 a1 a2 a3 a4 0 w
    )
def fX2_becomeReflected_72 (X : px_X)  (a0 : Nat) (a1 : Nat) (a2 : Int32) (a3 : Int32) (s0 : Int32) (s1 : Nat) (w : px_W) : Option (px_W) :=
  (pV w s1 2 1 (.int s0)).bind fun w52 =>
  (gO w52 a0 2).bind fun o53 =>
  (fX2_settle X w52 a0).bind fun q54 =>
  fX2_becomeReflected_82 X  FU a0 a1 a2 a3 0 q54
def fX2_becomeReflected_37 (X : px_X)  (a0 : Nat) (a1 : Nat) (a2 : Int32) (a3 : Int32) (s0 : Int32) (s1 : Nat) (w : px_W) : Option (px_W) :=
  (pV w s1 2 0 (.int s0)).bind fun w55 =>
  if a3 = 0 then (
    (gI w55 a1 2 1).bind fun v57 =>
    fX2_becomeReflected_72 X  a0 a1 a2 a3 v57 a0 w55
  ) else (
    (gI w55 a1 2 1).bind fun v58 =>
    (gI w55 a1 2 4).bind fun v59 =>
    (dI v58 (8 * v59)).bind fun v60 =>
    (gI w55 a1 2 4).bind fun v61 =>
    fX2_becomeReflected_72 X  a0 a1 a2 a3 (v60 * (8 * v61)) a0 w55
  )
def fX2_becomeReflected (X : px_X) (w : px_W) (a0 : Nat) (a1 : Nat) (a2 : Int32) (a3 : Int32) : Option (px_W) :=
  (gO w a0 2).bind fun o62 =>
  (fX2_takeFrame X w a0 a1).bind fun q63 =>
  if a2 = 0 then (
    (gI q63 a1 2 0).bind fun v65 =>
    fX2_becomeReflected_37 X  a0 a1 a2 a3 v65 a0 q63
  ) else (
    (gI q63 a1 2 0).bind fun v66 =>
    (gI q63 a1 2 3).bind fun v67 =>
    (dI v66 (8 * v67)).bind fun v68 =>
    (gI q63 a1 2 3).bind fun v69 =>
    fX2_becomeReflected_37 X  a0 a1 a2 a3 (v68 * (8 * v69)) a0 q63
  )
def fX2_becomeCropped_176 (X : px_X) (k74 : Nat → Nat → Int32 → Int32 → Int32 → px_W → Option (px_W)) (a0 : Nat) (a1 : Nat) (a2 : Int32) (a3 : Int32) (a6 : Int32) (w : px_W) : Option (px_W) :=
  k74 a0 a1 a2 a3 (a6 + 1) w
def fX2_becomeCropped_170 (X : px_X) (k74 : Nat → Nat → Int32 → Int32 → Int32 → px_W → Option (px_W)) (k86 : Nat → Nat → Int32 → Int32 → Int32 → Int32 → px_W → Option (px_W)) (a0 : Nat) (a1 : Nat) (a2 : Int32) (a3 : Int32) (a6 : Int32) (a7 : Int32) (w : px_W) : Option (px_W) :=
  k86 a0 a1 a2 a3 a6 (a7 + 1) w
def fX2_becomeCropped_101 (X : px_X) (k74 : Nat → Nat → Int32 → Int32 → Int32 → px_W → Option (px_W)) (k86 : Nat → Nat → Int32 → Int32 → Int32 → Int32 → px_W → Option (px_W)) : Nat → Nat → Nat → Int32 → Int32 → Int32 → Int32 → Int32 → px_W → Option (px_W)
  | 0, _, _, _, _, _, _, _, _ => none
  | m + 1, a0, a1, a2, a3, a6, a7, a8, w =>
    (gR w a0 2 8).bind fun v28 =>
    (aN w 0 v28 a6).bind fun v29 =>
    if v29 ≤ a8 then (
      fX2_becomeCropped_170 X k74 k86 a0 a1 a2 a3 a6 a7 w
    ) else (
      (gR w a0 2 6).bind fun v31 =>
      (aN w 0 v31 a6).bind fun v32 =>
      (gR w a0 2 7).bind fun v33 =>
      (aN w 0 v33 a6).bind fun v34 =>
      (gO w a1 2).bind fun o35 =>
      (fX2_block X w a1 a6 ((a2 * v32) + a8) ((a3 * v34) + a7)).bind fun q36 =>
      (gO q36.2 a0 2).bind fun o37 =>
      (fX2_block X q36.2 a0 a6 a8 a7).bind fun q38 =>
      (gO q38.2 a0 2).bind fun o39 =>
      (fX2_takeBlock X q38.2 a0 a1 q36.1 q38.1 0 0).bind fun q40 =>
      fX2_becomeCropped_101 X k74 k86 m a0 a1 a2 a3 a6 a7 (a8 + 1) q40
    )
def fX2_becomeCropped_86 (X : px_X) (k74 : Nat → Nat → Int32 → Int32 → Int32 → px_W → Option (px_W)) : Nat → Nat → Nat → Int32 → Int32 → Int32 → Int32 → px_W → Option (px_W)
  | 0, _, _, _, _, _, _, _ => none
  | m + 1, a0, a1, a2, a3, a6, a7, w =>
    (gR w a0 2 9).bind fun v41 =>
    (aN w 0 v41 a6).bind fun v42 =>
    if v42 ≤ a7 then (
      fX2_becomeCropped_176 X k74 a0 a1 a2 a3 a6 w
    ) else (
      fX2_becomeCropped_101 X k74 (fX2_becomeCropped_86 X k74 m) FU a0 a1 a2 a3 a6 a7 0 w
    )
def fX2_becomeCropped_74 (X : px_X)  : Nat → Nat → Nat → Int32 → Int32 → Int32 → px_W → Option (px_W)
  | 0, _, _, _, _, _, _ => none
  | m + 1, a0, a1, a2, a3, a6, w =>
    (gI w a0 2 2).bind fun v44 =>
    if v44 ≤ a6 then (
      some w
    ) else (
      fX2_becomeCropped_86 X (fX2_becomeCropped_74 X  m) FU a0 a1 a2 a3 a6 0 w
    )
def fX2_becomeCropped (X : px_X) (w : px_W) (a0 : Nat) (a1 : Nat) (a2 : Int32) (a3 : Int32) (a4 : Int32) (a5 : Int32) : Option (px_W) :=
  (gO w a0 2).bind fun o46 =>
  (fX2_takeFrame X w a0 a1).bind fun q47 =>
  (gI q47 a1 2 0).bind fun v48 =>
  (gI q47 a1 2 3).bind fun v49 =>
  (gI q47 a1 2 3).bind fun v50 =>
  (pV q47 a0 2 0 (.int (mmin (v48 - ((a2 * 8) * v49)) ((a4 * 8) * v50)))).bind fun w51 =>
  (gI w51 a1 2 1).bind fun v52 =>
  (gI w51 a1 2 4).bind fun v53 =>
  (gI w51 a1 2 4).bind fun v54 =>
  (pV w51 a0 2 1 (.int (mmin (v52 - ((a3 * 8) * v53)) ((a5 * 8) * v54)))).bind fun w55 =>
  (gO w55 a0 2).bind fun o56 =>
  (fX2_settle X w55 a0).bind fun q57 =>
  fX2_becomeCropped_74 X  FU a0 a1 a2 a3 0 q57
def fX3_init (X : px_X) (w : px_W) (a0 : Nat) : Option (px_W) :=
  (pV w a0 3 0 (.int 1)).bind fun w5 =>
  (pV w5 a0 3 1 (.int 1)).bind fun w6 =>
  (nA w6 0 1024 (.inl (fun _ => 0))).bind fun q7 =>
  (pV q7.2 a0 3 2 (.ref q7.1)).bind fun w8 =>
  some w8
def fX3_isOfSize (X : px_X) (w : px_W) (a0 : Nat) (a1 : Int32) (a2 : Int32) : Option (Int32 × px_W) :=
  (gI w a0 3 0).bind fun v3 =>
  if v3 = a1 then (
    (gI w a0 3 1).bind fun v5 =>
    if v5 = a2 then (
      some (1, w)
    ) else (
      some (0, w)
    )
  ) else (
    some (0, w)
  )
def fX3_setSize (X : px_X) (w : px_W) (a0 : Nat) (a1 : Int32) (a2 : Int32) : Option (px_W) :=
  (pV w a0 3 0 (.int a1)).bind fun w5 =>
  (pV w5 a0 3 1 (.int a2)).bind fun w6 =>
  (gR w6 a0 3 2).bind fun v7 =>
  (fJ7_fill_53178 X w6 v7 0).bind fun q8 =>
  some q8
def fX3_nearest (X : px_X) (w : px_W) (a0 : Nat) (a1 : Int32) (a2 : Int32) : Option (Int32 × px_W) :=
  (gR w a0 3 2).bind fun v5 =>
  (gI w a0 3 1).bind fun v6 =>
  (gI w a0 3 0).bind fun v7 =>
  (aN w 0 v5 ((32 * (mmax 0 (mmin a2 (v6 - 1)))) + (mmax 0 (mmin a1 (v7 - 1))))).bind fun v8 =>
  some (v8, w)
def fX3_becomeFirst (X : px_X) (w : px_W) (a0 : Nat) (a1 : Nat) (a2 : Int32) (a3 : Int32) : Option (px_W) :=
  (pV w a0 3 0 (.int a2)).bind fun w6 =>
  (pV w6 a0 3 1 (.int a3)).bind fun w7 =>
  (gR w7 a1 3 2).bind fun v8 =>
  (gR w7 a0 3 2).bind fun v9 =>
  (cpy (fun _ => true) w7 0 v8 0 v9 0 1024).bind fun w10 =>
  some w10
def fX3_becomeGrownAcross_116 (X : px_X) (k25 : Nat → Nat → Int32 → Int32 → px_W → Option (px_W)) (k36 : Nat → Nat → Int32 → Int32 → Int32 → px_W → Option (px_W)) (a0 : Nat) (a1 : Nat) (a2 : Int32) (a3 : Int32) (a4 : Int32) (s0 : Int32) (s1 : Int32) (s2 : Nat) (w : px_W) : Option (px_W) :=
  (sN id w 0 s2 s1 s0).bind fun w17 =>
  k36 a0 a1 a2 a3 (a4 + 1) w17
def fX3_becomeGrownAcross_73 (X : px_X) (k25 : Nat → Nat → Int32 → Int32 → px_W → Option (px_W)) (k36 : Nat → Nat → Int32 → Int32 → Int32 → px_W → Option (px_W)) (a0 : Nat) (a1 : Nat) (a2 : Int32) (a3 : Int32) (a4 : Int32) (a5 : Int32) (s0 : Int32) (s1 : Int32) (s2 : Nat) (w : px_W) : Option (px_W) :=
  (gO w s2 3).bind fun o18 =>
  (fX3_nearest X w s2 (s1 + s0) a3).bind fun q19 =>
  (gR q19.2 a0 3 2).bind fun v20 =>
  if a2 = 0 then (
    fX3_becomeGrownAcross_116 X k25 k36 a0 a1 a2 a3 a4 a5 ((32 * a3) + a4) v20 q19.2
  ) else (
    (rI a4 2).bind fun v22 =>
    fX3_becomeGrownAcross_116 X k25 k36 a0 a1 a2 a3 a4 (((((3 * a5) + q19.1) + 1) + v22) >>> (2 &&& 31)) ((32 * a3) + a4) v20 q19.2
  )
def fX3_becomeGrownAcross_123 (X : px_X) (k25 : Nat → Nat → Int32 → Int32 → px_W → Option (px_W)) (a0 : Nat) (a1 : Nat) (a2 : Int32) (a3 : Int32) (w : px_W) : Option (px_W) :=
  k25 a0 a1 a2 (a3 + 1) w
def fX3_becomeGrownAcross_36 (X : px_X) (k25 : Nat → Nat → Int32 → Int32 → px_W → Option (px_W)) : Nat → Nat → Nat → Int32 → Int32 → Int32 → px_W → Option (px_W)
  | 0, _, _, _, _, _, _ => none
  | m + 1, a0, a1, a2, a3, a4, w =>
    (gI w a0 3 0).bind fun v23 =>
    if v23 ≤ a4 then (
      fX3_becomeGrownAcross_123 X k25 a0 a1 a2 a3 w
    ) else (
      (dI a4 2).bind fun v25 =>
      (gO w a1 3).bind fun o26 =>
      (fX3_nearest X w a1 v25 a3).bind fun q27 =>
      (dI a4 2).bind fun v28 =>
      (rI a4 2).bind fun v29 =>
      if v29 = 0 then (
        fX3_becomeGrownAcross_73 X k25 (fX3_becomeGrownAcross_36 X k25 m) a0 a1 a2 a3 a4 q27.1 ((-1)) v28 a1 q27.2
      ) else (
        fX3_becomeGrownAcross_73 X k25 (fX3_becomeGrownAcross_36 X k25 m) a0 a1 a2 a3 a4 q27.1 1 v28 a1 q27.2
      )
    )
def fX3_becomeGrownAcross_25 (X : px_X)  : Nat → Nat → Nat → Int32 → Int32 → px_W → Option (px_W)
  | 0, _, _, _, _, _ => none
  | m + 1, a0, a1, a2, a3, w =>
    (gI w a0 3 1).bind fun v31 =>
    if v31 ≤ a3 then (
      some w
    ) else (
      fX3_becomeGrownAcross_36 X (fX3_becomeGrownAcross_25 X  m) FU a0 a1 a2 a3 0 w
    )
def fX3_becomeGrownAcross (X : px_X) (w : px_W) (a0 : Nat) (a1 : Nat) (a2 : Int32) : Option (px_W) :=
  (gI w a1 3 0).bind fun v33 =>
  (pV w a0 3 0 (.int (mmin 32 (2 * v33)))).bind fun w34 =>
  (gI w34 a1 3 1).bind fun v35 =>
  (pV w34 a0 3 1 (.int v35)).bind fun w36 =>
  fX3_becomeGrownAcross_25 X  FU a0 a1 a2 0 w36
def fX3_becomeGrownDown_114 (X : px_X) (k25 : Nat → Nat → Int32 → Int32 → px_W → Option (px_W)) (k36 : Nat → Nat → Int32 → Int32 → Int32 → px_W → Option (px_W)) (a0 : Nat) (a1 : Nat) (a2 : Int32) (a3 : Int32) (a4 : Int32) (s0 : Int32) (s1 : Int32) (s2 : Nat) (w : px_W) : Option (px_W) :=
  (sN id w 0 s2 s1 s0).bind fun w17 =>
  k36 a0 a1 a2 a3 (a4 + 1) w17
def fX3_becomeGrownDown_73 (X : px_X) (k25 : Nat → Nat → Int32 → Int32 → px_W → Option (px_W)) (k36 : Nat → Nat → Int32 → Int32 → Int32 → px_W → Option (px_W)) (a0 : Nat) (a1 : Nat) (a2 : Int32) (a3 : Int32) (a4 : Int32) (a5 : Int32) (s0 : Int32) (s1 : Int32) (s2 : Int32) (s3 : Nat) (w : px_W) : Option (px_W) :=
  (gO w s3 3).bind fun o18 =>
  (fX3_nearest X w s3 s2 (s1 + s0)).bind fun q19 =>
  (gR q19.2 a0 3 2).bind fun v20 =>
  if a2 = 0 then (
    fX3_becomeGrownDown_114 X k25 k36 a0 a1 a2 a3 a4 a5 ((32 * a3) + a4) v20 q19.2
  ) else (
    (rI a3 2).bind fun v22 =>
    fX3_becomeGrownDown_114 X k25 k36 a0 a1 a2 a3 a4 (((((3 * a5) + q19.1) + 1) + v22) >>> (2 &&& 31)) ((32 * a3) + a4) v20 q19.2
  )
def fX3_becomeGrownDown_121 (X : px_X) (k25 : Nat → Nat → Int32 → Int32 → px_W → Option (px_W)) (a0 : Nat) (a1 : Nat) (a2 : Int32) (a3 : Int32) (w : px_W) : Option (px_W) :=
  k25 a0 a1 a2 (a3 + 1) w
def fX3_becomeGrownDown_36 (X : px_X) (k25 : Nat → Nat → Int32 → Int32 → px_W → Option (px_W)) : Nat → Nat → Nat → Int32 → Int32 → Int32 → px_W → Option (px_W)
  | 0, _, _, _, _, _, _ => none
  | m + 1, a0, a1, a2, a3, a4, w =>
    (gI w a0 3 0).bind fun v23 =>
    if v23 ≤ a4 then (
      fX3_becomeGrownDown_121 X k25 a0 a1 a2 a3 w
    ) else (
      (dI a3 2).bind fun v25 =>
      (gO w a1 3).bind fun o26 =>
      (fX3_nearest X w a1 a4 v25).bind fun q27 =>
      (dI a3 2).bind fun v28 =>
      (rI a3 2).bind fun v29 =>
      if v29 = 0 then (
        fX3_becomeGrownDown_73 X k25 (fX3_becomeGrownDown_36 X k25 m) a0 a1 a2 a3 a4 q27.1 ((-1)) v28 a4 a1 q27.2
      ) else (
        fX3_becomeGrownDown_73 X k25 (fX3_becomeGrownDown_36 X k25 m) a0 a1 a2 a3 a4 q27.1 1 v28 a4 a1 q27.2
      )
    )
def fX3_becomeGrownDown_25 (X : px_X)  : Nat → Nat → Nat → Int32 → Int32 → px_W → Option (px_W)
  | 0, _, _, _, _, _ => none
  | m + 1, a0, a1, a2, a3, w =>
    (gI w a0 3 1).bind fun v31 =>
    if v31 ≤ a3 then (
      some w
    ) else (
      fX3_becomeGrownDown_36 X (fX3_becomeGrownDown_25 X  m) FU a0 a1 a2 a3 0 w
    )
def fX3_becomeGrownDown (X : px_X) (w : px_W) (a0 : Nat) (a1 : Nat) (a2 : Int32) : Option (px_W) :=
  (gI w a1 3 0).bind fun v33 =>
  (pV w a0 3 0 (.int v33)).bind fun w34 =>
  (gI w34 a1 3 1).bind fun v35 =>
  (pV w34 a0 3 1 (.int (mmin 32 (2 * v35)))).bind fun w36 =>
  fX3_becomeGrownDown_25 X  FU a0 a1 a2 0 w36
def fX3_shrunkAt_73 (X : px_X)  (a0 : Nat) (a1 : Int32) (a2 : Int32) (a3 : Int32) (a4 : Int32) (w : px_W) : Option (Int32 × px_W) :=
  if a3 = 0 then (
    if a4 = 0 then (
      (gO w a0 3).bind fun o24 =>
      (fX3_nearest X w a0 a1 a2).bind fun q25 =>
      some (q25.1, q25.2)
    ) else (
      (gO w a0 3).bind fun o26 =>
      (fX3_nearest X w a0 a1 (2 * a2)).bind fun q27 =>
      (gO q27.2 a0 3).bind fun o28 =>
      (fX3_nearest X q27.2 a0 a1 ((2 * a2) + 1)).bind fun q29 =>
      (rI a2 2).bind fun v30 =>
      some (((q27.1 + q29.1) + v30) >>> (1 &&& 31), q29.2)
    )
  ) else (
    (gO w a0 3).bind fun o31 =>
    (fX3_nearest X w a0 (2 * a1) a2).bind fun q32 =>
    (gO q32.2 a0 3).bind fun o33 =>
    (fX3_nearest X q32.2 a0 ((2 * a1) + 1) a2).bind fun q34 =>
    (rI a1 2).bind fun v35 =>
    some (((q32.1 + q34.1) + v35) >>> (1 &&& 31), q34.2)
  )
def fX3_shrunkAt (X : px_X) (w : px_W) (a0 : Nat) (a1 : Int32) (a2 : Int32) (a3 : Int32) (a4 : Int32) : Option (Int32 × px_W) :=
  if a3 = 0 then (
    fX3_shrunkAt_73 X  a0 a1 a2 a3 a4 w
  ) else (
    if a4 = 0 then (
      fX3_shrunkAt_73 X  a0 a1 a2 a3 a4 w
    ) else (
      (gO w a0 3).bind fun o38 =>
      (fX3_nearest X w a0 (2 * a1) (2 * a2)).bind fun q39 =>
      (gO q39.2 a0 3).bind fun o40 =>
      (fX3_nearest X q39.2 a0 ((2 * a1) + 1) (2 * a2)).bind fun q41 =>
      (gO q41.2 a0 3).bind fun o42 =>
      (fX3_nearest X q41.2 a0 (2 * a1) ((2 * a2) + 1)).bind fun q43 =>
      (gO q43.2 a0 3).bind fun o44 =>
      (fX3_nearest X q43.2 a0 ((2 * a1) + 1) ((2 * a2) + 1)).bind fun q45 =>
      (rI a1 2).bind fun v46 =>
      some ((((((q39.1 + q41.1) + q43.1) + q45.1) + 1) + v46) >>> (2 &&& 31), q45.2)
    )
  )
def fX3_becomeShrunk_99 (X : px_X) (k49 : Nat → Nat → Int32 → Int32 → Int32 → px_W → Option (px_W)) (a0 : Nat) (a1 : Nat) (a2 : Int32) (a3 : Int32) (a4 : Int32) (w : px_W) : Option (px_W) :=
  k49 a0 a1 a2 a3 (a4 + 1) w
def fX3_becomeShrunk_61 (X : px_X) (k49 : Nat → Nat → Int32 → Int32 → Int32 → px_W → Option (px_W)) : Nat → Nat → Nat → Int32 → Int32 → Int32 → Int32 → px_W → Option (px_W)
  | 0, _, _, _, _, _, _, _ => none
  | m + 1, a0, a1, a2, a3, a4, a5, w =>
    (gI w a0 3 0).bind fun v14 =>
    if v14 ≤ a5 then (
      fX3_becomeShrunk_99 X k49 a0 a1 a2 a3 a4 w
    ) else (
      (gR w a0 3 2).bind fun v16 =>
      (fX3_shrunkAt X w a1 a5 a4 a2 a3).bind fun q17 =>
      (sN id q17.2 0 v16 ((32 * a4) + a5) q17.1).bind fun w18 =>
      fX3_becomeShrunk_61 X k49 m a0 a1 a2 a3 a4 (a5 + 1) w18
    )
def fX3_becomeShrunk_49 (X : px_X)  : Nat → Nat → Nat → Int32 → Int32 → Int32 → px_W → Option (px_W)
  | 0, _, _, _, _, _, _ => none
  | m + 1, a0, a1, a2, a3, a4, w =>
    (gI w a0 3 1).bind fun v19 =>
    if v19 ≤ a4 then (
      some w
    ) else (
      fX3_becomeShrunk_61 X (fX3_becomeShrunk_49 X  m) FU a0 a1 a2 a3 a4 0 w
    )
def fX3_becomeShrunk_43 (X : px_X)  (a0 : Nat) (a1 : Nat) (a2 : Int32) (a3 : Int32) (s0 : Int32) (s1 : Nat) (w : px_W) : Option (px_W) :=
  (pV w s1 3 1 (.int s0)).bind fun w21 =>
  fX3_becomeShrunk_49 X  FU a0 a1 a2 a3 0 w21
def fX3_becomeShrunk_20 (X : px_X)  (a0 : Nat) (a1 : Nat) (a2 : Int32) (a3 : Int32) (s0 : Int32) (s1 : Nat) (w : px_W) : Option (px_W) :=
  (pV w s1 3 0 (.int s0)).bind fun w22 =>
  if a3 = 0 then (
    (gI w22 a1 3 1).bind fun v24 =>
    fX3_becomeShrunk_43 X  a0 a1 a2 a3 v24 a0 w22
  ) else (
    (gI w22 a1 3 1).bind fun v25 =>
    (fX11_up X w22 v25 2).bind fun q26 =>
    fX3_becomeShrunk_43 X  a0 a1 a2 a3 q26.1 a0 q26.2
  )
def fX3_becomeShrunk (X : px_X) (w : px_W) (a0 : Nat) (a1 : Nat) (a2 : Int32) (a3 : Int32) : Option (px_W) :=
  if a2 = 0 then (
    (gI w a1 3 0).bind fun v28 =>
    fX3_becomeShrunk_20 X  a0 a1 a2 a3 v28 a0 w
  ) else (
    (gI w a1 3 0).bind fun v29 =>
    (fX11_up X w v29 2).bind fun q30 =>
    fX3_becomeShrunk_20 X  a0 a1 a2 a3 q30.1 a0 q30.2
  )
def fX5_init (X : px_X) (w : px_W) (a0 : Nat) : Option (px_W) :=
  (nA w 0 4 (.inl (fun _ => 0))).bind fun q16 =>
  (pV q16.2 a0 5 5 (.ref q16.1)).bind fun w17 =>
  (nA w17 0 4 (.inl (fun _ => 0))).bind fun q18 =>
  (pV q18.2 a0 5 6 (.ref q18.1)).bind fun w19 =>
  (nA w19 0 4 (.inl (fun _ => 0))).bind fun q20 =>
  (pV q20.2 a0 5 7 (.ref q20.1)).bind fun w21 =>
  (nA w21 0 4 (.inl (fun _ => 0))).bind fun q22 =>
  (pV q22.2 a0 5 8 (.ref q22.1)).bind fun w23 =>
  (pV w23 a0 5 12 (.int 1)).bind fun w24 =>
  (nA w24 0 10 (.inl (fun _ => 0))).bind fun q25 =>
  (pV q25.2 a0 5 14 (.ref q25.1)).bind fun w26 =>
  (nA w26 0 10 (.inl (fun _ => 0))).bind fun q27 =>
  (pV q27.2 a0 5 15 (.ref q27.1)).bind fun w28 =>
  (nA w28 0 10 (.inl (fun _ => 0))).bind fun q29 =>
  (pV q29.2 a0 5 16 (.ref q29.1)).bind fun w30 =>
  some w30
def fX7_init (X : px_X) (w : px_W) (a0 : Nat) (a1 : Nat) (a2 : Nat) (a3 : Nat) (a4 : Nat) : Option (px_W) :=
  (nA w 0 1024 (.inl (fun _ => 0))).bind fun q11 =>
  (pV q11.2 a0 7 9 (.ref q11.1)).bind fun w12 =>
  (nA w12 0 64 (.inl (fun _ => 0))).bind fun q13 =>
  (pV q13.2 a0 7 11 (.ref q13.1)).bind fun w14 =>
  (nA w14 0 4 (.inl (fun _ => 0))).bind fun q15 =>
  (pV q15.2 a0 7 12 (.ref q15.1)).bind fun w16 =>
  (pV w16 a0 7 2 (.ref a1)).bind fun w17 =>
  (pV w17 a0 7 3 (.ref a2)).bind fun w18 =>
  (pV w18 a0 7 0 (.ref a3)).bind fun w19 =>
  (pV w19 a0 7 1 (.ref a4)).bind fun w20 =>
  some w20
def fX4_init_61 (X : px_X)  (a0 : Nat) (a1 : Nat) (a2 : Nat) (w : px_W) : Option (px_W) :=
  (nO w 7 13 [.null, .null, .null, .null, .int 0, .int 0, .int 0, .int 0, .int 0, .null, .int 0, .null, .null]).bind fun q17 =>
  (gR q17.2 a0 4 3).bind fun v18 =>
  (gR q17.2 a0 4 4).bind fun v19 =>
  (fX7_init X q17.2 q17.1 v18 v19 a1 a2).bind fun q20 =>
  (pV q20 a0 4 5 (.ref q17.1)).bind fun w21 =>
  some w21
def fX4_init_36 (X : px_X)  : Nat → Nat → Nat → Nat → Int32 → px_W → Option (px_W)
  | 0, _, _, _, _, _ => none
  | m + 1, a0, a1, a2, a3, w =>
    if 8 ≤ a3 then (
      fX4_init_61 X  a0 a1 a2 w
    ) else (
      (gR w a0 4 4).bind fun v23 =>
      (nO w 0 10 [.null, .null, .null, .null, .null, .int 0, .null, .null, .null, .null]).bind fun q24 =>
      (fX0_init X q24.2 q24.1).bind fun q25 =>
      (sQ q25 5 0 v23 a3 q24.1).bind fun w26 =>
      fX4_init_36 X  m a0 a1 a2 (a3 + 1) w26
    )
def fX4_init (X : px_X) (w : px_W) (a0 : Nat) (a1 : Nat) (a2 : Nat) : Option (px_W) :=
  (nO w 5 17 [.int 0, .int 0, .int 0, .int 0, .int 0, .null, .null, .null, .null, .int 0, .int 0, .int 0, .int 0, .int 0, .null, .null, .null]).bind fun q27 =>
  (fX5_init X q27.2 q27.1).bind fun q28 =>
  (pV q28 a0 4 3 (.ref q27.1)).bind fun w29 =>
  (nA w29 5 8 (.inr (.inr (.inr (.inr (fun _ => none)))))).bind fun q30 =>
  (pV q30.2 a0 4 4 (.ref q30.1)).bind fun w31 =>
  (pV w31 a0 4 0 (.ref a1)).bind fun w32 =>
  (pV w32 a0 4 1 (.ref a2)).bind fun w33 =>
  fX4_init_36 X  FU a0 a1 a2 0 w33
def fX7_begin (X : px_X) (w : px_W) (a0 : Nat) (a1 : Nat) (a2 : Nat) : Option (px_W) :=
  (pV w a0 7 0 (.ref a1)).bind fun w3 =>
  (pV w3 a0 7 1 (.ref a2)).bind fun w4 =>
  some w4
def fX4_tellMarker (X : px_X) (w : px_W) (a0 : Nat) (a1 : Int32) : Option (px_W) :=
  (gR w a0 4 0).bind fun v7 =>
  (gO w v7 1).bind fun o8 =>
  (fX1_add X w v7 255).bind fun q9 =>
  (gR q9 a0 4 0).bind fun v10 =>
  (gO q9 v10 1).bind fun o11 =>
  (fX1_add X q9 v10 a1).bind fun q12 =>
  some q12
def fX4_begin (X : px_X) (w : px_W) (a0 : Nat) (a1 : Nat) (a2 : Nat) (a3 : Int32) : Option (px_W) :=
  (pV w a0 4 0 (.ref a1)).bind fun w12 =>
  (pV w12 a0 4 1 (.ref a2)).bind fun w13 =>
  (pV w13 a0 4 2 (.int a3)).bind fun w14 =>
  (gR w14 a0 4 5).bind fun v15 =>
  (gO w14 v15 7).bind fun o16 =>
  (fX7_begin X w14 v15 a1 a2).bind fun q17 =>
  (gR q17 a0 4 0).bind fun v18 =>
  (gO q17 v18 1).bind fun o19 =>
  (fX1_clear X q17 v18).bind fun q20 =>
  (gO q20 a0 4).bind fun o21 =>
  (fX4_tellMarker X q20 a0 216).bind fun q22 =>
  some q22
def fX4_tellSegment (X : px_X) (w : px_W) (a0 : Nat) (a1 : Int32) (a2 : Int32) : Option (px_W) :=
  (gO w a0 4).bind fun o6 =>
  (fX4_tellMarker X w a0 a1).bind fun q7 =>
  (gR q7 a0 4 0).bind fun v8 =>
  (gO q7 v8 1).bind fun o9 =>
  (fX1_addTwo X q7 v8 (2 + a2)).bind fun q10 =>
  some q10
def fX4_tellPicture_73 (X : px_X) (k19 : Nat → Int32 → Int32 → px_W → Option (px_W)) (a0 : Nat) (a1 : Int32) (a2 : Int32) (w : px_W) : Option (px_W) :=
  k19 a0 a1 (a2 + 1) w
def fX4_tellPicture_40 (X : px_X) (k19 : Nat → Int32 → Int32 → px_W → Option (px_W)) : Nat → Nat → Int32 → Int32 → Int32 → px_W → Option (px_W)
  | 0, _, _, _, _, _ => none
  | m + 1, a0, a1, a2, a3, w =>
    if 64 ≤ a3 then (
      fX4_tellPicture_73 X k19 a0 a1 a2 w
    ) else (
      (gR w a0 4 0).bind fun v63 =>
      (gR w a0 4 1).bind fun v64 =>
      (gR w v64 2 12).bind fun v65 =>
      (aN w 0 v65 ((64 * a2) + a3)).bind fun v66 =>
      (gO w v63 1).bind fun o67 =>
      (fX1_add X w v63 v66).bind fun q68 =>
      fX4_tellPicture_40 X k19 m a0 a1 a2 (a3 + 1) q68
    )
def fX4_tellPicture_213 (X : px_X)  (a0 : Nat) (w : px_W) : Option (px_W) :=
  (gI w a0 4 2).bind fun v69 =>
  if v69 ≤ 0 then (
    some w
  ) else (
    (gO w a0 4).bind fun o71 =>
    (fX4_tellSegment X w a0 221 2).bind fun q72 =>
    (gR q72 a0 4 0).bind fun v73 =>
    (gI q72 a0 4 2).bind fun v74 =>
    (gO q72 v73 1).bind fun o75 =>
    (fX1_addTwo X q72 v73 v74).bind fun q76 =>
    some q76
  )
def fX4_tellPicture_149 (X : px_X)  : Nat → Nat → Int32 → px_W → Option (px_W)
  | 0, _, _, _ => none
  | m + 1, a0, a2, w =>
    (gR w a0 4 1).bind fun v77 =>
    (gI w v77 2 2).bind fun v78 =>
    if v78 ≤ a2 then (
      fX4_tellPicture_213 X  a0 w
    ) else (
      (gR w a0 4 0).bind fun v80 =>
      (gO w v80 1).bind fun o81 =>
      (fX1_add X w v80 (a2 + 1)).bind fun q82 =>
      (gR q82 a0 4 0).bind fun v83 =>
      (gR q82 a0 4 1).bind fun v84 =>
      (gR q82 v84 2 6).bind fun v85 =>
      (aN q82 0 v85 a2).bind fun v86 =>
      (gR q82 a0 4 1).bind fun v87 =>
      (gR q82 v87 2 7).bind fun v88 =>
      (aN q82 0 v88 a2).bind fun v89 =>
      (gO q82 v83 1).bind fun o90 =>
      (fX1_add X q82 v83 ((16 * v86) + v89)).bind fun q91 =>
      (gR q91 a0 4 0).bind fun v92 =>
      (gO q91 v92 1).bind fun o93 =>
      (fX1_add X q91 v92 a2).bind fun q94 =>
      fX4_tellPicture_149 X  m a0 (a2 + 1) q94
    )
def fX4_tellPicture_79 (X : px_X)  (a0 : Nat) (a1 : Int32) (w : px_W) : Option (px_W) :=
  (gR w a0 4 1).bind fun v95 =>
  (gI w v95 2 2).bind fun v96 =>
  (gO w a0 4).bind fun o97 =>
  (fX4_tellSegment X w a0 a1 (6 + (3 * v96))).bind fun q98 =>
  (gR q98 a0 4 0).bind fun v99 =>
  (gO q98 v99 1).bind fun o100 =>
  (fX1_add X q98 v99 8).bind fun q101 =>
  (gR q101 a0 4 0).bind fun v102 =>
  (gR q101 a0 4 1).bind fun v103 =>
  (gI q101 v103 2 1).bind fun v104 =>
  (gO q101 v102 1).bind fun o105 =>
  (fX1_addTwo X q101 v102 v104).bind fun q106 =>
  (gR q106 a0 4 0).bind fun v107 =>
  (gR q106 a0 4 1).bind fun v108 =>
  (gI q106 v108 2 0).bind fun v109 =>
  (gO q106 v107 1).bind fun o110 =>
  (fX1_addTwo X q106 v107 v109).bind fun q111 =>
  (gR q111 a0 4 0).bind fun v112 =>
  (gR q111 a0 4 1).bind fun v113 =>
  (gI q111 v113 2 2).bind fun v114 =>
  (gO q111 v112 1).bind fun o115 =>
  (fX1_add X q111 v112 v114).bind fun q116 =>
  fX4_tellPicture_149 X  FU a0 0 q116
def fX4_tellPicture_19 (X : px_X)  : Nat → Nat → Int32 → Int32 → px_W → Option (px_W)
  | 0, _, _, _, _ => none
  | m + 1, a0, a1, a2, w =>
    (gR w a0 4 1).bind fun v117 =>
    (gI w v117 2 2).bind fun v118 =>
    if v118 ≤ a2 then (
      fX4_tellPicture_79 X  a0 a1 w
    ) else (
      (gR w a0 4 0).bind fun v120 =>
      (gO w v120 1).bind fun o121 =>
      (fX1_add X w v120 a2).bind fun q122 =>
      fX4_tellPicture_40 X (fX4_tellPicture_19 X  m) FU a0 a1 a2 0 q122
    )
def fX4_tellPicture (X : px_X) (w : px_W) (a0 : Nat) (a1 : Int32) : Option (px_W) :=
  (gR w a0 4 1).bind fun v123 =>
  (gI w v123 2 2).bind fun v124 =>
  (gO w a0 4).bind fun o125 =>
  (fX4_tellSegment X w a0 219 (65 * v124)).bind fun q126 =>
  fX4_tellPicture_19 X  FU a0 a1 0 q126
def fX4_setBand (X : px_X) (w : px_W) (a0 : Nat) (a1 : Int32) (a2 : Int32) (a3 : Int32) (a4 : Int32) : Option (px_W) :=
  (gR w a0 4 3).bind fun v9 =>
  (pV w v9 5 1 (.int a1)).bind fun w10 =>
  (gR w10 a0 4 3).bind fun v11 =>
  (pV w10 v11 5 2 (.int a2)).bind fun w12 =>
  (gR w12 a0 4 3).bind fun v13 =>
  (pV w12 v13 5 3 (.int a3)).bind fun w14 =>
  (gR w14 a0 4 3).bind fun v15 =>
  (pV w14 v15 5 4 (.int a4)).bind fun w16 =>
  some w16
def fX4_canBeTogether_43 (X : px_X)  (a1 : Int32) (w : px_W) : Option (Int32 × px_W) :=
  if 10 < a1 then (
    some (0, w)
  ) else (
    some (1, w)
  )
def fX4_canBeTogether_4 (X : px_X)  : Nat → Nat → Int32 → Int32 → px_W → Option (Int32 × px_W)
  | 0, _, _, _, _ => none
  | m + 1, a0, a1, a2, w =>
    (gR w a0 4 1).bind fun v10 =>
    (gI w v10 2 2).bind fun v11 =>
    if v11 ≤ a2 then (
      fX4_canBeTogether_43 X  a1 w
    ) else (
      (gR w a0 4 1).bind fun v13 =>
      (gR w v13 2 6).bind fun v14 =>
      (aN w 0 v14 a2).bind fun v15 =>
      (gR w a0 4 1).bind fun v16 =>
      (gR w v16 2 7).bind fun v17 =>
      (aN w 0 v17 a2).bind fun v18 =>
      fX4_canBeTogether_4 X  m a0 (a1 + (v15 * v18)) (a2 + 1) w
    )
def fX4_canBeTogether (X : px_X) (w : px_W) (a0 : Nat) : Option (Int32 × px_W) :=
  fX4_canBeTogether_4 X  FU a0 0 0 w
def fX5_addPart (X : px_X) (w : px_W) (a0 : Nat) (a1 : Int32) (a2 : Int32) (a3 : Int32) : Option (px_W) :=
  (gI w a0 5 13).bind fun v13 =>
  if 10 ≤ v13 then (
    some w
  ) else (
    (gR w a0 5 14).bind fun v15 =>
    (gI w a0 5 13).bind fun v16 =>
    (sN id w 0 v15 v16 a1).bind fun w17 =>
    (gR w17 a0 5 15).bind fun v18 =>
    (gI w17 a0 5 13).bind fun v19 =>
    (sN id w17 0 v18 v19 a2).bind fun w20 =>
    (gR w20 a0 5 16).bind fun v21 =>
    (gI w20 a0 5 13).bind fun v22 =>
    (sN id w20 0 v21 v22 a3).bind fun w23 =>
    (gI w23 a0 5 13).bind fun v24 =>
    (pV w23 a0 5 13 (.int (v24 + 1))).bind fun w25 =>
    some w25
  )
def fX5_layOut_145 (X : px_X) (k87 : Nat → Nat → Int32 → px_W → Option (px_W)) (k97 : Nat → Nat → Int32 → Int32 → px_W → Option (px_W)) (a0 : Nat) (a1 : Nat) (a2 : Int32) (a3 : Int32) (w : px_W) : Option (px_W) :=
  k97 a0 a1 a2 (a3 + 1) w
def fX5_layOut_115 (X : px_X) (k87 : Nat → Nat → Int32 → px_W → Option (px_W)) (k97 : Nat → Nat → Int32 → Int32 → px_W → Option (px_W)) : Nat → Nat → Nat → Int32 → Int32 → Int32 → px_W → Option (px_W)
  | 0, _, _, _, _, _, _ => none
  | m + 1, a0, a1, a2, a3, a4, w =>
    (gR w a1 2 6).bind fun v36 =>
    (gR w a0 5 5).bind fun v37 =>
    (aN w 0 v37 a2).bind fun v38 =>
    (aN w 0 v36 v38).bind fun v39 =>
    if v39 ≤ a4 then (
      fX5_layOut_145 X k87 k97 a0 a1 a2 a3 w
    ) else (
      (gO w a0 5).bind fun o41 =>
      (fX5_addPart X w a0 a2 a4 a3).bind fun q42 =>
      fX5_layOut_115 X k87 k97 m a0 a1 a2 a3 (a4 + 1) q42
    )
def fX5_layOut_151 (X : px_X) (k87 : Nat → Nat → Int32 → px_W → Option (px_W)) (a0 : Nat) (a1 : Nat) (a2 : Int32) (w : px_W) : Option (px_W) :=
  k87 a0 a1 (a2 + 1) w
def fX5_layOut_97 (X : px_X) (k87 : Nat → Nat → Int32 → px_W → Option (px_W)) : Nat → Nat → Nat → Int32 → Int32 → px_W → Option (px_W)
  | 0, _, _, _, _, _ => none
  | m + 1, a0, a1, a2, a3, w =>
    (gR w a1 2 7).bind fun v43 =>
    (gR w a0 5 5).bind fun v44 =>
    (aN w 0 v44 a2).bind fun v45 =>
    (aN w 0 v43 v45).bind fun v46 =>
    if v46 ≤ a3 then (
      fX5_layOut_151 X k87 a0 a1 a2 w
    ) else (
      fX5_layOut_115 X k87 (fX5_layOut_97 X k87 m) FU a0 a1 a2 a3 0 w
    )
def fX5_layOut_87 (X : px_X)  : Nat → Nat → Nat → Int32 → px_W → Option (px_W)
  | 0, _, _, _, _ => none
  | m + 1, a0, a1, a2, w =>
    (gI w a0 5 0).bind fun v48 =>
    if v48 ≤ a2 then (
      some w
    ) else (
      fX5_layOut_97 X (fX5_layOut_87 X  m) FU a0 a1 a2 0 w
    )
def fX5_layOut (X : px_X) (w : px_W) (a0 : Nat) (a1 : Nat) : Option (px_W) :=
  (pV w a0 5 13 (.int 0)).bind fun w50 =>
  (gI w50 a0 5 0).bind fun v51 =>
  if v51 = 1 then (
    (gR w50 a0 5 5).bind fun v60 =>
    (aN w50 0 v60 0).bind fun v61 =>
    (gO w50 a1 2).bind fun o62 =>
    (fX2_samplesAcross X w50 a1 v61).bind fun q63 =>
    (fX11_up X q63.2 q63.1 8).bind fun q64 =>
    (pV q64.2 a0 5 12 (.int q64.1)).bind fun w65 =>
    (gI w65 a0 5 12).bind fun v66 =>
    (gR w65 a0 5 5).bind fun v67 =>
    (aN w65 0 v67 0).bind fun v68 =>
    (gO w65 a1 2).bind fun o69 =>
    (fX2_samplesDown X w65 a1 v68).bind fun q70 =>
    (fX11_up X q70.2 q70.1 8).bind fun q71 =>
    (pV q71.2 a0 5 11 (.int (v66 * q71.1))).bind fun w72 =>
    (gO w72 a0 5).bind fun o73 =>
    (fX5_addPart X w72 a0 0 0 0).bind fun q74 =>
    some q74
  ) else (
    (gO w50 a1 2).bind fun o53 =>
    (fX2_unitsAcross X w50 a1).bind fun q54 =>
    (pV q54.2 a0 5 12 (.int q54.1)).bind fun w55 =>
    (gI w55 a0 5 12).bind fun v56 =>
    (gO w55 a1 2).bind fun o57 =>
    (fX2_unitsDown X w55 a1).bind fun q58 =>
    (pV q58.2 a0 5 11 (.int (v56 * q58.1))).bind fun w59 =>
    fX5_layOut_87 X  FU a0 a1 0 w59
  )
def fJ6_numberOfLeadingZeros_0f7a4_73 (X : px_X)  (a0 : Int32) (a1 : Int32) (w : px_W) : Option (Int32 × px_W) :=
  some (a1 - ((a0.toUInt32 >>> ((1 : Int32).toUInt32 &&& Int32.toUInt32 31)).toInt32), w)
def fJ6_numberOfLeadingZeros_0f7a4_61 (X : px_X)  (a0 : Int32) (a1 : Int32) (w : px_W) : Option (Int32 × px_W) :=
  if a0 < 4 then (
    fJ6_numberOfLeadingZeros_0f7a4_73 X  a0 a1 w
  ) else (
    fJ6_numberOfLeadingZeros_0f7a4_73 X  ((a0.toUInt32 >>> ((2 : Int32).toUInt32 &&& Int32.toUInt32 31)).toInt32) (a1 + (-2)) w
  )
def fJ6_numberOfLeadingZeros_0f7a4_48 (X : px_X)  (a0 : Int32) (a1 : Int32) (w : px_W) : Option (Int32 × px_W) :=
  if a0 < 16 then (
    fJ6_numberOfLeadingZeros_0f7a4_61 X  a0 a1 w
  ) else (
    fJ6_numberOfLeadingZeros_0f7a4_61 X  ((a0.toUInt32 >>> ((4 : Int32).toUInt32 &&& Int32.toUInt32 31)).toInt32) (a1 + (-4)) w
  )
def fJ6_numberOfLeadingZeros_0f7a4_33 (X : px_X)  (a0 : Int32) (a1 : Int32) (w : px_W) : Option (Int32 × px_W) :=
  if a0 < 256 then (
    fJ6_numberOfLeadingZeros_0f7a4_48 X  a0 a1 w
  ) else (
    fJ6_numberOfLeadingZeros_0f7a4_48 X  ((a0.toUInt32 >>> ((8 : Int32).toUInt32 &&& Int32.toUInt32 31)).toInt32) (a1 + (-8)) w
  )
def fJ6_numberOfLeadingZeros_0f7a4 (X : px_X) (w : px_W) (a0 : Int32) : Option (Int32 × px_W) :=
  if 0 < a0 then (
    if a0 < 65536 then (
      fJ6_numberOfLeadingZeros_0f7a4_33 X  a0 31 w
    ) else (
      fJ6_numberOfLeadingZeros_0f7a4_33 X  ((a0.toUInt32 >>> ((16 : Int32).toUInt32 &&& Int32.toUInt32 31)).toInt32) (31 + (-16)) w
    )
  ) else (
    if a0 = 0 then (
      some (32, w)
    ) else (
      some (0, w)
    )
  )
def fX11_sizeOf (X : px_X) (w : px_W) (a0 : Int32) : Option (Int32 × px_W) :=
  (fJ6_numberOfLeadingZeros_0f7a4 X w (mabs a0)).bind fun q2 =>
  some (32 - q2.1, q2.2)
def fX7_putBits_90 (X : px_X) (k12 : Nat → Int32 → Int32 → px_W → Option (px_W)) (a0 : Nat) (a1 : Int32) (a3 : Int32) (w : px_W) : Option (px_W) :=
  k12 a0 a1 (a3 + (-1)) w
def fX7_putBits_80 (X : px_X) (k12 : Nat → Int32 → Int32 → px_W → Option (px_W)) (a0 : Nat) (a1 : Int32) (a3 : Int32) (w : px_W) : Option (px_W) :=
  (pV w a0 7 5 (.int 0)).bind fun w17 =>
  (pV w17 a0 7 6 (.int 0)).bind fun w18 =>
  fX7_putBits_90 X k12 a0 a1 a3 w18
def fX7_putBits_12 (X : px_X)  : Nat → Nat → Int32 → Int32 → px_W → Option (px_W)
  | 0, _, _, _, _ => none
  | m + 1, a0, a1, a3, w =>
    if a3 < 0 then (
      some w
    ) else (
      (gI w a0 7 5).bind fun v20 =>
      (pV w a0 7 5 (.int ((2 * v20) + ((a1 >>> (a3 &&& 31)) &&& 1)))).bind fun w21 =>
      (gI w21 a0 7 6).bind fun v22 =>
      (pV w21 a0 7 6 (.int (v22 + 1))).bind fun w23 =>
      (gI w23 a0 7 6).bind fun v24 =>
      if v24 = 8 then (
        (gR w23 a0 7 0).bind fun v26 =>
        (gI w23 a0 7 5).bind fun v27 =>
        (gO w23 v26 1).bind fun o28 =>
        (fX1_add X w23 v26 v27).bind fun q29 =>
        (gI q29 a0 7 5).bind fun v30 =>
        if v30 = 255 then (
          (gR q29 a0 7 0).bind fun v32 =>
          (gO q29 v32 1).bind fun o33 =>
          (fX1_add X q29 v32 0).bind fun q34 =>
          fX7_putBits_80 X (fX7_putBits_12 X  m) a0 a1 a3 q34
        ) else (
          fX7_putBits_80 X (fX7_putBits_12 X  m) a0 a1 a3 q29
        )
      ) else (
        fX7_putBits_90 X (fX7_putBits_12 X  m) a0 a1 a3 w23
      )
    )
def fX7_putBits (X : px_X) (w : px_W) (a0 : Nat) (a1 : Int32) (a2 : Int32) : Option (px_W) :=
  (gI w a0 7 4).bind fun v35 =>
  if v35 = 0 then (
    fX7_putBits_12 X  FU a0 a1 (a2 - 1) w
  ) else (
    some w
  )
def fX7_putWord (X : px_X) (w : px_W) (a0 : Nat) (a1 : Nat) (a2 : Int32) : Option (px_W) :=
  (gI w a0 7 4).bind fun v11 =>
  if v11 = 0 then (
    (gR w a1 0 1).bind fun v13 =>
    (aN w 0 v13 a2).bind fun v14 =>
    (gR w a1 0 2).bind fun v15 =>
    (aN w 0 v15 a2).bind fun v16 =>
    (gO w a0 7).bind fun o17 =>
    (fX7_putBits X w a0 v14 v16).bind fun q18 =>
    some q18
  ) else (
    (gR w a1 0 0).bind fun v19 =>
    (aN w 0 v19 a2).bind fun v20 =>
    (sN id w 0 v19 a2 (v20 + 1)).bind fun w21 =>
    some w21
  )
def fX7_sendRun_63 (X : px_X)  (a0 : Nat) (w : px_W) : Option (px_W) :=
  (pV w a0 7 7 (.int 0)).bind fun w16 =>
  (pV w16 a0 7 8 (.int 0)).bind fun w17 =>
  some w17
def fX7_sendRun_38 (X : px_X)  : Nat → Nat → Int32 → px_W → Option (px_W)
  | 0, _, _, _ => none
  | m + 1, a0, a3, w =>
    (gI w a0 7 8).bind fun v18 =>
    if v18 ≤ a3 then (
      fX7_sendRun_63 X  a0 w
    ) else (
      (gR w a0 7 9).bind fun v20 =>
      (aN w 0 v20 a3).bind fun v21 =>
      (gO w a0 7).bind fun o22 =>
      (fX7_putBits X w a0 v21 1).bind fun q23 =>
      fX7_sendRun_38 X  m a0 (a3 + 1) q23
    )
def fX7_sendRun (X : px_X) (w : px_W) (a0 : Nat) (a1 : Nat) : Option (px_W) :=
  (gI w a0 7 7).bind fun v24 =>
  if v24 = 0 then (
    some w
  ) else (
    (gI w a0 7 7).bind fun v26 =>
    (fX11_sizeOf X w v26).bind fun q27 =>
    (gO q27.2 a0 7).bind fun o28 =>
    (fX7_putWord X q27.2 a0 a1 (16 * (q27.1 - 1))).bind fun q29 =>
    (gI q29 a0 7 7).bind fun v30 =>
    (gO q29 a0 7).bind fun o31 =>
    (fX7_putBits X q29 a0 v30 (q27.1 - 1)).bind fun q32 =>
    fX7_sendRun_38 X  FU a0 0 q32
  )
def fX7_endBits (X : px_X) (w : px_W) (a0 : Nat) : Option (px_W) :=
  (gR w a0 7 3).bind fun v13 =>
  (gR w a0 7 2).bind fun v14 =>
  (gR w v14 5 5).bind fun v15 =>
  (aN w 0 v15 0).bind fun v16 =>
  (aQ w 5 v13 (4 + v16)).bind fun v17 =>
  (gO w a0 7).bind fun o18 =>
  (fX7_sendRun X w a0 v17).bind fun q19 =>
  (gI q19 a0 7 6).bind fun v20 =>
  if v20 ≤ 0 then (
    some q19
  ) else (
    (gI q19 a0 7 6).bind fun v22 =>
    (gI q19 a0 7 6).bind fun v23 =>
    (gO q19 a0 7).bind fun o24 =>
    (fX7_putBits X q19 a0 (((1 : Int32) <<< ((8 - v22) &&& 31)) - 1) (8 - v23)).bind fun q25 =>
    some q25
  )
def fX7_writeRestart_25 (X : px_X)  (a0 : Nat) (w : px_W) : Option (px_W) :=
  (gR w a0 7 12).bind fun v10 =>
  (fJ7_fill_53178 X w v10 0).bind fun q11 =>
  some q11
def fX7_writeRestart (X : px_X) (w : px_W) (a0 : Nat) (a1 : Int32) : Option (px_W) :=
  (gI w a0 7 4).bind fun v12 =>
  if v12 = 0 then (
    (gR w a0 7 0).bind fun v14 =>
    (gO w v14 1).bind fun o15 =>
    (fX1_add X w v14 255).bind fun q16 =>
    (gR q16 a0 7 0).bind fun v17 =>
    (gO q16 v17 1).bind fun o18 =>
    (fX1_add X q16 v17 a1).bind fun q19 =>
    fX7_writeRestart_25 X  a0 q19
  ) else (
    fX7_writeRestart_25 X  a0 w
  )
def fX5_blockAt_53 (X : px_X)  (a0 : Nat) (a1 : Nat) (a2 : Int32) (a3 : Int32) (a4 : Int32) (a5 : Int32) (s0 : Int32) (w : px_W) : Option (Int32 × px_W) :=
  (gI w a0 5 12).bind fun v23 =>
  (rI a2 v23).bind fun v24 =>
  (gR w a0 5 15).bind fun v25 =>
  (aN w 0 v25 a3).bind fun v26 =>
  (gI w a0 5 12).bind fun v27 =>
  (dI a2 v27).bind fun v28 =>
  (gR w a0 5 16).bind fun v29 =>
  (aN w 0 v29 a3).bind fun v30 =>
  (gR w a1 2 10).bind fun v31 =>
  (aN w 0 v31 a4).bind fun v32 =>
  (gR w a1 2 8).bind fun v33 =>
  (aN w 0 v33 a4).bind fun v34 =>
  some ((v32 + (((v28 * s0) + v30) * v34)) + ((v24 * a5) + v26), w)
def fX5_blockAt_32 (X : px_X)  (a0 : Nat) (a1 : Nat) (a2 : Int32) (a3 : Int32) (a4 : Int32) (s0 : Int32) (w : px_W) : Option (Int32 × px_W) :=
  (gI w a0 5 0).bind fun v35 =>
  if v35 = 1 then (
    fX5_blockAt_53 X  a0 a1 a2 a3 a4 s0 1 w
  ) else (
    (gR w a1 2 7).bind fun v37 =>
    (aN w 0 v37 a4).bind fun v38 =>
    fX5_blockAt_53 X  a0 a1 a2 a3 a4 s0 v38 w
  )
def fX5_blockAt (X : px_X) (w : px_W) (a0 : Nat) (a1 : Nat) (a2 : Int32) (a3 : Int32) : Option (Int32 × px_W) :=
  (gR w a0 5 5).bind fun v39 =>
  (gR w a0 5 14).bind fun v40 =>
  (aN w 0 v40 a3).bind fun v41 =>
  (aN w 0 v39 v41).bind fun v42 =>
  (gI w a0 5 0).bind fun v43 =>
  if v43 = 1 then (
    fX5_blockAt_32 X  a0 a1 a2 a3 v42 1 w
  ) else (
    (gR w a1 2 6).bind fun v45 =>
    (aN w 0 v45 v42).bind fun v46 =>
    fX5_blockAt_32 X  a0 a1 a2 a3 v42 v46 w
  )
def fX5_isRefinement (X : px_X) (w : px_W) (a0 : Nat) : Option (Int32 × px_W) :=
  (gI w a0 5 3).bind fun v2 =>
  if v2 ≤ 0 then (
    some (0, w)
  ) else (
    some (1, w)
  )
def fX7_putNumber_12 (X : px_X)  (a2 : Int32) (s0 : Int32) (s1 : Nat) (w : px_W) : Option (px_W) :=
  (gO w s1 7).bind fun o3 =>
  (fX7_putBits X w s1 s0 a2).bind fun q4 =>
  some q4
def fX7_putNumber (X : px_X) (w : px_W) (a0 : Nat) (a1 : Int32) (a2 : Int32) : Option (px_W) :=
  if a1 ≤ 0 then (
    fX7_putNumber_12 X  a2 (a1 - 1) a0 w
  ) else (
    fX7_putNumber_12 X  a2 a1 a0 w
  )
def fX7_writeDirect (X : px_X) (w : px_W) (a0 : Nat) (a1 : Int32) (a2 : Int32) : Option (px_W) :=
  (gR w a0 7 1).bind fun v23 =>
  (gR w v23 2 11).bind fun v24 =>
  (aN w 0 v24 a1).bind fun v25 =>
  (gR w a0 7 2).bind fun v26 =>
  (gI w v26 5 4).bind fun v27 =>
  (gR w a0 7 2).bind fun v28 =>
  (gO w v28 5).bind fun o29 =>
  (fX5_isRefinement X w v28).bind fun q30 =>
  if q30.1 = 0 then (
    (gR q30.2 a0 7 12).bind fun v32 =>
    (aN q30.2 0 v32 a2).bind fun v33 =>
    (gR q30.2 a0 7 12).bind fun v34 =>
    (sN id q30.2 0 v34 a2 (v25 >>> (v27 &&& 31))).bind fun w35 =>
    (gR w35 a0 7 3).bind fun v36 =>
    (aQ w35 5 v36 a2).bind fun v37 =>
    (fX11_sizeOf X w35 ((v25 >>> (v27 &&& 31)) - v33)).bind fun q38 =>
    (gO q38.2 a0 7).bind fun o39 =>
    (fX7_putWord X q38.2 a0 v37 q38.1).bind fun q40 =>
    (fX11_sizeOf X q40 ((v25 >>> (v27 &&& 31)) - v33)).bind fun q41 =>
    (gO q41.2 a0 7).bind fun o42 =>
    (fX7_putNumber X q41.2 a0 ((v25 >>> (v27 &&& 31)) - v33) q41.1).bind fun q43 =>
    some q43
  ) else (
    (gO q30.2 a0 7).bind fun o44 =>
    (fX7_putBits X q30.2 a0 (v25 >>> (v27 &&& 31)) 1).bind fun q45 =>
    some q45
  )
def fX7_lastNewOne_8 (X : px_X)  : Nat → Nat → Int32 → Int32 → px_W → Option (Int32 × px_W)
  | 0, _, _, _, _ => none
  | m + 1, a0, a1, a2, w =>
    (gR w a0 7 2).bind fun v10 =>
    (gI w v10 5 1).bind fun v11 =>
    if a2 < v11 then (
      some (a2, w)
    ) else (
      (gR w a0 7 1).bind fun v13 =>
      (gR w v13 2 11).bind fun v14 =>
      (aN w 0 v14 (a1 + a2)).bind fun v15 =>
      (gR w a0 7 2).bind fun v16 =>
      (gI w v16 5 4).bind fun v17 =>
      if ((mabs v15) >>> (v17 &&& 31)) = 1 then (
        some (a2, w)
      ) else (
        fX7_lastNewOne_8 X  m a0 a1 (a2 + (-1)) w
      )
    )
def fX7_lastNewOne (X : px_X) (w : px_W) (a0 : Nat) (a1 : Int32) : Option (Int32 × px_W) :=
  (gR w a0 7 2).bind fun v19 =>
  (gI w v19 5 2).bind fun v20 =>
  fX7_lastNewOne_8 X  FU a0 a1 v20 w
def fX7_sendBitsToCome_27 (X : px_X)  (a0 : Nat) (w : px_W) : Option (px_W) :=
  (pV w a0 7 10 (.int 0)).bind fun w7 =>
  some w7
def fX7_sendBitsToCome_2 (X : px_X)  : Nat → Nat → Int32 → px_W → Option (px_W)
  | 0, _, _, _ => none
  | m + 1, a0, a1, w =>
    (gI w a0 7 10).bind fun v8 =>
    if v8 ≤ a1 then (
      fX7_sendBitsToCome_27 X  a0 w
    ) else (
      (gR w a0 7 11).bind fun v10 =>
      (aN w 0 v10 a1).bind fun v11 =>
      (gO w a0 7).bind fun o12 =>
      (fX7_putBits X w a0 v11 1).bind fun q13 =>
      fX7_sendBitsToCome_2 X  m a0 (a1 + 1) q13
    )
def fX7_sendBitsToCome (X : px_X) (w : px_W) (a0 : Nat) : Option (px_W) :=
  fX7_sendBitsToCome_2 X  FU a0 0 w
def fX7_lengthenRun_51 (X : px_X)  (a0 : Nat) (w : px_W) : Option (px_W) :=
  (pV w a0 7 10 (.int 0)).bind fun w12 =>
  some w12
def fX7_lengthenRun_12 (X : px_X)  : Nat → Nat → Int32 → px_W → Option (px_W)
  | 0, _, _, _ => none
  | m + 1, a0, a1, w =>
    (gI w a0 7 10).bind fun v13 =>
    if v13 ≤ a1 then (
      fX7_lengthenRun_51 X  a0 w
    ) else (
      (gR w a0 7 9).bind fun v15 =>
      (gI w a0 7 8).bind fun v16 =>
      (gR w a0 7 11).bind fun v17 =>
      (aN w 0 v17 a1).bind fun v18 =>
      (sN id w 0 v15 v16 v18).bind fun w19 =>
      (gI w19 a0 7 8).bind fun v20 =>
      (pV w19 a0 7 8 (.int (v20 + 1))).bind fun w21 =>
      fX7_lengthenRun_12 X  m a0 (a1 + 1) w21
    )
def fX7_lengthenRun (X : px_X) (w : px_W) (a0 : Nat) : Option (px_W) :=
  (gI w a0 7 7).bind fun v22 =>
  (pV w a0 7 7 (.int (v22 + 1))).bind fun w23 =>
  fX7_lengthenRun_12 X  FU a0 0 w23
def fX7_isRunFull (X : px_X) (w : px_W) (a0 : Nat) : Option (Int32 × px_W) :=
  (gI w a0 7 7).bind fun v3 =>
  if v3 = 32767 then (
    some (1, w)
  ) else (
    (gI w a0 7 8).bind fun v5 =>
    if v5 ≤ 900 then (
      some (0, w)
    ) else (
      some (1, w)
    )
  )
def fX7_refineOthers_182 (X : px_X) (k18 : Nat → Int32 → Nat → Int32 → Int32 → Int32 → px_W → Option (px_W)) (a0 : Nat) (a1 : Int32) (a2 : Nat) (a3 : Int32) (a4 : Int32) (a5 : Int32) (w : px_W) : Option (px_W) :=
  k18 a0 a1 a2 a3 a4 (a5 + 1) w
def fX7_refineOthers_171 (X : px_X) (k18 : Nat → Int32 → Nat → Int32 → Int32 → Int32 → px_W → Option (px_W)) (a0 : Nat) (a1 : Int32) (a2 : Nat) (a3 : Int32) (a5 : Int32) (s0 : Int32) (s1 : Nat) (w : px_W) : Option (px_W) :=
  (gO w s1 7).bind fun o38 =>
  (fX7_putBits X w s1 s0 1).bind fun q39 =>
  (gO q39 a0 7).bind fun o40 =>
  (fX7_sendBitsToCome X q39 a0).bind fun q41 =>
  fX7_refineOthers_182 X k18 a0 a1 a2 a3 0 a5 q41
def fX7_refineOthers_100 (X : px_X) (k18 : Nat → Int32 → Nat → Int32 → Int32 → Int32 → px_W → Option (px_W)) (a0 : Nat) (a1 : Int32) (a2 : Nat) (a3 : Int32) (a4 : Int32) (a5 : Int32) (a6 : Int32) (a7 : Int32) (w : px_W) : Option (px_W) :=
  if a7 = 0 then (
    fX7_refineOthers_182 X k18 a0 a1 a2 a3 (a4 + 1) a5 w
  ) else (
    if a7 ≤ 1 then (
      (gO w a0 7).bind fun o44 =>
      (fX7_sendRun X w a0 a2).bind fun q45 =>
      (gO q45 a0 7).bind fun o46 =>
      (fX7_putWord X q45 a0 a2 ((16 * a4) + 1)).bind fun q47 =>
      if 0 ≤ a6 then (
        fX7_refineOthers_171 X k18 a0 a1 a2 a3 a5 1 a0 q47
      ) else (
        fX7_refineOthers_171 X k18 a0 a1 a2 a3 a5 0 a0 q47
      )
    ) else (
      (gR w a0 7 11).bind fun v49 =>
      (gI w a0 7 10).bind fun v50 =>
      (sN id w 0 v49 v50 (a7 &&& 1)).bind fun w51 =>
      (gI w51 a0 7 10).bind fun v52 =>
      (pV w51 a0 7 10 (.int (v52 + 1))).bind fun w53 =>
      fX7_refineOthers_182 X k18 a0 a1 a2 a3 a4 a5 w53
    )
  )
def fX7_refineOthers_59 (X : px_X) (k18 : Nat → Int32 → Nat → Int32 → Int32 → Int32 → px_W → Option (px_W)) : Nat → Nat → Int32 → Nat → Int32 → Int32 → Int32 → Int32 → Int32 → px_W → Option (px_W)
  | 0, _, _, _, _, _, _, _, _, _ => none
  | m + 1, a0, a1, a2, a3, a4, a5, a6, a7, w =>
    if a7 ≤ 0 then (
      fX7_refineOthers_100 X k18 a0 a1 a2 a3 a4 a5 a6 a7 w
    ) else (
      if a4 ≤ 15 then (
        fX7_refineOthers_100 X k18 a0 a1 a2 a3 a4 a5 a6 a7 w
      ) else (
        if a3 < a5 then (
          fX7_refineOthers_100 X k18 a0 a1 a2 a3 a4 a5 a6 a7 w
        ) else (
          (gO w a0 7).bind fun o57 =>
          (fX7_sendRun X w a0 a2).bind fun q58 =>
          (gO q58 a0 7).bind fun o59 =>
          (fX7_putWord X q58 a0 a2 240).bind fun q60 =>
          (gO q60 a0 7).bind fun o61 =>
          (fX7_sendBitsToCome X q60 a0).bind fun q62 =>
          fX7_refineOthers_59 X k18 m a0 a1 a2 a3 (a4 + (-16)) a5 a6 a7 q62
        )
      )
    )
def fX7_refineOthers_204 (X : px_X)  (a0 : Nat) (a2 : Nat) (w : px_W) : Option (px_W) :=
  (gO w a0 7).bind fun o63 =>
  (fX7_isRunFull X w a0).bind fun q64 =>
  if q64.1 = 0 then (
    some q64.2
  ) else (
    (gO q64.2 a0 7).bind fun o66 =>
    (fX7_sendRun X q64.2 a0 a2).bind fun q67 =>
    some q67
  )
def fX7_refineOthers_200 (X : px_X)  (a0 : Nat) (a2 : Nat) (w : px_W) : Option (px_W) :=
  (gO w a0 7).bind fun o68 =>
  (fX7_lengthenRun X w a0).bind fun q69 =>
  fX7_refineOthers_204 X  a0 a2 q69
def fX7_refineOthers_188 (X : px_X)  (a0 : Nat) (a2 : Nat) (a4 : Int32) (w : px_W) : Option (px_W) :=
  if 0 < a4 then (
    fX7_refineOthers_200 X  a0 a2 w
  ) else (
    (gI w a0 7 10).bind fun v71 =>
    if v71 ≤ 0 then (
      fX7_refineOthers_204 X  a0 a2 w
    ) else (
      fX7_refineOthers_200 X  a0 a2 w
    )
  )
def fX7_refineOthers_18 (X : px_X)  : Nat → Nat → Int32 → Nat → Int32 → Int32 → Int32 → px_W → Option (px_W)
  | 0, _, _, _, _, _, _, _ => none
  | m + 1, a0, a1, a2, a3, a4, a5, w =>
    (gR w a0 7 2).bind fun v73 =>
    (gI w v73 5 2).bind fun v74 =>
    if v74 < a5 then (
      fX7_refineOthers_188 X  a0 a2 a4 w
    ) else (
      (gR w a0 7 1).bind fun v76 =>
      (gR w v76 2 11).bind fun v77 =>
      (aN w 0 v77 (a1 + a5)).bind fun v78 =>
      (gR w a0 7 2).bind fun v79 =>
      (gI w v79 5 4).bind fun v80 =>
      fX7_refineOthers_59 X (fX7_refineOthers_18 X  m) FU a0 a1 a2 a3 a4 a5 v78 ((mabs v78) >>> (v80 &&& 31)) w
    )
def fX7_refineOthers (X : px_X) (w : px_W) (a0 : Nat) (a1 : Int32) (a2 : Nat) : Option (px_W) :=
  (gO w a0 7).bind fun o81 =>
  (fX7_lastNewOne X w a0 a1).bind fun q82 =>
  (gR q82.2 a0 7 2).bind fun v83 =>
  (gI q82.2 v83 5 1).bind fun v84 =>
  fX7_refineOthers_18 X  FU a0 a1 a2 q82.1 0 v84 q82.2
def fX5_isWhole (X : px_X) (w : px_W) (a0 : Nat) : Option (Int32 × px_W) :=
  (gI w a0 5 1).bind fun v3 =>
  if v3 = 0 then (
    (gI w a0 5 2).bind fun v5 =>
    if v5 ≤ 0 then (
      some (0, w)
    ) else (
      some (1, w)
    )
  ) else (
    some (0, w)
  )
def fX7_writeOthers_131 (X : px_X) (k15 : Nat → Int32 → Nat → Int32 → Int32 → px_W → Option (px_W)) (a0 : Nat) (a1 : Int32) (a2 : Nat) (a3 : Int32) (a4 : Int32) (w : px_W) : Option (px_W) :=
  k15 a0 a1 a2 a3 (a4 + 1) w
def fX7_writeOthers_121 (X : px_X) (k15 : Nat → Int32 → Nat → Int32 → Int32 → px_W → Option (px_W)) (a0 : Nat) (a1 : Int32) (a2 : Nat) (a4 : Int32) (a6 : Int32) (s0 : Int32) (s1 : Nat) (w : px_W) : Option (px_W) :=
  (fX11_sizeOf X w a6).bind fun q31 =>
  (gO q31.2 s1 7).bind fun o32 =>
  (fX7_putNumber X q31.2 s1 s0 q31.1).bind fun q33 =>
  fX7_writeOthers_131 X k15 a0 a1 a2 0 a4 q33
def fX7_writeOthers_92 (X : px_X) (k15 : Nat → Int32 → Nat → Int32 → Int32 → px_W → Option (px_W)) (a0 : Nat) (a1 : Int32) (a2 : Nat) (a3 : Int32) (a4 : Int32) (a5 : Int32) (a6 : Int32) (w : px_W) : Option (px_W) :=
  (fX11_sizeOf X w a6).bind fun q34 =>
  (gO q34.2 a0 7).bind fun o35 =>
  (fX7_putWord X q34.2 a0 a2 ((16 * a3) + q34.1)).bind fun q36 =>
  if a5 ≤ 0 then (
    fX7_writeOthers_121 X k15 a0 a1 a2 a4 a6 (-a6) a0 q36
  ) else (
    fX7_writeOthers_121 X k15 a0 a1 a2 a4 a6 a6 a0 q36
  )
def fX7_writeOthers_72 (X : px_X) (k15 : Nat → Int32 → Nat → Int32 → Int32 → px_W → Option (px_W)) : Nat → Nat → Int32 → Nat → Int32 → Int32 → Int32 → Int32 → px_W → Option (px_W)
  | 0, _, _, _, _, _, _, _, _ => none
  | m + 1, a0, a1, a2, a3, a4, a5, a6, w =>
    if a3 ≤ 15 then (
      fX7_writeOthers_92 X k15 a0 a1 a2 a3 a4 a5 a6 w
    ) else (
      (gO w a0 7).bind fun o39 =>
      (fX7_putWord X w a0 a2 240).bind fun q40 =>
      fX7_writeOthers_72 X k15 m a0 a1 a2 (a3 + (-16)) a4 a5 a6 q40
    )
def fX7_writeOthers_168 (X : px_X)  (a0 : Nat) (a2 : Nat) (w : px_W) : Option (px_W) :=
  (gO w a0 7).bind fun o41 =>
  (fX7_isRunFull X w a0).bind fun q42 =>
  if q42.1 = 0 then (
    some q42.2
  ) else (
    (gO q42.2 a0 7).bind fun o44 =>
    (fX7_sendRun X q42.2 a0 a2).bind fun q45 =>
    some q45
  )
def fX7_writeOthers_160 (X : px_X)  (a0 : Nat) (a2 : Nat) (a3 : Int32) (w : px_W) : Option (px_W) :=
  if a3 ≤ 0 then (
    fX7_writeOthers_168 X  a0 a2 w
  ) else (
    (gO w a0 7).bind fun o47 =>
    (fX7_lengthenRun X w a0).bind fun q48 =>
    fX7_writeOthers_168 X  a0 a2 q48
  )
def fX7_writeOthers_137 (X : px_X)  (a0 : Nat) (a2 : Nat) (a3 : Int32) (w : px_W) : Option (px_W) :=
  if a3 ≤ 0 then (
    fX7_writeOthers_160 X  a0 a2 a3 w
  ) else (
    (gR w a0 7 2).bind fun v50 =>
    (gO w v50 5).bind fun o51 =>
    (fX5_isWhole X w v50).bind fun q52 =>
    if q52.1 = 0 then (
      fX7_writeOthers_160 X  a0 a2 a3 q52.2
    ) else (
      (gO q52.2 a0 7).bind fun o54 =>
      (fX7_putWord X q52.2 a0 a2 0).bind fun q55 =>
      fX7_writeOthers_168 X  a0 a2 q55
    )
  )
def fX7_writeOthers_15 (X : px_X)  : Nat → Nat → Int32 → Nat → Int32 → Int32 → px_W → Option (px_W)
  | 0, _, _, _, _, _, _ => none
  | m + 1, a0, a1, a2, a3, a4, w =>
    (gR w a0 7 2).bind fun v56 =>
    (gI w v56 5 2).bind fun v57 =>
    if v57 < a4 then (
      fX7_writeOthers_137 X  a0 a2 a3 w
    ) else (
      (gR w a0 7 1).bind fun v59 =>
      (gR w v59 2 11).bind fun v60 =>
      (aN w 0 v60 (a1 + a4)).bind fun v61 =>
      (gR w a0 7 2).bind fun v62 =>
      (gI w v62 5 4).bind fun v63 =>
      if ((mabs v61) >>> (v63 &&& 31)) = 0 then (
        fX7_writeOthers_131 X (fX7_writeOthers_15 X  m) a0 a1 a2 (a3 + 1) a4 w
      ) else (
        (gO w a0 7).bind fun o65 =>
        (fX7_sendRun X w a0 a2).bind fun q66 =>
        fX7_writeOthers_72 X (fX7_writeOthers_15 X  m) FU a0 a1 a2 a3 a4 v61 ((mabs v61) >>> (v63 &&& 31)) q66
      )
    )
def fX7_writeOthers (X : px_X) (w : px_W) (a0 : Nat) (a1 : Int32) (a2 : Nat) : Option (px_W) :=
  (gR w a0 7 2).bind fun v67 =>
  (gI w v67 5 1).bind fun v68 =>
  fX7_writeOthers_15 X  FU a0 a1 a2 0 (mmax 1 v68) w
def fX7_write_217 (X : px_X)  (a0 : Nat) (w : px_W) : Option (px_W) :=
  (gO w a0 7).bind fun o48 =>
  (fX7_endBits X w a0).bind fun q49 =>
  some q49
def fX7_write_211 (X : px_X) (k25 : Nat → Int32 → Int32 → px_W → Option (px_W)) (a0 : Nat) (a1 : Int32) (a3 : Int32) (w : px_W) : Option (px_W) :=
  k25 a0 a1 (a3 + 1) w
def fX7_write_205 (X : px_X) (k25 : Nat → Int32 → Int32 → px_W → Option (px_W)) (k73 : Nat → Int32 → Int32 → Int32 → px_W → Option (px_W)) (a0 : Nat) (a1 : Int32) (a3 : Int32) (a4 : Int32) (w : px_W) : Option (px_W) :=
  k73 a0 a1 a3 (a4 + 1) w
def fX7_write_180 (X : px_X) (k25 : Nat → Int32 → Int32 → px_W → Option (px_W)) (k73 : Nat → Int32 → Int32 → Int32 → px_W → Option (px_W)) (a0 : Nat) (a1 : Int32) (a3 : Int32) (a4 : Int32) (a5 : Int32) (a6 : Int32) (w : px_W) : Option (px_W) :=
  (gR w a0 7 2).bind fun v50 =>
  (gI w v50 5 2).bind fun v51 =>
  if v51 ≤ 0 then (
    fX7_write_205 X k25 k73 a0 a1 a3 a4 w
  ) else (
    (gR w a0 7 3).bind fun v53 =>
    (aQ w 5 v53 (4 + a5)).bind fun v54 =>
    (gO w a0 7).bind fun o55 =>
    (fX7_writeOthers X w a0 a6 v54).bind fun q56 =>
    fX7_write_205 X k25 k73 a0 a1 a3 a4 q56
  )
def fX7_write_142 (X : px_X) (k25 : Nat → Int32 → Int32 → px_W → Option (px_W)) (k73 : Nat → Int32 → Int32 → Int32 → px_W → Option (px_W)) (a0 : Nat) (a1 : Int32) (a3 : Int32) (a4 : Int32) (a5 : Int32) (a6 : Int32) (w : px_W) : Option (px_W) :=
  (gR w a0 7 2).bind fun v57 =>
  (gI w v57 5 2).bind fun v58 =>
  if v58 ≤ 0 then (
    fX7_write_180 X k25 k73 a0 a1 a3 a4 a5 a6 w
  ) else (
    (gR w a0 7 2).bind fun v60 =>
    (gO w v60 5).bind fun o61 =>
    (fX5_isRefinement X w v60).bind fun q62 =>
    if q62.1 = 0 then (
      fX7_write_180 X k25 k73 a0 a1 a3 a4 a5 a6 q62.2
    ) else (
      (gR q62.2 a0 7 3).bind fun v64 =>
      (aQ q62.2 5 v64 (4 + a5)).bind fun v65 =>
      (gO q62.2 a0 7).bind fun o66 =>
      (fX7_refineOthers X q62.2 a0 a6 v65).bind fun q67 =>
      fX7_write_205 X k25 k73 a0 a1 a3 a4 q67
    )
  )
def fX7_write_73 (X : px_X) (k25 : Nat → Int32 → Int32 → px_W → Option (px_W)) : Nat → Nat → Int32 → Int32 → Int32 → px_W → Option (px_W)
  | 0, _, _, _, _, _ => none
  | m + 1, a0, a1, a3, a4, w =>
    (gR w a0 7 2).bind fun v68 =>
    (gI w v68 5 13).bind fun v69 =>
    if v69 ≤ a4 then (
      fX7_write_211 X k25 a0 a1 a3 w
    ) else (
      (gR w a0 7 2).bind fun v71 =>
      (gR w v71 5 5).bind fun v72 =>
      (gR w a0 7 2).bind fun v73 =>
      (gR w v73 5 14).bind fun v74 =>
      (aN w 0 v74 a4).bind fun v75 =>
      (aN w 0 v72 v75).bind fun v76 =>
      (gR w a0 7 2).bind fun v77 =>
      (gR w a0 7 1).bind fun v78 =>
      (gO w v77 5).bind fun o79 =>
      (fX5_blockAt X w v77 v78 a3 a4).bind fun q80 =>
      (gR q80.2 a0 7 2).bind fun v81 =>
      (gI q80.2 v81 5 1).bind fun v82 =>
      if v82 = 0 then (
        (gO q80.2 a0 7).bind fun o84 =>
        (fX7_writeDirect X q80.2 a0 (64 * q80.1) v76).bind fun q85 =>
        fX7_write_142 X k25 (fX7_write_73 X k25 m) a0 a1 a3 a4 v76 (64 * q80.1) q85
      ) else (
        fX7_write_142 X k25 (fX7_write_73 X k25 m) a0 a1 a3 a4 v76 (64 * q80.1) q80.2
      )
    )
def fX7_write_70 (X : px_X) (k25 : Nat → Int32 → Int32 → px_W → Option (px_W)) (a0 : Nat) (a1 : Int32) (a3 : Int32) (w : px_W) : Option (px_W) :=
  fX7_write_73 X k25 FU a0 a1 a3 0 w
def fX7_write_25 (X : px_X)  : Nat → Nat → Int32 → Int32 → px_W → Option (px_W)
  | 0, _, _, _, _ => none
  | m + 1, a0, a1, a3, w =>
    (gR w a0 7 2).bind fun v86 =>
    (gI w v86 5 11).bind fun v87 =>
    if v87 ≤ a3 then (
      fX7_write_217 X  a0 w
    ) else (
      if a1 ≤ 0 then (
        fX7_write_70 X (fX7_write_25 X  m) a0 a1 a3 w
      ) else (
        if a3 ≤ 0 then (
          fX7_write_70 X (fX7_write_25 X  m) a0 a1 a3 w
        ) else (
          (rI a3 a1).bind fun v91 =>
          if v91 = 0 then (
            (gO w a0 7).bind fun o93 =>
            (fX7_endBits X w a0).bind fun q94 =>
            (dI a3 a1).bind fun v95 =>
            (rI (v95 - 1) 8).bind fun v96 =>
            (gO q94 a0 7).bind fun o97 =>
            (fX7_writeRestart X q94 a0 (208 + v96)).bind fun q98 =>
            fX7_write_70 X (fX7_write_25 X  m) a0 a1 a3 q98
          ) else (
            fX7_write_70 X (fX7_write_25 X  m) a0 a1 a3 w
          )
        )
      )
    )
def fX7_write (X : px_X) (w : px_W) (a0 : Nat) (a1 : Int32) (a2 : Int32) : Option (px_W) :=
  (pZ w a0 7 4 a2).bind fun w99 =>
  (pV w99 a0 7 5 (.int 0)).bind fun w100 =>
  (pV w100 a0 7 6 (.int 0)).bind fun w101 =>
  (gR w101 a0 7 12).bind fun v102 =>
  (fJ7_fill_53178 X w101 v102 0).bind fun q103 =>
  fX7_write_25 X  FU a0 a1 0 q103
def fX4_sizeOfTable (X : px_X) (w : px_W) (a0 : Nat) (a1 : Nat) : Option (Int32 × px_W) :=
  (gO w a1 0).bind fun o4 =>
  (fX0_settle X w a1).bind fun q5 =>
  (gI q5 a1 0 5).bind fun v6 =>
  some (17 + v6, q5)
def fX4_tellTable_37 (X : px_X)  : Nat → Nat → Nat → Int32 → px_W → Option (px_W)
  | 0, _, _, _, _ => none
  | m + 1, a0, a2, a3, w =>
    (gI w a2 0 5).bind fun v15 =>
    if v15 ≤ a3 then (
      some w
    ) else (
      (gR w a0 4 0).bind fun v17 =>
      (gR w a2 0 4).bind fun v18 =>
      (aN w 0 v18 a3).bind fun v19 =>
      (gO w v17 1).bind fun o20 =>
      (fX1_add X w v17 v19).bind fun q21 =>
      fX4_tellTable_37 X  m a0 a2 (a3 + 1) q21
    )
def fX4_tellTable_35 (X : px_X)  (a0 : Nat) (a2 : Nat) (w : px_W) : Option (px_W) :=
  fX4_tellTable_37 X  FU a0 a2 0 w
def fX4_tellTable_10 (X : px_X)  : Nat → Nat → Nat → Int32 → px_W → Option (px_W)
  | 0, _, _, _, _ => none
  | m + 1, a0, a2, a3, w =>
    if 16 < a3 then (
      fX4_tellTable_35 X  a0 a2 w
    ) else (
      (gR w a0 4 0).bind fun v23 =>
      (gR w a2 0 3).bind fun v24 =>
      (aN w 0 v24 a3).bind fun v25 =>
      (gO w v23 1).bind fun o26 =>
      (fX1_add X w v23 v25).bind fun q27 =>
      fX4_tellTable_10 X  m a0 a2 (a3 + 1) q27
    )
def fX4_tellTable (X : px_X) (w : px_W) (a0 : Nat) (a1 : Int32) (a2 : Nat) : Option (px_W) :=
  (gR w a0 4 0).bind fun v28 =>
  (gO w v28 1).bind fun o29 =>
  (fX1_add X w v28 a1).bind fun q30 =>
  fX4_tellTable_10 X  FU a0 a2 1 q30
def fX4_tellTables_166 (X : px_X)  : Nat → Nat → Int32 → Int32 → Int32 → Int32 → px_W → Option (px_W)
  | 0, _, _, _, _, _, _ => none
  | m + 1, a0, a1, a2, a4, a6, w =>
    if (a1 + a2) ≤ a6 then (
      some w
    ) else (
      if a4 = 0 then (
        some w
      ) else (
        (gR w a0 4 4).bind fun v27 =>
        (aQ w 5 v27 (4 + a6)).bind fun v28 =>
        (gO w a0 4).bind fun o29 =>
        (fX4_tellTable X w a0 (16 + a6) v28).bind fun q30 =>
        fX4_tellTables_166 X  m a0 a1 a2 a4 (a6 + 1) q30
      )
    )
def fX4_tellTables_163 (X : px_X)  (a0 : Nat) (a1 : Int32) (a2 : Int32) (a4 : Int32) (w : px_W) : Option (px_W) :=
  fX4_tellTables_166 X  FU a0 a1 a2 a4 a1 w
def fX4_tellTables_132 (X : px_X)  : Nat → Nat → Int32 → Int32 → Int32 → Int32 → Int32 → px_W → Option (px_W)
  | 0, _, _, _, _, _, _, _ => none
  | m + 1, a0, a1, a2, a3, a4, a6, w =>
    if (a1 + a2) ≤ a6 then (
      fX4_tellTables_163 X  a0 a1 a2 a4 w
    ) else (
      if a3 = 0 then (
        fX4_tellTables_163 X  a0 a1 a2 a4 w
      ) else (
        (gR w a0 4 4).bind fun v33 =>
        (aQ w 5 v33 a6).bind fun v34 =>
        (gO w a0 4).bind fun o35 =>
        (fX4_tellTable X w a0 a6 v34).bind fun q36 =>
        fX4_tellTables_132 X  m a0 a1 a2 a3 a4 (a6 + 1) q36
      )
    )
def fX4_tellTables_114 (X : px_X)  (a0 : Nat) (a1 : Int32) (a2 : Int32) (a3 : Int32) (a4 : Int32) (a5 : Int32) (w : px_W) : Option (px_W) :=
  if a5 = 0 then (
    some w
  ) else (
    (gO w a0 4).bind fun o38 =>
    (fX4_tellSegment X w a0 196 a5).bind fun q39 =>
    fX4_tellTables_132 X  FU a0 a1 a2 a3 a4 a1 q39
  )
def fX4_tellTables_105 (X : px_X) (k49 : Nat → Int32 → Int32 → Int32 → Int32 → Int32 → Int32 → px_W → Option (px_W)) (a0 : Nat) (a1 : Int32) (a2 : Int32) (a3 : Int32) (a4 : Int32) (a6 : Int32) (s0 : Int32) (s1 : Int32) (w : px_W) : Option (px_W) :=
  k49 a0 a1 a2 a3 a4 (s1 + s0) (a6 + 1) w
def fX4_tellTables_78 (X : px_X) (k49 : Nat → Int32 → Int32 → Int32 → Int32 → Int32 → Int32 → px_W → Option (px_W)) (a0 : Nat) (a1 : Int32) (a2 : Int32) (a3 : Int32) (a4 : Int32) (a6 : Int32) (s0 : Int32) (s1 : Int32) (w : px_W) : Option (px_W) :=
  if a4 = 0 then (
    fX4_tellTables_105 X k49 a0 a1 a2 a3 a4 a6 0 (s1 + s0) w
  ) else (
    (gR w a0 4 4).bind fun v41 =>
    (aQ w 5 v41 (4 + a6)).bind fun v42 =>
    (gO w a0 4).bind fun o43 =>
    (fX4_sizeOfTable X w a0 v42).bind fun q44 =>
    fX4_tellTables_105 X k49 a0 a1 a2 a3 a4 a6 q44.1 (s1 + s0) q44.2
  )
def fX4_tellTables_49 (X : px_X)  : Nat → Nat → Int32 → Int32 → Int32 → Int32 → Int32 → Int32 → px_W → Option (px_W)
  | 0, _, _, _, _, _, _, _, _ => none
  | m + 1, a0, a1, a2, a3, a4, a5, a6, w =>
    if (a1 + a2) ≤ a6 then (
      fX4_tellTables_114 X  a0 a1 a2 a3 a4 a5 w
    ) else (
      if a3 = 0 then (
        fX4_tellTables_78 X (fX4_tellTables_49 X  m) a0 a1 a2 a3 a4 a6 0 a5 w
      ) else (
        (gR w a0 4 4).bind fun v47 =>
        (aQ w 5 v47 a6).bind fun v48 =>
        (gO w a0 4).bind fun o49 =>
        (fX4_sizeOfTable X w a0 v48).bind fun q50 =>
        fX4_tellTables_78 X (fX4_tellTables_49 X  m) a0 a1 a2 a3 a4 a6 q50.1 a5 q50.2
      )
    )
def fX4_tellTables_41 (X : px_X)  (a0 : Nat) (a1 : Int32) (a2 : Int32) (a3 : Int32) (s0 : Int32) (w : px_W) : Option (px_W) :=
  fX4_tellTables_49 X  FU a0 a1 a2 a3 s0 0 a1 w
def fX4_tellTables_25 (X : px_X)  (a0 : Nat) (a1 : Int32) (a2 : Int32) (s0 : Int32) (w : px_W) : Option (px_W) :=
  (gR w a0 4 3).bind fun v51 =>
  (gI w v51 5 2).bind fun v52 =>
  if v52 ≤ 0 then (
    fX4_tellTables_41 X  a0 a1 a2 s0 0 w
  ) else (
    fX4_tellTables_41 X  a0 a1 a2 s0 1 w
  )
def fX4_tellTables_24 (X : px_X)  (a0 : Nat) (a1 : Int32) (a2 : Int32) (w : px_W) : Option (px_W) :=
  fX4_tellTables_25 X  a0 a1 a2 0 w
def fX4_tellTables (X : px_X) (w : px_W) (a0 : Nat) (a1 : Int32) (a2 : Int32) : Option (px_W) :=
  (gR w a0 4 3).bind fun v54 =>
  (gI w v54 5 1).bind fun v55 =>
  if v55 = 0 then (
    (gR w a0 4 3).bind fun v57 =>
    (gI w v57 5 3).bind fun v58 =>
    if v58 = 0 then (
      fX4_tellTables_25 X  a0 a1 a2 1 w
    ) else (
      fX4_tellTables_24 X  a0 a1 a2 w
    )
  ) else (
    fX4_tellTables_24 X  a0 a1 a2 w
  )
def fX4_tellScan_142 (X : px_X)  (a0 : Nat) (w : px_W) : Option (px_W) :=
  (gR w a0 4 0).bind fun v56 =>
  (gR w a0 4 3).bind fun v57 =>
  (gI w v57 5 1).bind fun v58 =>
  (gO w v56 1).bind fun o59 =>
  (fX1_add X w v56 v58).bind fun q60 =>
  (gR q60 a0 4 0).bind fun v61 =>
  (gR q60 a0 4 3).bind fun v62 =>
  (gI q60 v62 5 2).bind fun v63 =>
  (gO q60 v61 1).bind fun o64 =>
  (fX1_add X q60 v61 v63).bind fun q65 =>
  (gR q65 a0 4 0).bind fun v66 =>
  (gR q65 a0 4 3).bind fun v67 =>
  (gI q65 v67 5 3).bind fun v68 =>
  (gR q65 a0 4 3).bind fun v69 =>
  (gI q65 v69 5 4).bind fun v70 =>
  (gO q65 v66 1).bind fun o71 =>
  (fX1_add X q65 v66 ((16 * v68) + v70)).bind fun q72 =>
  (gR q72 a0 4 5).bind fun v73 =>
  (gI q72 a0 4 2).bind fun v74 =>
  (gO q72 v73 7).bind fun o75 =>
  (fX7_write X q72 v73 v74 0).bind fun q76 =>
  some q76
def fX4_tellScan_108 (X : px_X)  : Nat → Nat → Int32 → Int32 → Int32 → px_W → Option (px_W)
  | 0, _, _, _, _, _ => none
  | m + 1, a0, a1, a2, a3, w =>
    if (a1 + a2) ≤ a3 then (
      fX4_tellScan_142 X  a0 w
    ) else (
      (gR w a0 4 0).bind fun v78 =>
      (gO w v78 1).bind fun o79 =>
      (fX1_add X w v78 (a3 + 1)).bind fun q80 =>
      (gR q80 a0 4 0).bind fun v81 =>
      (gO q80 v81 1).bind fun o82 =>
      (fX1_add X q80 v81 (17 * a3)).bind fun q83 =>
      fX4_tellScan_108 X  m a0 a1 a2 (a3 + 1) q83
    )
def fX4_tellScan_57 (X : px_X)  (a0 : Nat) (a1 : Int32) (a2 : Int32) (w : px_W) : Option (px_W) :=
  (gR w a0 4 3).bind fun v84 =>
  (gR w a0 4 1).bind fun v85 =>
  (gO w v84 5).bind fun o86 =>
  (fX5_layOut X w v84 v85).bind fun q87 =>
  (gR q87 a0 4 5).bind fun v88 =>
  (gI q87 a0 4 2).bind fun v89 =>
  (gO q87 v88 7).bind fun o90 =>
  (fX7_write X q87 v88 v89 1).bind fun q91 =>
  (gO q91 a0 4).bind fun o92 =>
  (fX4_tellTables X q91 a0 a1 a2).bind fun q93 =>
  (gO q93 a0 4).bind fun o94 =>
  (fX4_tellSegment X q93 a0 218 (4 + (2 * a2))).bind fun q95 =>
  (gR q95 a0 4 0).bind fun v96 =>
  (gO q95 v96 1).bind fun o97 =>
  (fX1_add X q95 v96 a2).bind fun q98 =>
  fX4_tellScan_108 X  FU a0 a1 a2 a1 q98
def fX4_tellScan_10 (X : px_X)  : Nat → Nat → Int32 → Int32 → Int32 → px_W → Option (px_W)
  | 0, _, _, _, _, _ => none
  | m + 1, a0, a1, a2, a3, w =>
    if a2 ≤ a3 then (
      fX4_tellScan_57 X  a0 a1 a2 w
    ) else (
      (gR w a0 4 3).bind fun v100 =>
      (gR w v100 5 5).bind fun v101 =>
      (sN id w 0 v101 a3 (a1 + a3)).bind fun w102 =>
      (gR w102 a0 4 4).bind fun v103 =>
      (aQ w102 5 v103 (a1 + a3)).bind fun v104 =>
      (gO w102 v104 0).bind fun o105 =>
      (fX0_forget X w102 v104).bind fun q106 =>
      (gR q106 a0 4 4).bind fun v107 =>
      (aQ q106 5 v107 ((4 + a1) + a3)).bind fun v108 =>
      (gO q106 v108 0).bind fun o109 =>
      (fX0_forget X q106 v108).bind fun q110 =>
      fX4_tellScan_10 X  m a0 a1 a2 (a3 + 1) q110
    )
def fX4_tellScan (X : px_X) (w : px_W) (a0 : Nat) (a1 : Int32) (a2 : Int32) : Option (px_W) :=
  (gR w a0 4 3).bind fun v111 =>
  (pV w v111 5 0 (.int a2)).bind fun w112 =>
  fX4_tellScan_10 X  FU a0 a1 a2 0 w112
def fX6_init (X : px_X) (w : px_W) (a0 : Nat) (a1 : Nat) (a2 : Nat) : Option (px_W) :=
  (nO w 5 17 [.int 0, .int 0, .int 0, .int 0, .int 0, .null, .null, .null, .null, .int 0, .int 0, .int 0, .int 0, .int 0, .null, .null, .null]).bind fun q8 =>
  (fX5_init X q8.2 q8.1).bind fun q9 =>
  (pV q9 a0 6 2 (.ref q8.1)).bind fun w10 =>
  (nA w10 0 4 (.inl (fun _ => 0))).bind fun q11 =>
  (pV q11.2 a0 6 8 (.ref q11.1)).bind fun w12 =>
  (pV w12 a0 6 0 (.ref a1)).bind fun w13 =>
  (pV w13 a0 6 1 (.ref a2)).bind fun w14 =>
  some w14
def fX6_begin (X : px_X) (w : px_W) (a0 : Nat) : Option (px_W) :=
  (pV w a0 6 7 (.int 0)).bind fun w4 =>
  (gR w4 a0 6 8).bind fun v5 =>
  (fJ7_fill_53178 X w4 v5 0).bind fun q6 =>
  some q6
def fX6_endBits_31 (X : px_X)  (a0 : Nat) (w : px_W) : Option (px_W) :=
  (pV w a0 6 5 (.int 0)).bind fun w6 =>
  some w6
def fX6_endBits_26 (X : px_X)  (a0 : Nat) (w : px_W) : Option (px_W) :=
  (pV w a0 6 6 (.int 5)).bind fun w7 =>
  fX6_endBits_31 X  a0 w7
def fX6_endBits (X : px_X) (w : px_W) (a0 : Nat) : Option (px_W) :=
  (gI w a0 6 5).bind fun v8 =>
  (gI w a0 6 7).bind fun v9 =>
  if 0 < v9 then (
    fX6_endBits_26 X  a0 w
  ) else (
    (gI w a0 6 4).bind fun v11 =>
    if (v11 &&& (((1 : Int32) <<< (v8 &&& 31)) - 1)) = (((1 : Int32) <<< (v8 &&& 31)) - 1) then (
      fX6_endBits_31 X  a0 w
    ) else (
      fX6_endBits_26 X  a0 w
    )
  )
def fX6_passRestart_59 (X : px_X)  (a0 : Nat) (w : px_W) : Option (px_W) :=
  (gI w a0 6 3).bind fun v19 =>
  (pV w a0 6 3 (.int (v19 + 2))).bind fun w20 =>
  (gO w20 a0 6).bind fun o21 =>
  (fX6_begin X w20 a0).bind fun q22 =>
  some q22
def fX6_passRestart_54 (X : px_X)  (a0 : Nat) (w : px_W) : Option (px_W) :=
  (pV w a0 6 6 (.int 5)).bind fun w23 =>
  fX6_passRestart_59 X  a0 w23
def fX6_passRestart (X : px_X) (w : px_W) (a0 : Nat) (a1 : Int32) : Option (px_W) :=
  (gO w a0 6).bind fun o24 =>
  (fX6_endBits X w a0).bind fun q25 =>
  (gI q25 a0 6 3).bind fun v26 =>
  (gR q25 a0 6 2).bind fun v27 =>
  (gI q25 v27 5 10).bind fun v28 =>
  if v28 < (v26 + 2) then (
    fX6_passRestart_54 X  a0 q25
  ) else (
    (gR q25 a0 6 0).bind fun v30 =>
    (gI q25 a0 6 3).bind fun v31 =>
    (gO q25 v30 1).bind fun o32 =>
    (fX1_at X q25 v30 v31).bind fun q33 =>
    if q33.1 = 255 then (
      (gR q33.2 a0 6 0).bind fun v35 =>
      (gI q33.2 a0 6 3).bind fun v36 =>
      (gO q33.2 v35 1).bind fun o37 =>
      (fX1_at X q33.2 v35 (v36 + 1)).bind fun q38 =>
      if q38.1 = a1 then (
        fX6_passRestart_59 X  a0 q38.2
      ) else (
        fX6_passRestart_54 X  a0 q38.2
      )
    ) else (
      fX6_passRestart_54 X  a0 q33.2
    )
  )
def fX6_takeByte_83 (X : px_X)  (a0 : Nat) (w : px_W) : Option (px_W) :=
  (pV w a0 6 6 (.int 1)).bind fun w23 =>
  some w23
def fX6_takeByte_109 (X : px_X)  (a0 : Nat) (s0 : Int32) (s1 : Int32) (s2 : Nat) (w : px_W) : Option (px_W) :=
  (pV w s2 6 3 (.int (s1 + s0))).bind fun w24 =>
  (pV w24 a0 6 5 (.int 8)).bind fun w25 =>
  some w25
def fX6_takeByte_89 (X : px_X)  (a0 : Nat) (w : px_W) : Option (px_W) :=
  (gI w a0 6 3).bind fun v26 =>
  (gI w a0 6 4).bind fun v27 =>
  if v27 = 255 then (
    fX6_takeByte_109 X  a0 2 v26 a0 w
  ) else (
    fX6_takeByte_109 X  a0 1 v26 a0 w
  )
def fX6_takeByte (X : px_X) (w : px_W) (a0 : Nat) : Option (px_W) :=
  (gI w a0 6 3).bind fun v29 =>
  (gR w a0 6 2).bind fun v30 =>
  (gI w v30 5 10).bind fun v31 =>
  if v29 < v31 then (
    (gR w a0 6 0).bind fun v33 =>
    (gR w v33 1 0).bind fun v34 =>
    (gI w a0 6 3).bind fun v35 =>
    (aN w 1 v34 v35).bind fun v36 =>
    (pV w a0 6 4 (.int (v36 &&& 255))).bind fun w37 =>
    (gI w37 a0 6 4).bind fun v38 =>
    if v38 = 255 then (
      (gI w37 a0 6 3).bind fun v40 =>
      (gR w37 a0 6 2).bind fun v41 =>
      (gI w37 v41 5 10).bind fun v42 =>
      if v42 ≤ (v40 + 1) then (
        fX6_takeByte_83 X  a0 w37
      ) else (
        (gR w37 a0 6 0).bind fun v44 =>
        (gR w37 v44 1 0).bind fun v45 =>
        (gI w37 a0 6 3).bind fun v46 =>
        (aN w37 1 v45 (v46 + 1)).bind fun v47 =>
        if v47 = 0 then (
          fX6_takeByte_89 X  a0 w37
        ) else (
          fX6_takeByte_83 X  a0 w37
        )
      )
    ) else (
      fX6_takeByte_89 X  a0 w37
    )
  ) else (
    (pV w a0 6 6 (.int 1)).bind fun w49 =>
    some w49
  )
def fX6_takeBit_11 (X : px_X)  (a0 : Nat) (w : px_W) : Option (Int32 × px_W) :=
  (gI w a0 6 6).bind fun v9 =>
  if v9 = 0 then (
    (gI w a0 6 5).bind fun v11 =>
    (pV w a0 6 5 (.int (v11 - 1))).bind fun w12 =>
    (gI w12 a0 6 4).bind fun v13 =>
    (gI w12 a0 6 5).bind fun v14 =>
    some ((v13 >>> (v14 &&& 31)) &&& 1, w12)
  ) else (
    some ((-1), w)
  )
def fX6_takeBit (X : px_X) (w : px_W) (a0 : Nat) : Option (Int32 × px_W) :=
  (gI w a0 6 5).bind fun v15 =>
  if v15 = 0 then (
    (gO w a0 6).bind fun o17 =>
    (fX6_takeByte X w a0).bind fun q18 =>
    fX6_takeBit_11 X  a0 q18
  ) else (
    fX6_takeBit_11 X  a0 w
  )
def fX10_begins (X : px_X) (w : px_W) (a0 : Nat) (a1 : Int32) (a2 : Int32) : Option (Int32 × px_W) :=
  (gI w a0 10 4).bind fun v5 =>
  if v5 ≤ 0 then (
    some (0, w)
  ) else (
    (gI w a0 10 4).bind fun v7 =>
    if v7 < a2 then (
      some (0, w)
    ) else (
      (gI w a0 10 5).bind fun v9 =>
      (gI w a0 10 4).bind fun v10 =>
      if (v9 >>> ((v10 - a2) &&& 31)) < a1 then (
        some (0, w)
      ) else (
        some (1, w)
      )
    )
  )
def fX10_symbolOf (X : px_X) (w : px_W) (a0 : Nat) (a1 : Int32) (a2 : Int32) : Option (Int32 × px_W) :=
  (gR w a0 10 1).bind fun v9 =>
  (aN w 0 v9 a2).bind fun v10 =>
  if (a1 - v10) < 0 then (
    some ((-1), w)
  ) else (
    (gR w a0 10 0).bind fun v12 =>
    (aN w 0 v12 a2).bind fun v13 =>
    if (a1 - v10) < v13 then (
      (gR w a0 10 3).bind fun v15 =>
      (gR w a0 10 2).bind fun v16 =>
      (aN w 0 v16 a2).bind fun v17 =>
      (aN w 0 v15 (v17 + (a1 - v10))).bind fun v18 =>
      some (v18, w)
    ) else (
      some ((-1), w)
    )
  )
def fX6_takeSymbol_62 (X : px_X)  (a0 : Nat) (w : px_W) : Option (Int32 × px_W) :=
  (pV w a0 6 6 (.int 2)).bind fun w9 =>
  some ((-1), w9)
def fX6_takeSymbol_4 (X : px_X)  : Nat → Nat → Nat → Int32 → Int32 → px_W → Option (Int32 × px_W)
  | 0, _, _, _, _, _ => none
  | m + 1, a0, a1, a2, a3, w =>
    if 16 ≤ a3 then (
      fX6_takeSymbol_62 X  a0 w
    ) else (
      (gO w a1 10).bind fun o11 =>
      (fX10_begins X w a1 a2 a3).bind fun q12 =>
      if q12.1 = 0 then (
        fX6_takeSymbol_62 X  a0 q12.2
      ) else (
        (gO q12.2 a0 6).bind fun o14 =>
        (fX6_takeBit X q12.2 a0).bind fun q15 =>
        (gI q15.2 a0 6 6).bind fun v16 =>
        if v16 = 0 then (
          (gO q15.2 a1 10).bind fun o18 =>
          (fX10_symbolOf X q15.2 a1 ((2 * a2) + q15.1) (a3 + 1)).bind fun q19 =>
          if q19.1 = ((-1)) then (
            fX6_takeSymbol_4 X  m a0 a1 ((2 * a2) + q15.1) (a3 + 1) q19.2
          ) else (
            some (q19.1, q19.2)
          )
        ) else (
          some ((-1), q15.2)
        )
      )
    )
def fX6_takeSymbol (X : px_X) (w : px_W) (a0 : Nat) (a1 : Nat) : Option (Int32 × px_W) :=
  fX6_takeSymbol_4 X  FU a0 a1 0 0 w
def fX6_takeBits_4 (X : px_X)  : Nat → Nat → Int32 → Int32 → Int32 → px_W → Option (Int32 × px_W)
  | 0, _, _, _, _, _ => none
  | m + 1, a0, a1, a2, a3, w =>
    if a1 ≤ a3 then (
      some (a2, w)
    ) else (
      (gI w a0 6 6).bind fun v5 =>
      if v5 = 0 then (
        (gO w a0 6).bind fun o7 =>
        (fX6_takeBit X w a0).bind fun q8 =>
        fX6_takeBits_4 X  m a0 a1 ((2 * a2) + q8.1) (a3 + 1) q8.2
      ) else (
        some (a2, w)
      )
    )
def fX6_takeBits (X : px_X) (w : px_W) (a0 : Nat) (a1 : Int32) : Option (Int32 × px_W) :=
  fX6_takeBits_4 X  FU a0 a1 0 0 w
def fX6_takeNumber (X : px_X) (w : px_W) (a0 : Nat) (a1 : Int32) : Option (Int32 × px_W) :=
  (gO w a0 6).bind fun o3 =>
  (fX6_takeBits X w a0 a1).bind fun q4 =>
  if a1 = 0 then (
    some (q4.1, q4.2)
  ) else (
    if (q4.1 >>> ((a1 - 1) &&& 31)) = 1 then (
      some (q4.1, q4.2)
    ) else (
      some ((q4.1 - ((1 : Int32) <<< (a1 &&& 31))) + 1, q4.2)
    )
  )
def fX6_setCoefficientOf_32 (X : px_X)  (a0 : Nat) (w : px_W) : Option (px_W) :=
  (pV w a0 6 6 (.int 4)).bind fun w6 =>
  some w6
def fX6_setCoefficientOf_29 (X : px_X)  (a0 : Nat) (a1 : Int32) (a2 : Int32) (a3 : Int32) (s0 : Int32) (s1 : Int32) (w : px_W) : Option (px_W) :=
  if s0 ≤ s1 then (
    (gR w a0 6 1).bind fun v8 =>
    (gR w v8 2 11).bind fun v9 =>
    (sN id w 0 v9 (a1 + a2) a3).bind fun w10 =>
    some w10
  ) else (
    fX6_setCoefficientOf_32 X  a0 w
  )
def fX6_setCoefficientOf (X : px_X) (w : px_W) (a0 : Nat) (a1 : Int32) (a2 : Int32) (a3 : Int32) : Option (px_W) :=
  (gI w a0 6 6).bind fun v11 =>
  if v11 = 0 then (
    if 1023 < a3 then (
      fX6_setCoefficientOf_32 X  a0 w
    ) else (
      if a2 = 0 then (
        fX6_setCoefficientOf_29 X  a0 a1 a2 a3 ((-1024)) a3 w
      ) else (
        fX6_setCoefficientOf_29 X  a0 a1 a2 a3 ((-1023)) a3 w
      )
    )
  ) else (
    some w
  )
def fX6_readDirect_66 (X : px_X)  (a0 : Nat) (a1 : Int32) (a2 : Int32) (a4 : Int32) (w : px_W) : Option (px_W) :=
  (gI w a0 6 6).bind fun v27 =>
  if v27 = 0 then (
    (gR w a0 6 8).bind fun v29 =>
    (aN w 0 v29 a2).bind fun v30 =>
    (gO w a0 6).bind fun o31 =>
    (fX6_takeNumber X w a0 a4).bind fun q32 =>
    (gR q32.2 a0 6 8).bind fun v33 =>
    (sN id q32.2 0 v33 a2 (v30 + q32.1)).bind fun w34 =>
    (gR w34 a0 6 2).bind fun v35 =>
    (gI w34 v35 5 4).bind fun v36 =>
    (gO w34 a0 6).bind fun o37 =>
    (fX6_setCoefficientOf X w34 a0 a1 0 ((v30 + q32.1) * ((1 : Int32) <<< (v36 &&& 31)))).bind fun q38 =>
    some q38
  ) else (
    some w
  )
def fX6_readDirect (X : px_X) (w : px_W) (a0 : Nat) (a1 : Int32) (a2 : Int32) (a3 : Nat) : Option (px_W) :=
  (gR w a0 6 2).bind fun v39 =>
  (gO w v39 5).bind fun o40 =>
  (fX5_isRefinement X w v39).bind fun q41 =>
  if q41.1 = 0 then (
    (gO q41.2 a0 6).bind fun o43 =>
    (fX6_takeSymbol X q41.2 a0 a3).bind fun q44 =>
    (gI q44.2 a0 6 6).bind fun v45 =>
    if v45 = 0 then (
      if q44.1 ≤ 11 then (
        fX6_readDirect_66 X  a0 a1 a2 q44.1 q44.2
      ) else (
        (pV q44.2 a0 6 6 (.int 3)).bind fun w48 =>
        fX6_readDirect_66 X  a0 a1 a2 q44.1 w48
      )
    ) else (
      fX6_readDirect_66 X  a0 a1 a2 q44.1 q44.2
    )
  ) else (
    (gO q41.2 a0 6).bind fun o49 =>
    (fX6_takeBit X q41.2 a0).bind fun q50 =>
    if q50.1 = 1 then (
      (gR q50.2 a0 6 1).bind fun v52 =>
      (gR q50.2 v52 2 11).bind fun v53 =>
      (aN q50.2 0 v53 a1).bind fun v54 =>
      (gR q50.2 a0 6 2).bind fun v55 =>
      (gI q50.2 v55 5 4).bind fun v56 =>
      (sN id q50.2 0 v53 a1 (v54 ||| ((1 : Int32) <<< (v56 &&& 31)))).bind fun w57 =>
      some w57
    ) else (
      some q50.2
    )
  )
def fX6_startRun (X : px_X) (w : px_W) (a0 : Nat) (a1 : Int32) : Option (px_W) :=
  (gO w a0 6).bind fun o4 =>
  (fX6_takeBits X w a0 a1).bind fun q5 =>
  (pV q5.2 a0 6 7 (.int (((1 : Int32) <<< (a1 &&& 31)) + q5.1))).bind fun w6 =>
  some w6
def fX6_refineOne_58 (X : px_X)  (s0 : Int32) (s1 : Int32) (s2 : Nat) (w : px_W) : Option (px_W) :=
  (sN id w 0 s2 s1 s0).bind fun w11 =>
  some w11
def fX6_refineOne (X : px_X) (w : px_W) (a0 : Nat) (a1 : Int32) : Option (px_W) :=
  (gR w a0 6 1).bind fun v12 =>
  (gR w v12 2 11).bind fun v13 =>
  (aN w 0 v13 a1).bind fun v14 =>
  (gR w a0 6 2).bind fun v15 =>
  (gI w v15 5 4).bind fun v16 =>
  (gO w a0 6).bind fun o17 =>
  (fX6_takeBit X w a0).bind fun q18 =>
  if q18.1 = 1 then (
    if ((mabs v14) &&& ((1 : Int32) <<< (v16 &&& 31))) = 0 then (
      (gR q18.2 a0 6 1).bind fun v21 =>
      (gR q18.2 v21 2 11).bind fun v22 =>
      if v14 ≤ 0 then (
        fX6_refineOne_58 X  (v14 - ((1 : Int32) <<< (v16 &&& 31))) a1 v22 q18.2
      ) else (
        fX6_refineOne_58 X  (v14 + ((1 : Int32) <<< (v16 &&& 31))) a1 v22 q18.2
      )
    ) else (
      some q18.2
    )
  ) else (
    some q18.2
  )
def fX6_refineUpTo_62 (X : px_X) (k6 : Nat → Int32 → Int32 → Int32 → px_W → Option (Int32 × px_W)) (a0 : Nat) (a1 : Int32) (a4 : Int32) (a5 : Int32) (w : px_W) : Option (Int32 × px_W) :=
  k6 a0 a1 a4 (a5 + 1) w
def fX6_refineUpTo_6 (X : px_X)  : Nat → Nat → Int32 → Int32 → Int32 → px_W → Option (Int32 × px_W)
  | 0, _, _, _, _, _ => none
  | m + 1, a0, a1, a4, a5, w =>
    (gR w a0 6 2).bind fun v9 =>
    (gI w v9 5 2).bind fun v10 =>
    if v10 < a5 then (
      some (a5, w)
    ) else (
      (gI w a0 6 6).bind fun v12 =>
      if v12 = 0 then (
        (gR w a0 6 1).bind fun v14 =>
        (gR w v14 2 11).bind fun v15 =>
        (aN w 0 v15 (a1 + a5)).bind fun v16 =>
        if v16 = 0 then (
          if a4 = 0 then (
            some (a5, w)
          ) else (
            fX6_refineUpTo_62 X (fX6_refineUpTo_6 X  m) a0 a1 (a4 + (-1)) a5 w
          )
        ) else (
          (gO w a0 6).bind fun o19 =>
          (fX6_refineOne X w a0 (a1 + a5)).bind fun q20 =>
          fX6_refineUpTo_62 X (fX6_refineUpTo_6 X  m) a0 a1 a4 a5 q20
        )
      ) else (
        some (a5, w)
      )
    )
def fX6_refineUpTo (X : px_X) (w : px_W) (a0 : Nat) (a1 : Int32) (a2 : Int32) (a3 : Int32) : Option (Int32 × px_W) :=
  fX6_refineUpTo_6 X  FU a0 a1 a3 a2 w
def fX6_refineOthers_194 (X : px_X)  (a0 : Nat) (a1 : Int32) (a3 : Int32) (w : px_W) : Option (px_W) :=
  (gI w a0 6 7).bind fun v37 =>
  if v37 ≤ 0 then (
    some w
  ) else (
    (gI w a0 6 6).bind fun v39 =>
    if v39 = 0 then (
      (gO w a0 6).bind fun o41 =>
      (fX6_refineUpTo X w a0 a1 a3 64).bind fun q42 =>
      (gI q42.2 a0 6 7).bind fun v43 =>
      (pV q42.2 a0 6 7 (.int (v43 - 1))).bind fun w44 =>
      some w44
    ) else (
      some w
    )
  )
def fX6_refineOthers_85 (X : px_X)  (a0 : Nat) (a1 : Int32) (a3 : Int32) (a5 : Int32) (w : px_W) : Option (px_W) :=
  (gO w a0 6).bind fun o45 =>
  (fX6_startRun X w a0 a5).bind fun q46 =>
  fX6_refineOthers_194 X  a0 a1 a3 q46
def fX6_refineOthers_167 (X : px_X) (k8 : Nat → Int32 → Nat → Int32 → px_W → Option (px_W)) (a0 : Nat) (a1 : Int32) (a2 : Nat) (a3 : Int32) (a7 : Int32) (w : px_W) : Option (px_W) :=
  (gI w a0 6 6).bind fun v47 =>
  if v47 = 0 then (
    (gR w a0 6 1).bind fun v49 =>
    (gR w v49 2 11).bind fun v50 =>
    (sN id w 0 v50 (a1 + a3) a7).bind fun w51 =>
    k8 a0 a1 a2 (a3 + 1) w51
  ) else (
    some w
  )
def fX6_refineOthers_133 (X : px_X) (k8 : Nat → Int32 → Nat → Int32 → px_W → Option (px_W)) (a0 : Nat) (a1 : Int32) (a2 : Nat) (a3 : Int32) (a5 : Int32) (s0 : Int32) (w : px_W) : Option (px_W) :=
  (gO w a0 6).bind fun o52 =>
  (fX6_refineUpTo X w a0 a1 a3 a5).bind fun q53 =>
  (gI q53.2 a0 6 6).bind fun v54 =>
  if v54 = 0 then (
    (gR q53.2 a0 6 2).bind fun v56 =>
    (gI q53.2 v56 5 2).bind fun v57 =>
    if q53.1 ≤ v57 then (
      fX6_refineOthers_167 X k8 a0 a1 a2 q53.1 s0 q53.2
    ) else (
      (pV q53.2 a0 6 6 (.int 3)).bind fun w59 =>
      fX6_refineOthers_167 X k8 a0 a1 a2 q53.1 s0 w59
    )
  ) else (
    fX6_refineOthers_167 X k8 a0 a1 a2 q53.1 s0 q53.2
  )
def fX6_refineOthers_94 (X : px_X) (k8 : Nat → Int32 → Nat → Int32 → px_W → Option (px_W)) (a0 : Nat) (a1 : Int32) (a2 : Nat) (a3 : Int32) (a5 : Int32) (a6 : Int32) (w : px_W) : Option (px_W) :=
  if a6 = 0 then (
    fX6_refineOthers_133 X k8 a0 a1 a2 a3 a5 0 w
  ) else (
    (gO w a0 6).bind fun o61 =>
    (fX6_takeBit X w a0).bind fun q62 =>
    if q62.1 = 1 then (
      (gR q62.2 a0 6 2).bind fun v66 =>
      (gI q62.2 v66 5 4).bind fun v67 =>
      fX6_refineOthers_133 X k8 a0 a1 a2 a3 a5 ((1 : Int32) <<< (v67 &&& 31)) q62.2
    ) else (
      (gR q62.2 a0 6 2).bind fun v64 =>
      (gI q62.2 v64 5 4).bind fun v65 =>
      fX6_refineOthers_133 X k8 a0 a1 a2 a3 a5 (-((1 : Int32) <<< (v65 &&& 31))) q62.2
    )
  )
