def fX11_aboutPicture (X : px_X) (w : px_W) (a0 : Nat) (a1 : Int32) : Option (Int32 × px_W) :=
  (gI w a0 11 3).bind fun v18 =>
  if v18 = 0 then (
    some ((-1), w)
  ) else (
    if a1 = 0 then (
      (gR w a0 11 4).bind fun v21 =>
      (gI w v21 2 0).bind fun v22 =>
      some (v22, w)
    ) else
    if a1 = 1 then (
      (gR w a0 11 4).bind fun v24 =>
      (gI w v24 2 1).bind fun v25 =>
      some (v25, w)
    ) else
    if a1 = 2 then (
      (gR w a0 11 4).bind fun v27 =>
      (gI w v27 2 2).bind fun v28 =>
      some (v28, w)
    ) else
    if a1 = 3 then (
      (gR w a0 11 4).bind fun v30 =>
      (gI w v30 2 5).bind fun v31 =>
      some (v31, w)
    ) else
    if a1 = 4 then (
      (gR w a0 11 4).bind fun v33 =>
      (gO w v33 2).bind fun o34 =>
      (fX2_countOthersThanZero X w v33).bind fun q35 =>
      some (q35.1, q35.2)
    ) else
    if a1 = 5 then (
      (gR w a0 11 4).bind fun v37 =>
      (gO w v37 2).bind fun o38 =>
      (fX2_sumOfAmounts X w v37).bind fun q39 =>
      some (q39.1, q39.2)
    ) else
    (
      (gO w a0 11).bind fun o40 =>
      (fX11_aboutComponent X w a0 (a1 - 8)).bind fun q41 =>
      some (q41.1, q41.2)
    )
  )
def fX11_canvasSize (X : px_X) (w : px_W) (a0 : Nat) (a1 : Int32) (a2 : Int32) (a3 : Int32) : Option (Int32 × px_W) :=
  if a1 < 0 then (
    some (0, w)
  ) else (
    if 3 < a1 then (
      some (0, w)
    ) else (
      if a2 < 1 then (
        some (0, w)
      ) else (
        if 32 < a2 then (
          some (0, w)
        ) else (
          if a3 < 1 then (
            some (0, w)
          ) else (
            if a3 ≤ 32 then (
              (gR w a0 11 6).bind fun v11 =>
              (aQ w 6 v11 a1).bind fun v12 =>
              (gO w v12 3).bind fun o13 =>
              (fX3_setSize X w v12 a2 a3).bind fun q14 =>
              some (1, q14)
            ) else (
              some (0, w)
            )
          )
        )
      )
    )
  )
def fX11_canvasRow_66 (X : px_X)  : Nat → Nat → Int32 → Int32 → Int32 → Int64 → Int32 → Int32 → px_W → Option (Int32 × px_W)
  | 0, _, _, _, _, _, _, _, _ => none
  | m + 1, a0, a1, a2, a3, a4, a6, a7, w =>
    if a6 ≤ a7 then (
      some (1, w)
    ) else (
      (gR w a0 11 6).bind fun v15 =>
      (aQ w 6 v15 a1).bind fun v16 =>
      (gR w v16 3 2).bind fun v17 =>
      (sN id w 0 v17 (((32 * a3) + a2) + a7) (((a4 >>> ((56 - (8 * a7)).toInt64 &&& 63)).toInt32) &&& 255)).bind fun w18 =>
      fX11_canvasRow_66 X  m a0 a1 a2 a3 a4 a6 (a7 + 1) w18
    )
def fX11_canvasRow (X : px_X) (w : px_W) (a0 : Nat) (a1 : Int32) (a2 : Int32) (a3 : Int32) (a4 : Int64) : Option (Int32 × px_W) :=
  if a1 < 0 then (
    some (0, w)
  ) else (
    if 3 < a1 then (
      some (0, w)
    ) else (
      if a2 < 0 then (
        some (0, w)
      ) else (
        (gR w a0 11 6).bind fun v22 =>
        (aQ w 6 v22 a1).bind fun v23 =>
        (gI w v23 3 0).bind fun v24 =>
        if v24 ≤ a2 then (
          some (0, w)
        ) else (
          if a3 < 0 then (
            some (0, w)
          ) else (
            (gR w a0 11 6).bind fun v27 =>
            (aQ w 6 v27 a1).bind fun v28 =>
            (gI w v28 3 1).bind fun v29 =>
            if a3 < v29 then (
              (gR w a0 11 6).bind fun v31 =>
              (aQ w 6 v31 a1).bind fun v32 =>
              (gI w v32 3 0).bind fun v33 =>
              fX11_canvasRow_66 X  FU a0 a1 a2 a3 a4 (mmin 8 (v33 - a2)) 0 w
            ) else (
              some (0, w)
            )
          )
        )
      )
    )
  )
def fX11_canvasEight_119 (X : px_X) (k53 : Nat → Int32 → Int32 → Int32 → Int64 → Int32 → px_W → Option (Int64 × px_W)) (a0 : Nat) (a1 : Int32) (a2 : Int32) (a3 : Int32) (a6 : Int32) (s0 : Int32) (s1 : Int64) (w : px_W) : Option (Int64 × px_W) :=
  k53 a0 a1 a2 a3 (s1 ||| s0.toInt64) (a6 + 1) w
def fX11_canvasEight_86 (X : px_X) (k53 : Nat → Int32 → Int32 → Int32 → Int64 → Int32 → px_W → Option (Int64 × px_W)) (a0 : Nat) (a1 : Int32) (a2 : Int32) (a3 : Int32) (a4 : Int64) (a6 : Int32) (s0 : Int32) (w : px_W) : Option (Int64 × px_W) :=
  if s0 = 0 then (
    fX11_canvasEight_119 X k53 a0 a1 a2 a3 a6 0 (a4 <<< ((8 : Int32).toInt64 &&& 63)) w
  ) else (
    (gR w a0 11 6).bind fun v15 =>
    (aQ w 6 v15 a1).bind fun v16 =>
    (gR w v16 3 2).bind fun v17 =>
    (aN w 0 v17 ((32 * a3) + a6)).bind fun v18 =>
    fX11_canvasEight_119 X k53 a0 a1 a2 a3 a6 v18 (a4 <<< ((8 : Int32).toInt64 &&& 63)) w
  )
def fX11_canvasEight_85 (X : px_X) (k53 : Nat → Int32 → Int32 → Int32 → Int64 → Int32 → px_W → Option (Int64 × px_W)) (a0 : Nat) (a1 : Int32) (a2 : Int32) (a3 : Int32) (a4 : Int64) (a6 : Int32) (w : px_W) : Option (Int64 × px_W) :=
  fX11_canvasEight_86 X k53 a0 a1 a2 a3 a4 a6 0 w
def fX11_canvasEight_53 (X : px_X)  : Nat → Nat → Int32 → Int32 → Int32 → Int64 → Int32 → px_W → Option (Int64 × px_W)
  | 0, _, _, _, _, _, _, _ => none
  | m + 1, a0, a1, a2, a3, a4, a6, w =>
    if (a2 + 8) ≤ a6 then (
      some (a4, w)
    ) else (
      if a6 < 0 then (
        fX11_canvasEight_85 X (fX11_canvasEight_53 X  m) a0 a1 a2 a3 a4 a6 w
      ) else (
        (gR w a0 11 6).bind fun v21 =>
        (aQ w 6 v21 a1).bind fun v22 =>
        (gI w v22 3 0).bind fun v23 =>
        if v23 ≤ a6 then (
          fX11_canvasEight_85 X (fX11_canvasEight_53 X  m) a0 a1 a2 a3 a4 a6 w
        ) else (
          fX11_canvasEight_86 X (fX11_canvasEight_53 X  m) a0 a1 a2 a3 a4 a6 1 w
        )
      )
    )
def fX11_canvasEight (X : px_X) (w : px_W) (a0 : Nat) (a1 : Int32) (a2 : Int32) (a3 : Int32) : Option (Int64 × px_W) :=
  if a1 < 0 then (
    some (0, w)
  ) else (
    if 3 < a1 then (
      some (0, w)
    ) else (
      if a2 < ((-7)) then (
        some (0, w)
      ) else (
        (gR w a0 11 6).bind fun v28 =>
        (aQ w 6 v28 a1).bind fun v29 =>
        (gI w v29 3 0).bind fun v30 =>
        if v30 ≤ a2 then (
          some (0, w)
        ) else (
          if a3 < 0 then (
            some (0, w)
          ) else (
            (gR w a0 11 6).bind fun v33 =>
            (aQ w 6 v33 a1).bind fun v34 =>
            (gI w v34 3 1).bind fun v35 =>
            if a3 < v35 then (
              fX11_canvasEight_53 X  FU a0 a1 a2 a3 0 a2 w
            ) else (
              some (0, w)
            )
          )
        )
      )
    )
  )
def fX11_limit (X : px_X) (w : px_W) (a0 : Int32) : Option (Int32 × px_W) :=
  some (mmax 0 (mmin 255 a0), w)
def fX11_setMix (X : px_X) (w : px_W) (a0 : Nat) (a1 : Int32) (a2 : Int32) (a3 : Int32) (a4 : Int32) : Option (px_W) :=
  (gR w a0 11 6).bind fun v13 =>
  (aQ w 6 v13 0).bind fun v14 =>
  (gR w v14 3 2).bind fun v15 =>
  (sN id w 0 v15 a1 a2).bind fun w16 =>
  (gR w16 a0 11 6).bind fun v17 =>
  (aQ w16 6 v17 1).bind fun v18 =>
  (gR w16 v18 3 2).bind fun v19 =>
  (sN id w16 0 v19 a1 a3).bind fun w20 =>
  (gR w20 a0 11 6).bind fun v21 =>
  (aQ w20 6 v21 2).bind fun v22 =>
  (gR w20 v22 3 2).bind fun v23 =>
  (sN id w20 0 v23 a1 a4).bind fun w24 =>
  some w24
def fX11_openMix (X : px_X) (w : px_W) (a0 : Nat) (a1 : Int32) : Option (px_W) :=
  (gR w a0 11 6).bind fun v18 =>
  (aQ w 6 v18 0).bind fun v19 =>
  (gR w v19 3 2).bind fun v20 =>
  (aN w 0 v20 a1).bind fun v21 =>
  (gR w a0 11 6).bind fun v22 =>
  (aQ w 6 v22 1).bind fun v23 =>
  (gR w v23 3 2).bind fun v24 =>
  (aN w 0 v24 a1).bind fun v25 =>
  (gR w a0 11 6).bind fun v26 =>
  (aQ w 6 v26 2).bind fun v27 =>
  (gR w v27 3 2).bind fun v28 =>
  (aN w 0 v28 a1).bind fun v29 =>
  (fX11_limit X w (v21 + (((91881 * (v29 - 128)) + 32768) >>> (16 &&& 31)))).bind fun q30 =>
  (fX11_limit X q30.2 (v21 + ((((((-22554)) * (v25 - 128)) - (46802 * (v29 - 128))) + 32768) >>> (16 &&& 31)))).bind fun q31 =>
  (fX11_limit X q31.2 (v21 + (((116130 * (v25 - 128)) + 32768) >>> (16 &&& 31)))).bind fun q32 =>
  (gO q32.2 a0 11).bind fun o33 =>
  (fX11_setMix X q32.2 a0 a1 q30.1 q31.1 q32.1).bind fun q34 =>
  some q34
def fX11_greyAt (X : px_X) (w : px_W) (a0 : Nat) (a1 : Int32) : Option (Int32 × px_W) :=
  (gR w a0 11 6).bind fun v13 =>
  (aQ w 6 v13 0).bind fun v14 =>
  (gR w v14 3 2).bind fun v15 =>
  (aN w 0 v15 a1).bind fun v16 =>
  (gR w a0 11 6).bind fun v17 =>
  (aQ w 6 v17 1).bind fun v18 =>
  (gR w v18 3 2).bind fun v19 =>
  (aN w 0 v19 a1).bind fun v20 =>
  (gR w a0 11 6).bind fun v21 =>
  (aQ w 6 v21 2).bind fun v22 =>
  (gR w v22 3 2).bind fun v23 =>
  (aN w 0 v23 a1).bind fun v24 =>
  some (((((19595 * v16) + (38470 * v20)) + (7471 * v24)) + 32768) >>> (16 &&& 31), w)
def fX11_closeMix (X : px_X) (w : px_W) (a0 : Nat) (a1 : Int32) : Option (px_W) :=
  (gR w a0 11 6).bind fun v17 =>
  (aQ w 6 v17 0).bind fun v18 =>
  (gR w v18 3 2).bind fun v19 =>
  (aN w 0 v19 a1).bind fun v20 =>
  (gR w a0 11 6).bind fun v21 =>
  (aQ w 6 v21 1).bind fun v22 =>
  (gR w v22 3 2).bind fun v23 =>
  (aN w 0 v23 a1).bind fun v24 =>
  (gR w a0 11 6).bind fun v25 =>
  (aQ w 6 v25 2).bind fun v26 =>
  (gR w v26 3 2).bind fun v27 =>
  (aN w 0 v27 a1).bind fun v28 =>
  (gO w a0 11).bind fun o29 =>
  (fX11_greyAt X w a0 a1).bind fun q30 =>
  (gO q30.2 a0 11).bind fun o31 =>
  (fX11_setMix X q30.2 a0 a1 q30.1 (((((((-11059)) * v20) - (21709 * v24)) + (32768 * v28)) + 8421375) >>> (16 &&& 31)) (((((32768 * v20) - (27439 * v24)) - (5329 * v28)) + 8421375) >>> (16 &&& 31))).bind fun q32 =>
  some q32
def fX11_invertMix (X : px_X) (w : px_W) (a0 : Nat) (a1 : Int32) : Option (px_W) :=
  (gR w a0 11 6).bind fun v15 =>
  (aQ w 6 v15 0).bind fun v16 =>
  (gR w v16 3 2).bind fun v17 =>
  (aN w 0 v17 a1).bind fun v18 =>
  (gR w a0 11 6).bind fun v19 =>
  (aQ w 6 v19 1).bind fun v20 =>
  (gR w v20 3 2).bind fun v21 =>
  (aN w 0 v21 a1).bind fun v22 =>
  (gR w a0 11 6).bind fun v23 =>
  (aQ w 6 v23 2).bind fun v24 =>
  (gR w v24 3 2).bind fun v25 =>
  (aN w 0 v25 a1).bind fun v26 =>
  (gO w a0 11).bind fun o27 =>
  (fX11_setMix X w a0 a1 (255 - v18) (255 - v22) (255 - v26)).bind fun q28 =>
  some q28
def fX11_darkenMix (X : px_X) (w : px_W) (a0 : Nat) (a1 : Int32) : Option (px_W) :=
  (gR w a0 11 6).bind fun v22 =>
  (aQ w 6 v22 3).bind fun v23 =>
  (gR w v23 3 2).bind fun v24 =>
  (aN w 0 v24 a1).bind fun v25 =>
  (gR w a0 11 6).bind fun v26 =>
  (aQ w 6 v26 0).bind fun v27 =>
  (gR w v27 3 2).bind fun v28 =>
  (aN w 0 v28 a1).bind fun v29 =>
  (dI ((v29 * (255 - v25)) + 127) 255).bind fun v30 =>
  (gR w a0 11 6).bind fun v31 =>
  (aQ w 6 v31 1).bind fun v32 =>
  (gR w v32 3 2).bind fun v33 =>
  (aN w 0 v33 a1).bind fun v34 =>
  (dI ((v34 * (255 - v25)) + 127) 255).bind fun v35 =>
  (gR w a0 11 6).bind fun v36 =>
  (aQ w 6 v36 2).bind fun v37 =>
  (gR w v37 3 2).bind fun v38 =>
  (aN w 0 v38 a1).bind fun v39 =>
  (dI ((v39 * (255 - v25)) + 127) 255).bind fun v40 =>
  (gO w a0 11).bind fun o41 =>
  (fX11_setMix X w a0 a1 v30 v35 v40).bind fun q42 =>
  some q42
def fX11_mixPlace (X : px_X) (w : px_W) (a0 : Nat) (a1 : Int32) (a2 : Int32) : Option (px_W) :=
  if a1 = 0 then (
    (gO w a0 11).bind fun o22 =>
    (fX11_openMix X w a0 a2).bind fun q23 =>
    some q23
  ) else
  if a1 = 1 then (
    (gO w a0 11).bind fun o25 =>
    (fX11_closeMix X w a0 a2).bind fun q26 =>
    some q26
  ) else
  if a1 = 2 then (
    (gO w a0 11).bind fun o28 =>
    (fX11_invertMix X w a0 a2).bind fun q29 =>
    some q29
  ) else
  if a1 = 3 then (
    (gO w a0 11).bind fun o31 =>
    (fX11_darkenMix X w a0 a2).bind fun q32 =>
    some q32
  ) else
  if a1 = 4 then (
    (gO w a0 11).bind fun o34 =>
    (fX11_greyAt X w a0 a2).bind fun q35 =>
    (gO q35.2 a0 11).bind fun o36 =>
    (fX11_setMix X q35.2 a0 a2 q35.1 q35.1 q35.1).bind fun q37 =>
    some q37
  ) else
  if a1 = 5 then (
    (gO w a0 11).bind fun o39 =>
    (fX11_openMix X w a0 a2).bind fun q40 =>
    (gO q40 a0 11).bind fun o41 =>
    (fX11_invertMix X q40 a0 a2).bind fun q42 =>
    some q42
  ) else
  (
    (gO w a0 11).bind fun o43 =>
    (fX11_invertMix X w a0 a2).bind fun q44 =>
    (gO q44 a0 11).bind fun o45 =>
    (fX11_closeMix X q44 a0 a2).bind fun q46 =>
    some q46
  )
def fX11_mixCanvas_118 (X : px_X) (k84 : Nat → Int32 → Int32 → Int32 → Int32 → px_W → Option (Int32 × px_W)) (a0 : Nat) (a1 : Int32) (a2 : Int32) (a3 : Int32) (a4 : Int32) (w : px_W) : Option (Int32 × px_W) :=
  k84 a0 a1 a2 a3 (a4 + 1) w
def fX11_mixCanvas_93 (X : px_X) (k84 : Nat → Int32 → Int32 → Int32 → Int32 → px_W → Option (Int32 × px_W)) : Nat → Nat → Int32 → Int32 → Int32 → Int32 → Int32 → px_W → Option (Int32 × px_W)
  | 0, _, _, _, _, _, _, _ => none
  | m + 1, a0, a1, a2, a3, a4, a5, w =>
    if a2 ≤ a5 then (
      fX11_mixCanvas_118 X k84 a0 a1 a2 a3 a4 w
    ) else (
      (gO w a0 11).bind fun o22 =>
      (fX11_mixPlace X w a0 a1 ((32 * a4) + a5)).bind fun q23 =>
      fX11_mixCanvas_93 X k84 m a0 a1 a2 a3 a4 (a5 + 1) q23
    )
def fX11_mixCanvas_84 (X : px_X)  : Nat → Nat → Int32 → Int32 → Int32 → Int32 → px_W → Option (Int32 × px_W)
  | 0, _, _, _, _, _, _ => none
  | m + 1, a0, a1, a2, a3, a4, w =>
    if a3 ≤ a4 then (
      some (1, w)
    ) else (
      fX11_mixCanvas_93 X (fX11_mixCanvas_84 X  m) FU a0 a1 a2 a3 a4 0 w
    )
def fX11_mixCanvas_81 (X : px_X)  (a0 : Nat) (a1 : Int32) (a2 : Int32) (a3 : Int32) (w : px_W) : Option (Int32 × px_W) :=
  fX11_mixCanvas_84 X  FU a0 a1 a2 a3 0 w
def fX11_mixCanvas (X : px_X) (w : px_W) (a0 : Nat) (a1 : Int32) : Option (Int32 × px_W) :=
  if a1 < 0 then (
    some (0, w)
  ) else (
    if a1 ≤ 6 then (
      (gR w a0 11 6).bind fun v27 =>
      (aQ w 6 v27 0).bind fun v28 =>
      (gI w v28 3 0).bind fun v29 =>
      (gR w a0 11 6).bind fun v30 =>
      (aQ w 6 v30 0).bind fun v31 =>
      (gI w v31 3 1).bind fun v32 =>
      (gR w a0 11 6).bind fun v33 =>
      (aQ w 6 v33 1).bind fun v34 =>
      (gO w v34 3).bind fun o35 =>
      (fX3_isOfSize X w v34 v29 v32).bind fun q36 =>
      if q36.1 = 0 then (
        some (0, q36.2)
      ) else (
        (gR q36.2 a0 11 6).bind fun v38 =>
        (aQ q36.2 6 v38 2).bind fun v39 =>
        (gO q36.2 v39 3).bind fun o40 =>
        (fX3_isOfSize X q36.2 v39 v29 v32).bind fun q41 =>
        if q41.1 = 0 then (
          some (0, q41.2)
        ) else (
          if a1 = 3 then (
            (gR q41.2 a0 11 6).bind fun v44 =>
            (aQ q41.2 6 v44 3).bind fun v45 =>
            (gO q41.2 v45 3).bind fun o46 =>
            (fX3_isOfSize X q41.2 v45 v29 v32).bind fun q47 =>
            if q47.1 = 0 then (
              some (0, q47.2)
            ) else (
              fX11_mixCanvas_81 X  a0 a1 v29 v32 q47.2
            )
          ) else (
            fX11_mixCanvas_81 X  a0 a1 v29 v32 q41.2
          )
        )
      )
    ) else (
      some (0, w)
    )
  )
def fX11_statusOf (X : px_X) (w : px_W) (a0 : Nat) (a1 : Int32) : Option (Int32 × px_W) :=
  if a1 = 0 then (
    (gR w a0 11 0).bind fun v17 =>
    (gI w v17 1 1).bind fun v18 =>
    some (v18, w)
  ) else
  if a1 = 1 then (
    (gI w a0 11 13).bind fun v20 =>
    some (v20, w)
  ) else
  if a1 = 2 then (
    (gI w a0 11 14).bind fun v22 =>
    some (v22, w)
  ) else
  if a1 = 3 then (
    (gR w a0 11 1).bind fun v24 =>
    (gI w v24 1 1).bind fun v25 =>
    some (v25, w)
  ) else
  if a1 = 4 then (
    (gI w a0 11 15).bind fun v27 =>
    some (v27, w)
  ) else
  if a1 = 5 then (
    (gI w a0 11 16).bind fun v29 =>
    some (v29, w)
  ) else
  if a1 = 6 then (
    (gI w a0 11 17).bind fun v31 =>
    some (v31, w)
  ) else
  (
    if a1 < 8 then (
      some ((-1), w)
    ) else (
      if a1 ≤ 15 then (
        (gR w a0 11 6).bind fun v34 =>
        (dI (a1 - 8) 2).bind fun v35 =>
        (aQ w 6 v34 v35).bind fun v36 =>
        (rI a1 2).bind fun v37 =>
        if v37 = 0 then (
          (gI w v36 3 0).bind fun v40 =>
          some (v40, w)
        ) else (
          (gI w v36 3 1).bind fun v39 =>
          some (v39, w)
        )
      ) else (
        some ((-1), w)
      )
    )
  )
def fX12_init (X : px_X) (w : px_W) (a0 : Nat) : Option (px_W) :=
  (nA w 0 17 (.inl (fun _ => 0))).bind fun q15 =>
  (pV q15.2 a0 12 0 (.ref q15.1)).bind fun w16 =>
  (nA w16 0 256 (.inl (fun _ => 0))).bind fun q17 =>
  (pV q17.2 a0 12 1 (.ref q17.1)).bind fun w18 =>
  (nA w18 0 256 (.inl (fun _ => 0))).bind fun q19 =>
  (pV q19.2 a0 12 3 (.ref q19.1)).bind fun w20 =>
  (nA w20 0 257 (.inl (fun _ => 0))).bind fun q21 =>
  (pV q21.2 a0 12 5 (.ref q21.1)).bind fun w22 =>
  (nA w22 0 257 (.inl (fun _ => 0))).bind fun q23 =>
  (pV q23.2 a0 12 6 (.ref q23.1)).bind fun w24 =>
  (nA w24 0 257 (.inl (fun _ => 0))).bind fun q25 =>
  (pV q25.2 a0 12 7 (.ref q25.1)).bind fun w26 =>
  (nA w26 0 300 (.inl (fun _ => 0))).bind fun q27 =>
  (pV q27.2 a0 12 8 (.ref q27.1)).bind fun w28 =>
  some w28
def fX12_least_54 (X : px_X) (k4 : Nat → Int32 → Int32 → Int32 → px_W → Option (Int32 × px_W)) (a0 : Nat) (a1 : Int32) (a2 : Int32) (a3 : Int32) (w : px_W) : Option (Int32 × px_W) :=
  k4 a0 a1 a2 (a3 + 1) w
def fX12_least_52 (X : px_X) (k4 : Nat → Int32 → Int32 → Int32 → px_W → Option (Int32 × px_W)) (a0 : Nat) (a1 : Int32) (a3 : Int32) (w : px_W) : Option (Int32 × px_W) :=
  fX12_least_54 X k4 a0 a1 a3 a3 w
def fX12_least_48 (X : px_X) (k4 : Nat → Int32 → Int32 → Int32 → px_W → Option (Int32 × px_W)) (a0 : Nat) (a1 : Int32) (a2 : Int32) (a3 : Int32) (s0 : Int32) (s1 : Nat) (s2 : Int32) (w : px_W) : Option (Int32 × px_W) :=
  (aN w 0 s1 s0).bind fun v7 =>
  if v7 < s2 then (
    fX12_least_54 X k4 a0 a1 a2 a3 w
  ) else (
    fX12_least_52 X k4 a0 a1 a3 w
  )
def fX12_least_4 (X : px_X)  : Nat → Nat → Int32 → Int32 → Int32 → px_W → Option (Int32 × px_W)
  | 0, _, _, _, _, _ => none
  | m + 1, a0, a1, a2, a3, w =>
    if 256 < a3 then (
      some (a2, w)
    ) else (
      if a3 = a1 then (
        fX12_least_54 X (fX12_least_4 X  m) a0 a1 a2 a3 w
      ) else (
        (gR w a0 12 5).bind fun v11 =>
        (aN w 0 v11 a3).bind fun v12 =>
        if v12 ≤ 0 then (
          fX12_least_54 X (fX12_least_4 X  m) a0 a1 a2 a3 w
        ) else (
          if a2 < 0 then (
            fX12_least_52 X (fX12_least_4 X  m) a0 a1 a3 w
          ) else (
            (gR w a0 12 5).bind fun v15 =>
            (aN w 0 v15 a3).bind fun v16 =>
            (gR w a0 12 5).bind fun v17 =>
            if 0 ≤ a2 then (
              fX12_least_48 X (fX12_least_4 X  m) a0 a1 a2 a3 a2 v17 v16 w
            ) else (
              fX12_least_48 X (fX12_least_4 X  m) a0 a1 a2 a3 0 v17 v16 w
            )
          )
        )
      )
    )
def fX12_least (X : px_X) (w : px_W) (a0 : Nat) (a1 : Int32) : Option (Int32 × px_W) :=
  fX12_least_4 X  FU a0 a1 ((-1)) 0 w
def fX12_join_120 (X : px_X) (k64 : Nat → Int32 → Int32 → px_W → Option (px_W)) (a0 : Nat) (a1 : Int32) (a2 : Int32) (w : px_W) : Option (px_W) :=
  (gR w a0 12 5).bind fun v33 =>
  (aN w 0 v33 a1).bind fun v34 =>
  (gR w a0 12 5).bind fun v35 =>
  (aN w 0 v35 a2).bind fun v36 =>
  (sN id w 0 v33 a1 (v34 + v36)).bind fun w37 =>
  (gR w37 a0 12 5).bind fun v38 =>
  (sN id w37 0 v38 a2 0).bind fun w39 =>
  (gO w39 a0 12).bind fun o40 =>
  (fX12_least X w39 a0 ((-1))).bind fun q41 =>
  (gO q41.2 a0 12).bind fun o42 =>
  (fX12_least X q41.2 a0 q41.1).bind fun q43 =>
  k64 a0 q41.1 q43.1 q43.2
def fX12_join_114 (X : px_X) (k64 : Nat → Int32 → Int32 → px_W → Option (px_W)) (k70 : Nat → Int32 → Int32 → Int32 → px_W → Option (px_W)) (a0 : Nat) (a1 : Int32) (a2 : Int32) (a3 : Int32) (w : px_W) : Option (px_W) :=
  k70 a0 a1 a2 (a3 + 1) w
def fX12_join_97 (X : px_X) (k64 : Nat → Int32 → Int32 → px_W → Option (px_W)) (k70 : Nat → Int32 → Int32 → Int32 → px_W → Option (px_W)) (a0 : Nat) (a1 : Int32) (a2 : Int32) (a3 : Int32) (w : px_W) : Option (px_W) :=
  (gR w a0 12 7).bind fun v44 =>
  (aN w 0 v44 a3).bind fun v45 =>
  (sN id w 0 v44 a3 (v45 + 1)).bind fun w46 =>
  (gR w46 a0 12 6).bind fun v47 =>
  (sN id w46 0 v47 a3 a1).bind fun w48 =>
  fX12_join_114 X k64 k70 a0 a1 a2 a3 w48
def fX12_join_70 (X : px_X) (k64 : Nat → Int32 → Int32 → px_W → Option (px_W)) : Nat → Nat → Int32 → Int32 → Int32 → px_W → Option (px_W)
  | 0, _, _, _, _, _ => none
  | m + 1, a0, a1, a2, a3, w =>
    if 256 < a3 then (
      fX12_join_120 X k64 a0 a1 a2 w
    ) else (
      (gR w a0 12 6).bind fun v50 =>
      (aN w 0 v50 a3).bind fun v51 =>
      if v51 = a1 then (
        fX12_join_97 X k64 (fX12_join_70 X k64 m) a0 a1 a2 a3 w
      ) else (
        (gR w a0 12 6).bind fun v53 =>
        (aN w 0 v53 a3).bind fun v54 =>
        if v54 = a2 then (
          fX12_join_97 X k64 (fX12_join_70 X k64 m) a0 a1 a2 a3 w
        ) else (
          fX12_join_114 X k64 (fX12_join_70 X k64 m) a0 a1 a2 a3 w
        )
      )
    )
def fX12_join_64 (X : px_X)  : Nat → Nat → Int32 → Int32 → px_W → Option (px_W)
  | 0, _, _, _, _ => none
  | m + 1, a0, a1, a2, w =>
    if a2 < 0 then (
      some w
    ) else (
      fX12_join_70 X (fX12_join_64 X  m) FU a0 a1 a2 0 w
    )
def fX12_join_52 (X : px_X)  (a0 : Nat) (w : px_W) : Option (px_W) :=
  (gO w a0 12).bind fun o57 =>
  (fX12_least X w a0 ((-1))).bind fun q58 =>
  (gO q58.2 a0 12).bind fun o59 =>
  (fX12_least X q58.2 a0 q58.1).bind fun q60 =>
  fX12_join_64 X  FU a0 q58.1 q60.1 q60.2
def fX12_join_31 (X : px_X) (k2 : Nat → Int32 → px_W → Option (px_W)) (a0 : Nat) (a1 : Int32) (s0 : Int32) (s1 : Int32) (s2 : Nat) (w : px_W) : Option (px_W) :=
  (sN id w 0 s2 s1 s0).bind fun w61 =>
  (gR w61 a0 12 6).bind fun v62 =>
  (sN id w61 0 v62 a1 a1).bind fun w63 =>
  (gR w63 a0 12 7).bind fun v64 =>
  (sN id w63 0 v64 a1 0).bind fun w65 =>
  k2 a0 (a1 + 1) w65
def fX12_join_2 (X : px_X)  : Nat → Nat → Int32 → px_W → Option (px_W)
  | 0, _, _, _ => none
  | m + 1, a0, a1, w =>
    if 256 < a1 then (
      fX12_join_52 X  a0 w
    ) else (
      (gR w a0 12 5).bind fun v67 =>
      if a1 = 256 then (
        fX12_join_31 X (fX12_join_2 X  m) a0 a1 1 a1 v67 w
      ) else (
        (gR w a0 12 3).bind fun v69 =>
        (aN w 0 v69 a1).bind fun v70 =>
        fX12_join_31 X (fX12_join_2 X  m) a0 a1 v70 a1 v67 w
      )
    )
def fX12_join (X : px_X) (w : px_W) (a0 : Nat) : Option (px_W) :=
  fX12_join_2 X  FU a0 0 w
def fX12_shorten_153 (X : px_X) (k72 : Nat → Int32 → px_W → Option (px_W)) (a0 : Nat) (a1 : Int32) (w : px_W) : Option (px_W) :=
  k72 a0 (a1 + (-1)) w
def fX12_shorten_106 (X : px_X) (k72 : Nat → Int32 → px_W → Option (px_W)) (k78 : Nat → Int32 → px_W → Option (px_W)) (a0 : Nat) (a1 : Int32) (a2 : Int32) (w : px_W) : Option (px_W) :=
  (gR w a0 12 8).bind fun v31 =>
  (aN w 0 v31 a1).bind fun v32 =>
  (sN id w 0 v31 a1 (v32 - 2)).bind fun w33 =>
  (gR w33 a0 12 8).bind fun v34 =>
  (aN w33 0 v34 (a1 - 1)).bind fun v35 =>
  (sN id w33 0 v34 (a1 - 1) (v35 + 1)).bind fun w36 =>
  (gR w36 a0 12 8).bind fun v37 =>
  (aN w36 0 v37 (a2 + 1)).bind fun v38 =>
  (sN id w36 0 v37 (a2 + 1) (v38 + 2)).bind fun w39 =>
  (gR w39 a0 12 8).bind fun v40 =>
  (aN w39 0 v40 a2).bind fun v41 =>
  (sN id w39 0 v40 a2 (v41 - 1)).bind fun w42 =>
  k78 a0 a1 w42
def fX12_shorten_91 (X : px_X) (k72 : Nat → Int32 → px_W → Option (px_W)) (k78 : Nat → Int32 → px_W → Option (px_W)) : Nat → Nat → Int32 → Int32 → px_W → Option (px_W)
  | 0, _, _, _, _ => none
  | m + 1, a0, a1, a2, w =>
    (gR w a0 12 8).bind fun v43 =>
    (aN w 0 v43 a2).bind fun v44 =>
    if v44 = 0 then (
      fX12_shorten_91 X k72 k78 m a0 a1 (a2 + (-1)) w
    ) else (
      fX12_shorten_106 X k72 k78 a0 a1 a2 w
    )
def fX12_shorten_78 (X : px_X) (k72 : Nat → Int32 → px_W → Option (px_W)) : Nat → Nat → Int32 → px_W → Option (px_W)
  | 0, _, _, _ => none
  | m + 1, a0, a1, w =>
    (gR w a0 12 8).bind fun v46 =>
    (aN w 0 v46 a1).bind fun v47 =>
    if v47 ≤ 0 then (
      fX12_shorten_153 X k72 a0 a1 w
    ) else (
      fX12_shorten_91 X k72 (fX12_shorten_78 X k72 m) FU a0 a1 (a1 - 2) w
    )
def fX12_shorten_177 (X : px_X)  (a0 : Nat) (a1 : Int32) (w : px_W) : Option (px_W) :=
  (gR w a0 12 8).bind fun v49 =>
  (aN w 0 v49 a1).bind fun v50 =>
  (sN id w 0 v49 a1 (v50 - 1)).bind fun w51 =>
  some w51
def fX12_shorten_162 (X : px_X)  : Nat → Nat → Int32 → px_W → Option (px_W)
  | 0, _, _, _ => none
  | m + 1, a0, a1, w =>
    (gR w a0 12 8).bind fun v52 =>
    (aN w 0 v52 a1).bind fun v53 =>
    if v53 = 0 then (
      fX12_shorten_162 X  m a0 (a1 + (-1)) w
    ) else (
      fX12_shorten_177 X  a0 a1 w
    )
def fX12_shorten_159 (X : px_X)  (a0 : Nat) (w : px_W) : Option (px_W) :=
  fX12_shorten_162 X  FU a0 16 w
def fX12_shorten_72 (X : px_X)  : Nat → Nat → Int32 → px_W → Option (px_W)
  | 0, _, _, _ => none
  | m + 1, a0, a1, w =>
    if a1 ≤ 16 then (
      fX12_shorten_159 X  a0 w
    ) else (
      fX12_shorten_78 X (fX12_shorten_72 X  m) FU a0 a1 w
    )
def fX12_shorten_68 (X : px_X)  (a0 : Nat) (w : px_W) : Option (px_W) :=
  fX12_shorten_72 X  FU a0 299 w
def fX12_shorten_62 (X : px_X) (k24 : Nat → Int32 → px_W → Option (px_W)) (a0 : Nat) (a1 : Int32) (w : px_W) : Option (px_W) :=
  k24 a0 (a1 + 1) w
def fX12_shorten_47 (X : px_X) (k24 : Nat → Int32 → px_W → Option (px_W)) (a0 : Nat) (a1 : Int32) (w : px_W) : Option (px_W) :=
  (gR w a0 12 8).bind fun v56 =>
  (gR w a0 12 7).bind fun v57 =>
  (aN w 0 v57 a1).bind fun v58 =>
  (aN w 0 v56 v58).bind fun v59 =>
  (sN id w 0 v56 v58 (v59 + 1)).bind fun w60 =>
  fX12_shorten_62 X k24 a0 a1 w60
def fX12_shorten_24 (X : px_X)  : Nat → Nat → Int32 → px_W → Option (px_W)
  | 0, _, _, _ => none
  | m + 1, a0, a1, w =>
    if 256 < a1 then (
      fX12_shorten_68 X  a0 w
    ) else (
      if a1 = 256 then (
        fX12_shorten_47 X (fX12_shorten_24 X  m) a0 a1 w
      ) else (
        (gR w a0 12 3).bind fun v63 =>
        (aN w 0 v63 a1).bind fun v64 =>
        if v64 ≤ 0 then (
          fX12_shorten_62 X (fX12_shorten_24 X  m) a0 a1 w
        ) else (
          fX12_shorten_47 X (fX12_shorten_24 X  m) a0 a1 w
        )
      )
    )
def fX12_shorten_22 (X : px_X)  (a0 : Nat) (w : px_W) : Option (px_W) :=
  fX12_shorten_24 X  FU a0 0 w
def fX12_shorten_2 (X : px_X)  : Nat → Nat → Int32 → px_W → Option (px_W)
  | 0, _, _, _ => none
  | m + 1, a0, a1, w =>
    if 300 ≤ a1 then (
      fX12_shorten_22 X  a0 w
    ) else (
      (gR w a0 12 8).bind fun v67 =>
      (sN id w 0 v67 a1 0).bind fun w68 =>
      fX12_shorten_2 X  m a0 (a1 + 1) w68
    )
def fX12_shorten (X : px_X) (w : px_W) (a0 : Nat) : Option (px_W) :=
  fX12_shorten_2 X  FU a0 0 w
def fX12_best_131 (X : px_X) (k70 : Nat → Int32 → px_W → Option (px_W)) (a0 : Nat) (a1 : Int32) (w : px_W) : Option (px_W) :=
  k70 a0 (a1 + 1) w
def fX12_best_125 (X : px_X) (k70 : Nat → Int32 → px_W → Option (px_W)) (k79 : Nat → Int32 → Int32 → px_W → Option (px_W)) (a0 : Nat) (a1 : Int32) (a2 : Int32) (w : px_W) : Option (px_W) :=
  k79 a0 a1 (a2 + 1) w
def fX12_best_79 (X : px_X) (k70 : Nat → Int32 → px_W → Option (px_W)) : Nat → Nat → Int32 → Int32 → px_W → Option (px_W)
  | 0, _, _, _, _ => none
  | m + 1, a0, a1, a2, w =>
    if 256 ≤ a2 then (
      fX12_best_131 X k70 a0 a1 w
    ) else (
      (gR w a0 12 3).bind fun v23 =>
      (aN w 0 v23 a2).bind fun v24 =>
      if v24 ≤ 0 then (
        fX12_best_125 X k70 (fX12_best_79 X k70 m) a0 a1 a2 w
      ) else (
        (gR w a0 12 7).bind fun v26 =>
        (aN w 0 v26 a2).bind fun v27 =>
        if v27 = a1 then (
          (gR w a0 12 1).bind fun v29 =>
          (gI w a0 12 2).bind fun v30 =>
          (sN id w 0 v29 v30 a2).bind fun w31 =>
          (gI w31 a0 12 2).bind fun v32 =>
          (pV w31 a0 12 2 (.int (v32 + 1))).bind fun w33 =>
          fX12_best_125 X k70 (fX12_best_79 X k70 m) a0 a1 a2 w33
        ) else (
          fX12_best_125 X k70 (fX12_best_79 X k70 m) a0 a1 a2 w
        )
      )
    )
def fX12_best_70 (X : px_X)  : Nat → Nat → Int32 → px_W → Option (px_W)
  | 0, _, _, _ => none
  | m + 1, a0, a1, w =>
    if 300 ≤ a1 then (
      some w
    ) else (
      fX12_best_79 X (fX12_best_70 X  m) FU a0 a1 0 w
    )
def fX12_best_68 (X : px_X)  (a0 : Nat) (w : px_W) : Option (px_W) :=
  fX12_best_70 X  FU a0 1 w
def fX12_best_44 (X : px_X)  : Nat → Nat → Int32 → px_W → Option (px_W)
  | 0, _, _, _ => none
  | m + 1, a0, a1, w =>
    if 16 < a1 then (
      fX12_best_68 X  a0 w
    ) else (
      (gR w a0 12 0).bind fun v36 =>
      (gR w a0 12 8).bind fun v37 =>
      (aN w 0 v37 a1).bind fun v38 =>
      (sN id w 0 v36 a1 v38).bind fun w39 =>
      fX12_best_44 X  m a0 (a1 + 1) w39
    )
def fX12_best_26 (X : px_X)  (a0 : Nat) (w : px_W) : Option (px_W) :=
  (gI w a0 12 4).bind fun v40 =>
  if v40 = 0 then (
    some w
  ) else (
    (gO w a0 12).bind fun o42 =>
    (fX12_join X w a0).bind fun q43 =>
    (gO q43 a0 12).bind fun o44 =>
    (fX12_shorten X q43 a0).bind fun q45 =>
    fX12_best_44 X  FU a0 1 q45
  )
def fX12_best_7 (X : px_X)  : Nat → Nat → Int32 → px_W → Option (px_W)
  | 0, _, _, _ => none
  | m + 1, a0, a1, w =>
    if 17 ≤ a1 then (
      fX12_best_26 X  a0 w
    ) else (
      (gR w a0 12 0).bind fun v47 =>
      (sN id w 0 v47 a1 0).bind fun w48 =>
      fX12_best_7 X  m a0 (a1 + 1) w48
    )
def fX12_best (X : px_X) (w : px_W) (a0 : Nat) : Option (px_W) :=
  (pV w a0 12 2 (.int 0)).bind fun w49 =>
  fX12_best_7 X  FU a0 0 w49
def fX13_init (X : px_X) (w : px_W) (a0 : Nat) : Option (px_W) :=
  (nA w 0 4 (.inl (fun _ => 0))).bind fun q47 =>
  (pV q47.2 a0 13 3 (.ref q47.1)).bind fun w48 =>
  (nA w48 0 4 (.inl (fun _ => 0))).bind fun q49 =>
  (pV q49.2 a0 13 4 (.ref q49.1)).bind fun w50 =>
  (nA w50 0 4 (.inl (fun _ => 0))).bind fun q51 =>
  (pV q51.2 a0 13 5 (.ref q51.1)).bind fun w52 =>
  (nA w52 0 4 (.inl (fun _ => 0))).bind fun q53 =>
  (pV q53.2 a0 13 6 (.ref q53.1)).bind fun w54 =>
  (nA w54 0 4 (.inl (fun _ => 0))).bind fun q55 =>
  (pV q55.2 a0 13 7 (.ref q55.1)).bind fun w56 =>
  (nA w56 0 4 (.inl (fun _ => 0))).bind fun q57 =>
  (pV q57.2 a0 13 8 (.ref q57.1)).bind fun w58 =>
  (nA w58 0 4 (.inl (fun _ => 0))).bind fun q59 =>
  (pV q59.2 a0 13 9 (.ref q59.1)).bind fun w60 =>
  (nA w60 2 12288 (.inl (fun _ => 0))).bind fun q61 =>
  (pV q61.2 a0 13 12 (.ref q61.1)).bind fun w62 =>
  (nA w62 2 12288 (.inl (fun _ => 0))).bind fun q63 =>
  (pV q63.2 a0 13 13 (.ref q63.1)).bind fun w64 =>
  (nA w64 0 17 (.inl (fun _ => 0))).bind fun q65 =>
  (pV q65.2 a0 13 14 (.ref q65.1)).bind fun w66 =>
  (nA w66 0 256 (.inl (fun _ => 0))).bind fun q67 =>
  (pV q67.2 a0 13 15 (.ref q67.1)).bind fun w68 =>
  (nA w68 0 8 (.inl (fun _ => 0))).bind fun q69 =>
  (pV q69.2 a0 13 17 (.ref q69.1)).bind fun w70 =>
  (nA w70 0 2048 (.inl (fun _ => 0))).bind fun q71 =>
  (pV q71.2 a0 13 18 (.ref q71.1)).bind fun w72 =>
  (nA w72 0 2048 (.inl (fun _ => 0))).bind fun q73 =>
  (pV q73.2 a0 13 19 (.ref q73.1)).bind fun w74 =>
  (nA w74 0 4 (.inl (fun _ => 0))).bind fun q75 =>
  (pV q75.2 a0 13 20 (.ref q75.1)).bind fun w76 =>
  (nA w76 0 4 (.inl (fun _ => 0))).bind fun q77 =>
  (pV q77.2 a0 13 21 (.ref q77.1)).bind fun w78 =>
  (nA w78 1 16384 (.inl (fun _ => 0))).bind fun q79 =>
  (pV q79.2 a0 13 28 (.ref q79.1)).bind fun w80 =>
  (nA w80 1 16384 (.inl (fun _ => 0))).bind fun q81 =>
  (pV q81.2 a0 13 30 (.ref q81.1)).bind fun w82 =>
  (nA w82 0 2048 (.inl (fun _ => 0))).bind fun q83 =>
  (pV q83.2 a0 13 36 (.ref q83.1)).bind fun w84 =>
  (nA w84 0 4 (.inl (fun _ => 0))).bind fun q85 =>
  (pV q85.2 a0 13 37 (.ref q85.1)).bind fun w86 =>
  (nA w86 1 1100 (.inl (fun _ => 0))).bind fun q87 =>
  (pV q87.2 a0 13 39 (.ref q87.1)).bind fun w88 =>
  (nA w88 1 70 (.inl (fun _ => 0))).bind fun q89 =>
  (pV q89.2 a0 13 41 (.ref q89.1)).bind fun w90 =>
  (nA w90 0 2048 (.inl (fun _ => 0))).bind fun q91 =>
  (pV q91.2 a0 13 47 (.ref q91.1)).bind fun w92 =>
  some w92
def fX13_up (X : px_X) (w : px_W) (a0 : Int32) (a1 : Int32) : Option (Int32 × px_W) :=
  (dI ((a0 + a1) - 1) a1).bind fun v2 =>
  some (v2, w)
def fX13_lay_185 (X : px_X)  : Nat → Nat → Int32 → Int32 → Int32 → Int32 → Int32 → Int32 → Int32 → Int32 → Int32 → Int32 → Int32 → px_W → Option (Int32 × px_W)
  | 0, _, _, _, _, _, _, _, _, _, _, _, _, _ => none
  | m + 1, a0, a1, a2, a3, a4, a5, a6, a7, a8, a9, a10, a11, w =>
    if a3 ≤ a11 then (
      some (a7, w)
    ) else (
      (gR w a0 13 3).bind fun v39 =>
      (sN id w 0 v39 a11 (1 + ((a4 >>> ((2 * a11) &&& 31)) &&& 1))).bind fun w40 =>
      (gR w40 a0 13 4).bind fun v41 =>
      (sN id w40 0 v41 a11 (1 + ((a4 >>> (((2 * a11) + 1) &&& 31)) &&& 1))).bind fun w42 =>
      (gR w42 a0 13 5).bind fun v43 =>
      (gR w42 a0 13 3).bind fun v44 =>
      (aN w42 0 v44 a11).bind fun v45 =>
      (sN id w42 0 v43 a11 (a8 * v45)).bind fun w46 =>
      (gR w46 a0 13 6).bind fun v47 =>
      (gR w46 a0 13 4).bind fun v48 =>
      (aN w46 0 v48 a11).bind fun v49 =>
      (sN id w46 0 v47 a11 (a9 * v49)).bind fun w50 =>
      (gR w50 a0 13 7).bind fun v51 =>
      (gR w50 a0 13 3).bind fun v52 =>
      (aN w50 0 v52 a11).bind fun v53 =>
      (fX13_up X w50 (a1 * v53) a5).bind fun q54 =>
      (fX13_up X q54.2 q54.1 8).bind fun q55 =>
      (sN id q55.2 0 v51 a11 q55.1).bind fun w56 =>
      (gR w56 a0 13 8).bind fun v57 =>
      (gR w56 a0 13 4).bind fun v58 =>
      (aN w56 0 v58 a11).bind fun v59 =>
      (fX13_up X w56 (a2 * v59) a6).bind fun q60 =>
      (fX13_up X q60.2 q60.1 8).bind fun q61 =>
      (sN id q61.2 0 v57 a11 q61.1).bind fun w62 =>
      (gR w62 a0 13 9).bind fun v63 =>
      (sN id w62 0 v63 a11 a10).bind fun w64 =>
      (gR w64 a0 13 5).bind fun v65 =>
      (aN w64 0 v65 a11).bind fun v66 =>
      (gR w64 a0 13 6).bind fun v67 =>
      (aN w64 0 v67 a11).bind fun v68 =>
      fX13_lay_185 X  m a0 a1 a2 a3 a4 a5 a6 a7 a8 a9 (a10 + (v66 * v68)) (a11 + 1) w64
    )
def fX13_lay_141 (X : px_X)  (a0 : Nat) (a1 : Int32) (a2 : Int32) (a3 : Int32) (a4 : Int32) (a5 : Int32) (a6 : Int32) (a7 : Int32) (a8 : Int32) (a9 : Int32) (w : px_W) : Option (Int32 × px_W) :=
  if a7 ≤ 192 then (
    (pV w a0 13 0 (.int a1)).bind fun w70 =>
    (pV w70 a0 13 1 (.int a2)).bind fun w71 =>
    (pV w71 a0 13 2 (.int a3)).bind fun w72 =>
    (pV w72 a0 13 10 (.int a8)).bind fun w73 =>
    (pV w73 a0 13 11 (.int a9)).bind fun w74 =>
    fX13_lay_185 X  FU a0 a1 a2 a3 a4 a5 a6 a7 a8 a9 0 0 w74
  ) else (
    some (a7, w)
  )
def fX13_lay_93 (X : px_X)  : Nat → Nat → Int32 → Int32 → Int32 → Int32 → Int32 → Int32 → Int32 → Int32 → Int32 → Int32 → px_W → Option (Int32 × px_W)
  | 0, _, _, _, _, _, _, _, _, _, _, _, _ => none
  | m + 1, a0, a1, a2, a3, a4, a5, a6, a7, a8, a9, a10, w =>
    if a3 ≤ a10 then (
      fX13_lay_141 X  a0 a1 a2 a3 a4 a5 a6 a7 a8 a9 w
    ) else (
      fX13_lay_93 X  m a0 a1 a2 a3 a4 a5 a6 (a7 + (((a8 * a9) * (1 + ((a4 >>> ((2 * a10) &&& 31)) &&& 1))) * (1 + ((a4 >>> (((2 * a10) + 1) &&& 31)) &&& 1)))) a8 a9 (a10 + 1) w
    )
def fX13_lay_65 (X : px_X)  (a0 : Nat) (a1 : Int32) (a2 : Int32) (a3 : Int32) (a4 : Int32) (a5 : Int32) (a6 : Int32) (w : px_W) : Option (Int32 × px_W) :=
  (fX13_up X w a1 (8 * a5)).bind fun q76 =>
  (fX13_up X q76.2 a2 (8 * a6)).bind fun q77 =>
  fX13_lay_93 X  FU a0 a1 a2 a3 a4 a5 a6 0 q76.1 q77.1 0 q77.2
def fX13_lay_57 (X : px_X) (k9 : Nat → Int32 → Int32 → Int32 → Int32 → Int32 → Int32 → Int32 → px_W → Option (Int32 × px_W)) (a0 : Nat) (a1 : Int32) (a2 : Int32) (a3 : Int32) (a4 : Int32) (a5 : Int32) (a7 : Int32) (s0 : Int32) (w : px_W) : Option (Int32 × px_W) :=
  k9 a0 a1 a2 a3 a4 a5 s0 (a7 + 1) w
def fX13_lay_34 (X : px_X) (k9 : Nat → Int32 → Int32 → Int32 → Int32 → Int32 → Int32 → Int32 → px_W → Option (Int32 × px_W)) (a0 : Nat) (a1 : Int32) (a2 : Int32) (a3 : Int32) (a4 : Int32) (a6 : Int32) (a7 : Int32) (s0 : Int32) (w : px_W) : Option (Int32 × px_W) :=
  if ((a4 >>> (((2 * a7) + 1) &&& 31)) &&& 1) = 1 then (
    fX13_lay_57 X k9 a0 a1 a2 a3 a4 s0 a7 2 w
  ) else (
    fX13_lay_57 X k9 a0 a1 a2 a3 a4 s0 a7 a6 w
  )
def fX13_lay_9 (X : px_X)  : Nat → Nat → Int32 → Int32 → Int32 → Int32 → Int32 → Int32 → Int32 → px_W → Option (Int32 × px_W)
  | 0, _, _, _, _, _, _, _, _, _ => none
  | m + 1, a0, a1, a2, a3, a4, a5, a6, a7, w =>
    if a3 ≤ a7 then (
      fX13_lay_65 X  a0 a1 a2 a3 a4 a5 a6 w
    ) else (
      if ((a4 >>> ((2 * a7) &&& 31)) &&& 1) = 1 then (
        fX13_lay_34 X (fX13_lay_9 X  m) a0 a1 a2 a3 a4 a6 a7 2 w
      ) else (
        fX13_lay_34 X (fX13_lay_9 X  m) a0 a1 a2 a3 a4 a6 a7 a5 w
      )
    )
def fX13_lay (X : px_X) (w : px_W) (a0 : Nat) (a1 : Int32) (a2 : Int32) (a3 : Int32) (a4 : Int32) : Option (Int32 × px_W) :=
  fX13_lay_9 X  FU a0 a1 a2 a3 a4 1 1 0 w
def fX13_base_55 (X : px_X)  : Nat → Nat → Int32 → px_W → Option (px_W)
  | 0, _, _, _ => none
  | m + 1, a0, a1, w =>
    if 4 ≤ a1 then (
      some w
    ) else (
      (gR w a0 13 20).bind fun v14 =>
      (sN id w 0 v14 a1 0).bind fun w15 =>
      (gR w15 a0 13 21).bind fun v16 =>
      (sN id w15 0 v16 a1 4).bind fun w17 =>
      fX13_base_55 X  m a0 (a1 + 1) w17
    )
def fX13_base_22 (X : px_X)  (a0 : Nat) (w : px_W) : Option (px_W) :=
  (pV w a0 13 22 (.int 1)).bind fun w18 =>
  (pV w18 a0 13 23 (.int 0)).bind fun w19 =>
  (pV w19 a0 13 24 (.int 63)).bind fun w20 =>
  (pV w20 a0 13 25 (.int 0)).bind fun w21 =>
  (pV w21 a0 13 26 (.int 0)).bind fun w22 =>
  (pV w22 a0 13 27 (.int 0)).bind fun w23 =>
  fX13_base_55 X  FU a0 0 w23
def fX13_base_2 (X : px_X)  : Nat → Nat → Int32 → px_W → Option (px_W)
  | 0, _, _, _ => none
  | m + 1, a0, a1, w =>
    if 12288 ≤ a1 then (
      fX13_base_22 X  a0 w
    ) else (
      (gR w a0 13 12).bind fun v25 =>
      (sN (vp_nar .short) w 2 v25 a1 0).bind fun w26 =>
      fX13_base_2 X  m a0 (a1 + 1) w26
    )
def fX13_base (X : px_X) (w : px_W) (a0 : Nat) : Option (px_W) :=
  fX13_base_2 X  FU a0 0 w
def fX13_frame (X : px_X) (w : px_W) (a0 : Nat) (a1 : Int32) (a2 : Int32) (a3 : Int32) (a4 : Int32) : Option (Int32 × px_W) :=
  if a1 < 1 then (
    some (0, w)
  ) else (
    if 64 < a1 then (
      some (0, w)
    ) else (
      if a2 < 1 then (
        some (0, w)
      ) else (
        if 64 < a2 then (
          some (0, w)
        ) else (
          if a3 < 1 then (
            some (0, w)
          ) else (
            if 4 < a3 then (
              some (0, w)
            ) else (
              if a4 < 0 then (
                some (0, w)
              ) else (
                if ((1 : Int32) <<< ((2 * a3) &&& 31)) ≤ a4 then (
                  some (0, w)
                ) else (
                  (gO w a0 13).bind fun o13 =>
                  (fX13_lay X w a0 a1 a2 a3 a4).bind fun q14 =>
                  if q14.1 ≤ 192 then (
                    (gO q14.2 a0 13).bind fun o16 =>
                    (fX13_base X q14.2 a0).bind fun q17 =>
                    some (1, q17)
                  ) else (
                    some (0, q14.2)
                  )
                )
              )
            )
          )
        )
      )
    )
  )
def fX13_isTable_61 (X : px_X) (k10 : Nat → Int32 → Int64 → Int32 → Int32 → px_W → Option (Int32 × px_W)) (a0 : Nat) (a1 : Int32) (a2 : Int64) (a5 : Int32) (s0 : Int32) (w : px_W) : Option (Int32 × px_W) :=
  k10 a0 a1 a2 s0 (a5 + 1) w
def fX13_isTable_60 (X : px_X) (k10 : Nat → Int32 → Int64 → Int32 → Int32 → px_W → Option (Int32 × px_W)) (a0 : Nat) (a1 : Int32) (a2 : Int64) (a5 : Int32) (w : px_W) : Option (Int32 × px_W) :=
  fX13_isTable_61 X k10 a0 a1 a2 a5 0 w
def fX13_isTable_132 (X : px_X)  (a0 : Nat) (a1 : Int32) (a4 : Int32) (w : px_W) : Option (Int32 × px_W) :=
  if a4 = 0 then (
    some (0, w)
  ) else (
    (gI w a0 13 16).bind fun v12 =>
    if a1 = v12 then (
      some (1, w)
    ) else (
      some (0, w)
    )
  )
def fX13_isTable_118 (X : px_X) (k72 : Nat → Int32 → Int32 → Int32 → px_W → Option (Int32 × px_W)) (k84 : Nat → Int32 → Int32 → Int32 → Int32 → px_W → Option (Int32 × px_W)) (a0 : Nat) (a1 : Int32) (a5 : Int32) (a6 : Int32) (s0 : Int32) (w : px_W) : Option (Int32 × px_W) :=
  k84 a0 a1 s0 a5 (a6 + 1) w
def fX13_isTable_117 (X : px_X) (k72 : Nat → Int32 → Int32 → Int32 → px_W → Option (Int32 × px_W)) (k84 : Nat → Int32 → Int32 → Int32 → Int32 → px_W → Option (Int32 × px_W)) (a0 : Nat) (a1 : Int32) (a5 : Int32) (a6 : Int32) (w : px_W) : Option (Int32 × px_W) :=
  fX13_isTable_118 X k72 k84 a0 a1 a5 a6 0 w
def fX13_isTable_126 (X : px_X) (k72 : Nat → Int32 → Int32 → Int32 → px_W → Option (Int32 × px_W)) (a0 : Nat) (a1 : Int32) (a4 : Int32) (a5 : Int32) (w : px_W) : Option (Int32 × px_W) :=
  k72 a0 a1 a4 (a5 + 1) w
def fX13_isTable_84 (X : px_X) (k72 : Nat → Int32 → Int32 → Int32 → px_W → Option (Int32 × px_W)) : Nat → Nat → Int32 → Int32 → Int32 → Int32 → px_W → Option (Int32 × px_W)
  | 0, _, _, _, _, _, _ => none
  | m + 1, a0, a1, a4, a5, a6, w =>
    if a5 ≤ a6 then (
      fX13_isTable_126 X k72 a0 a1 a4 a5 w
    ) else (
      if a4 = 0 then (
        fX13_isTable_117 X k72 (fX13_isTable_84 X k72 m) a0 a1 a5 a6 w
      ) else (
        (gR w a0 13 15).bind fun v16 =>
        (aN w 0 v16 a5).bind fun v17 =>
        (gR w a0 13 15).bind fun v18 =>
        (aN w 0 v18 a6).bind fun v19 =>
        if v17 = v19 then (
          fX13_isTable_117 X k72 (fX13_isTable_84 X k72 m) a0 a1 a5 a6 w
        ) else (
          fX13_isTable_118 X k72 (fX13_isTable_84 X k72 m) a0 a1 a5 a6 1 w
        )
      )
    )
def fX13_isTable_72 (X : px_X)  : Nat → Nat → Int32 → Int32 → Int32 → px_W → Option (Int32 × px_W)
  | 0, _, _, _, _, _ => none
  | m + 1, a0, a1, a4, a5, w =>
    (gI w a0 13 16).bind fun v21 =>
    if v21 ≤ a5 then (
      fX13_isTable_132 X  a0 a1 a4 w
    ) else (
      fX13_isTable_84 X (fX13_isTable_72 X  m) FU a0 a1 a4 a5 0 w
    )
def fX13_isTable_69 (X : px_X)  (a0 : Nat) (a1 : Int32) (a4 : Int32) (w : px_W) : Option (Int32 × px_W) :=
  fX13_isTable_72 X  FU a0 a1 a4 0 w
def fX13_isTable_10 (X : px_X)  : Nat → Nat → Int32 → Int64 → Int32 → Int32 → px_W → Option (Int32 × px_W)
  | 0, _, _, _, _, _, _ => none
  | m + 1, a0, a1, a2, a4, a5, w =>
    if 16 < a5 then (
      fX13_isTable_69 X  a0 a1 a4 w
    ) else (
      (gR w a0 13 14).bind fun v24 =>
      (aN w 0 v24 a5).bind fun v25 =>
      (gR w a0 13 14).bind fun v26 =>
      (aN w 0 v26 a5).bind fun v27 =>
      if a4 = 0 then (
        fX13_isTable_60 X (fX13_isTable_10 X  m) a0 (a1 + v25) ((2 * a2) + v27.toInt64) a5 w
      ) else (
        if 0 ≤ (lg_cmp ((2 * a2) + v27.toInt64) ((1 : Int64) <<< (a5.toInt64 &&& 63))) then (
          fX13_isTable_60 X (fX13_isTable_10 X  m) a0 (a1 + v25) ((2 * a2) + v27.toInt64) a5 w
        ) else (
          fX13_isTable_61 X (fX13_isTable_10 X  m) a0 (a1 + v25) ((2 * a2) + v27.toInt64) a5 1 w
        )
      )
    )
def fX13_isTable (X : px_X) (w : px_W) (a0 : Nat) : Option (Int32 × px_W) :=
  fX13_isTable_10 X  FU a0 0 0 1 1 w
def fX13_make_129 (X : px_X) (k54 : Nat → Int32 → Int32 → Int32 → Int32 → px_W → Option (Int32 × px_W)) (a0 : Nat) (a1 : Int32) (a2 : Int32) (a3 : Int32) (a4 : Int32) (w : px_W) : Option (Int32 × px_W) :=
  k54 a0 a1 a2 a3 (a4 + 1) w
def fX13_make_68 (X : px_X) (k54 : Nat → Int32 → Int32 → Int32 → Int32 → px_W → Option (Int32 × px_W)) : Nat → Nat → Int32 → Int32 → Int32 → Int32 → Int32 → px_W → Option (Int32 × px_W)
  | 0, _, _, _, _, _, _, _ => none
  | m + 1, a0, a1, a2, a3, a4, a5, w =>
    (gR w a0 13 14).bind fun v18 =>
    (aN w 0 v18 a4).bind fun v19 =>
    if v19 ≤ a5 then (
      fX13_make_129 X k54 a0 a1 a2 a3 a4 w
    ) else (
      (gR w a0 13 18).bind fun v21 =>
      (gR w a0 13 15).bind fun v22 =>
      (aN w 0 v22 a3).bind fun v23 =>
      (sN id w 0 v21 ((256 * a1) + v23) a4).bind fun w24 =>
      (gR w24 a0 13 19).bind fun v25 =>
      (gR w24 a0 13 15).bind fun v26 =>
      (aN w24 0 v26 a3).bind fun v27 =>
      (sN id w24 0 v25 ((256 * a1) + v27) a2).bind fun w28 =>
      fX13_make_68 X k54 m a0 a1 (a2 + 1) (a3 + 1) a4 (a5 + 1) w28
    )
def fX13_make_135 (X : px_X)  (a0 : Nat) (a1 : Int32) (w : px_W) : Option (Int32 × px_W) :=
  (gR w a0 13 17).bind fun v29 =>
  (gI w a0 13 16).bind fun v30 =>
  (sN id w 0 v29 a1 v30).bind fun w31 =>
  some (1, w31)
def fX13_make_54 (X : px_X)  : Nat → Nat → Int32 → Int32 → Int32 → Int32 → px_W → Option (Int32 × px_W)
  | 0, _, _, _, _, _, _ => none
  | m + 1, a0, a1, a2, a3, a4, w =>
    if 16 < a4 then (
      fX13_make_135 X  a0 a1 w
    ) else (
      fX13_make_68 X (fX13_make_54 X  m) FU a0 a1 (2 * a2) a3 a4 0 w
    )
def fX13_make_47 (X : px_X)  (a0 : Nat) (a1 : Int32) (w : px_W) : Option (Int32 × px_W) :=
  fX13_make_54 X  FU a0 a1 0 0 1 w
def fX13_make_21 (X : px_X)  : Nat → Nat → Int32 → Int32 → px_W → Option (Int32 × px_W)
  | 0, _, _, _, _ => none
  | m + 1, a0, a1, a2, w =>
    if 256 ≤ a2 then (
      fX13_make_47 X  a0 a1 w
    ) else (
      (gR w a0 13 18).bind fun v34 =>
      (sN id w 0 v34 ((256 * a1) + a2) 0).bind fun w35 =>
      fX13_make_21 X  m a0 a1 (a2 + 1) w35
    )
def fX13_make (X : px_X) (w : px_W) (a0 : Nat) (a1 : Int32) : Option (Int32 × px_W) :=
  if a1 < 0 then (
    some (0, w)
  ) else (
    if 7 < a1 then (
      some (0, w)
    ) else (
      (gO w a0 13).bind fun o38 =>
      (fX13_isTable X w a0).bind fun q39 =>
      if q39.1 = 0 then (
        some (0, q39.2)
      ) else (
        fX13_make_21 X  FU a0 a1 0 q39.2
      )
    )
  )
def fX13_ones_4 (X : px_X)  : Nat → Int32 → Int32 → Int32 → px_W → Option (Int32 × px_W)
  | 0, _, _, _, _ => none
  | m + 1, a0, a1, a2, w =>
    if 4 ≤ a2 then (
      some (a1, w)
    ) else (
      fX13_ones_4 X  m a0 (a1 + ((a0 >>> (a2 &&& 31)) &&& 1)) (a2 + 1) w
    )
def fX13_ones (X : px_X) (w : px_W) (a0 : Int32) : Option (Int32 × px_W) :=
  fX13_ones_4 X  FU a0 0 0 w
def fX13_scan_148 (X : px_X)  (a0 : Nat) (a1 : Int32) (a2 : Int32) (a3 : Int32) (a4 : Int32) (a5 : Int32) (w : px_W) : Option (Int32 × px_W) :=
  (pV w a0 13 22 (.int a1)).bind fun w8 =>
  (pV w8 a0 13 23 (.int a2)).bind fun w9 =>
  (pV w9 a0 13 24 (.int a3)).bind fun w10 =>
  (pV w10 a0 13 25 (.int a4)).bind fun w11 =>
  (pV w11 a0 13 26 (.int a5)).bind fun w12 =>
  some (1, w12)
def fX13_scan_124 (X : px_X)  (a0 : Nat) (a1 : Int32) (a2 : Int32) (a3 : Int32) (a4 : Int32) (a5 : Int32) (a6 : Int32) (a7 : Int32) (a8 : Int32) (s0 : Int32) (w : px_W) : Option (Int32 × px_W) :=
  if a6 = 0 then (
    some (0, w)
  ) else (
    if a7 = 0 then (
      if a8 = 0 then (
        if s0 = 0 then (
          some (0, w)
        ) else (
          fX13_scan_148 X  a0 a1 a2 a3 a4 a5 w
        )
      ) else (
        fX13_scan_148 X  a0 a1 a2 a3 a4 a5 w
      )
    ) else (
      fX13_scan_148 X  a0 a1 a2 a3 a4 a5 w
    )
  )
def fX13_scan_123 (X : px_X)  (a0 : Nat) (a1 : Int32) (a2 : Int32) (a3 : Int32) (a4 : Int32) (a5 : Int32) (a6 : Int32) (a7 : Int32) (a8 : Int32) (w : px_W) : Option (Int32 × px_W) :=
  fX13_scan_124 X  a0 a1 a2 a3 a4 a5 a6 a7 a8 0 w
def fX13_scan_87 (X : px_X)  (a0 : Nat) (a1 : Int32) (a2 : Int32) (a3 : Int32) (a4 : Int32) (a5 : Int32) (a6 : Int32) (a7 : Int32) (s0 : Int32) (w : px_W) : Option (Int32 × px_W) :=
  if a2 < 1 then (
    fX13_scan_123 X  a0 a1 a2 a3 a4 a5 a6 a7 s0 w
  ) else (
    if 63 < a2 then (
      fX13_scan_123 X  a0 a1 a2 a3 a4 a5 a6 a7 s0 w
    ) else (
      if a3 < a2 then (
        fX13_scan_123 X  a0 a1 a2 a3 a4 a5 a6 a7 s0 w
      ) else (
        if 63 < a3 then (
          fX13_scan_123 X  a0 a1 a2 a3 a4 a5 a6 a7 s0 w
        ) else (
          (fX13_ones X w a1).bind fun q21 =>
          if q21.1 = 1 then (
            fX13_scan_124 X  a0 a1 a2 a3 a4 a5 a6 a7 s0 1 q21.2
          ) else (
            fX13_scan_123 X  a0 a1 a2 a3 a4 a5 a6 a7 s0 q21.2
          )
        )
      )
    )
  )
def fX13_scan_86 (X : px_X)  (a0 : Nat) (a1 : Int32) (a2 : Int32) (a3 : Int32) (a4 : Int32) (a5 : Int32) (a6 : Int32) (a7 : Int32) (w : px_W) : Option (Int32 × px_W) :=
  fX13_scan_87 X  a0 a1 a2 a3 a4 a5 a6 a7 0 w
def fX13_scan_72 (X : px_X)  (a0 : Nat) (a1 : Int32) (a2 : Int32) (a3 : Int32) (a4 : Int32) (a5 : Int32) (a6 : Int32) (s0 : Int32) (w : px_W) : Option (Int32 × px_W) :=
  if a2 = 0 then (
    if a3 = 0 then (
      fX13_scan_87 X  a0 a1 a2 a3 a4 a5 a6 s0 1 w
    ) else (
      fX13_scan_86 X  a0 a1 a2 a3 a4 a5 a6 s0 w
    )
  ) else (
    fX13_scan_86 X  a0 a1 a2 a3 a4 a5 a6 s0 w
  )
def fX13_scan_71 (X : px_X)  (a0 : Nat) (a1 : Int32) (a2 : Int32) (a3 : Int32) (a4 : Int32) (a5 : Int32) (a6 : Int32) (w : px_W) : Option (Int32 × px_W) :=
  fX13_scan_72 X  a0 a1 a2 a3 a4 a5 a6 0 w
def fX13_scan_45 (X : px_X)  (a0 : Nat) (a1 : Int32) (a2 : Int32) (a3 : Int32) (a4 : Int32) (a5 : Int32) (s0 : Int32) (w : px_W) : Option (Int32 × px_W) :=
  if a2 = 0 then (
    if a3 = 63 then (
      if a4 = 0 then (
        if a5 = 0 then (
          fX13_scan_72 X  a0 a1 a2 a3 a4 a5 s0 1 w
        ) else (
          fX13_scan_71 X  a0 a1 a2 a3 a4 a5 s0 w
        )
      ) else (
        fX13_scan_71 X  a0 a1 a2 a3 a4 a5 s0 w
      )
    ) else (
      fX13_scan_71 X  a0 a1 a2 a3 a4 a5 s0 w
    )
  ) else (
    fX13_scan_71 X  a0 a1 a2 a3 a4 a5 s0 w
  )
def fX13_scan_40 (X : px_X)  (a0 : Nat) (a1 : Int32) (a2 : Int32) (a3 : Int32) (a4 : Int32) (a5 : Int32) (w : px_W) : Option (Int32 × px_W) :=
  fX13_scan_45 X  a0 a1 a2 a3 a4 a5 1 w
def fX13_scan_44 (X : px_X)  (a0 : Nat) (a1 : Int32) (a2 : Int32) (a3 : Int32) (a4 : Int32) (a5 : Int32) (w : px_W) : Option (Int32 × px_W) :=
  fX13_scan_45 X  a0 a1 a2 a3 a4 a5 0 w
def fX13_scan (X : px_X) (w : px_W) (a0 : Nat) (a1 : Int32) (a2 : Int32) (a3 : Int32) (a4 : Int32) (a5 : Int32) : Option (Int32 × px_W) :=
  if a1 ≤ 0 then (
    fX13_scan_44 X  a0 a1 a2 a3 a4 a5 w
  ) else (
    (gI w a0 13 2).bind fun v30 =>
    if ((1 : Int32) <<< (v30 &&& 31)) ≤ a1 then (
      fX13_scan_44 X  a0 a1 a2 a3 a4 a5 w
    ) else (
      if a5 < 0 then (
        fX13_scan_44 X  a0 a1 a2 a3 a4 a5 w
      ) else (
        if 9 < a5 then (
          fX13_scan_44 X  a0 a1 a2 a3 a4 a5 w
        ) else (
          if a4 = 0 then (
            fX13_scan_40 X  a0 a1 a2 a3 a4 a5 w
          ) else (
            if a4 = (a5 + 1) then (
              fX13_scan_40 X  a0 a1 a2 a3 a4 a5 w
            ) else (
              fX13_scan_44 X  a0 a1 a2 a3 a4 a5 w
            )
          )
        )
      )
    )
  )
def fX13_tables (X : px_X) (w : px_W) (a0 : Nat) (a1 : Int32) (a2 : Int32) (a3 : Int32) : Option (Int32 × px_W) :=
  if a1 < 0 then (
    some (0, w)
  ) else (
    (gI w a0 13 2).bind fun v7 =>
    if v7 ≤ a1 then (
      some (0, w)
    ) else (
      if a2 < 0 then (
        some (0, w)
      ) else (
        if 3 < a2 then (
          some (0, w)
        ) else (
          if a3 < 4 then (
            some (0, w)
          ) else (
            if a3 ≤ 7 then (
              (gR w a0 13 20).bind fun v13 =>
              (sN id w 0 v13 a1 a2).bind fun w14 =>
              (gR w14 a0 13 21).bind fun v15 =>
              (sN id w14 0 v15 a1 a3).bind fun w16 =>
              some (1, w16)
            ) else (
              some (0, w)
            )
          )
        )
      )
    )
  )
def fX13_restart (X : px_X) (w : px_W) (a0 : Nat) (a1 : Int32) : Option (Int32 × px_W) :=
  if a1 < 0 then (
    some (0, w)
  ) else (
    if a1 ≤ 65535 then (
      (pV w a0 13 27 (.int a1)).bind fun w4 =>
      some (1, w4)
    ) else (
      some (0, w)
    )
  )
def fX13_canBe_14 (X : px_X)  (a1 : Int32) (s0 : Int32) (s1 : Int32) (w : px_W) : Option (Int32 × px_W) :=
  if s1 < s0 then (
    some (0, w)
  ) else (
    if 1023 < a1 then (
      some (0, w)
    ) else (
      some (1, w)
    )
  )
def fX13_canBe (X : px_X) (w : px_W) (a0 : Int32) (a1 : Int32) : Option (Int32 × px_W) :=
  if a0 = 0 then (
    fX13_canBe_14 X  a1 ((-1024)) a1 w
  ) else (
    fX13_canBe_14 X  a1 ((-1023)) a1 w
  )
def fX13_single_2 (X : px_X)  : Nat → Nat → Int32 → px_W → Option (Int32 × px_W)
  | 0, _, _, _ => none
  | m + 1, a0, a1, w =>
    (gI w a0 13 22).bind fun v2 =>
    if ((v2 >>> (a1 &&& 31)) &&& 1) = 0 then (
      fX13_single_2 X  m a0 (a1 + 1) w
    ) else (
      some (a1, w)
    )
def fX13_single (X : px_X) (w : px_W) (a0 : Nat) : Option (Int32 × px_W) :=
  fX13_single_2 X  FU a0 0 w
def fX13_units (X : px_X) (w : px_W) (a0 : Nat) : Option (Int32 × px_W) :=
  (gO w a0 13).bind fun o11 =>
  (fX13_single X w a0).bind fun q12 =>
  (gI q12.2 a0 13 22).bind fun v13 =>
  (fX13_ones X q12.2 v13).bind fun q14 =>
  if q14.1 = 1 then (
    (gR q14.2 a0 13 7).bind fun v18 =>
    (aN q14.2 0 v18 q12.1).bind fun v19 =>
    (gR q14.2 a0 13 8).bind fun v20 =>
    (aN q14.2 0 v20 q12.1).bind fun v21 =>
    some (v19 * v21, q14.2)
  ) else (
    (gI q14.2 a0 13 10).bind fun v16 =>
    (gI q14.2 a0 13 11).bind fun v17 =>
    some (v16 * v17, q14.2)
  )
def fX13_sizeOf_13 (X : px_X)  : Nat → Int32 → Int32 → px_W → Option (Int32 × px_W)
  | 0, _, _, _ => none
  | m + 1, a1, a2, w =>
    if a2 ≤ 0 then (
      some (a1, w)
    ) else (
      (dI a2 2).bind fun v3 =>
      fX13_sizeOf_13 X  m (a1 + 1) v3 w
    )
def fX13_sizeOf_12 (X : px_X)  (a1 : Int32) (s0 : Int32) (w : px_W) : Option (Int32 × px_W) :=
  fX13_sizeOf_13 X  FU a1 s0 w
def fX13_sizeOf (X : px_X) (w : px_W) (a0 : Int32) : Option (Int32 × px_W) :=
  if 0 ≤ a0 then (
    fX13_sizeOf_12 X  0 a0 w
  ) else (
    fX13_sizeOf_12 X  0 (-a0) w
  )
def fX13_raw (X : px_X) (w : px_W) (a0 : Nat) (a1 : Int32) : Option (px_W) :=
  (gI w a0 13 31).bind fun v8 =>
  if v8 = 16384 then (
    (pZ w a0 13 34 1).bind fun w15 =>
    some w15
  ) else (
    (gR w a0 13 30).bind fun v10 =>
    (gI w a0 13 31).bind fun v11 =>
    (sN (vp_nar .byte) w 1 v10 v11 a1.toInt8.toInt32).bind fun w12 =>
    (gI w12 a0 13 31).bind fun v13 =>
    (pV w12 a0 13 31 (.int (v13 + 1))).bind fun w14 =>
    some w14
  )
def fX13_bit_62 (X : px_X)  (a0 : Nat) (w : px_W) : Option (px_W) :=
  (pV w a0 13 32 (.int 0)).bind fun w15 =>
  (pV w15 a0 13 33 (.int 0)).bind fun w16 =>
  some w16
def fX13_bit (X : px_X) (w : px_W) (a0 : Nat) (a1 : Int32) : Option (px_W) :=
  (gI w a0 13 35).bind fun v17 =>
  if v17 = 0 then (
    (gI w a0 13 32).bind fun v19 =>
    (pV w a0 13 32 (.int ((2 * v19) + a1))).bind fun w20 =>
    (gI w20 a0 13 33).bind fun v21 =>
    (pV w20 a0 13 33 (.int (v21 + 1))).bind fun w22 =>
    (gI w22 a0 13 33).bind fun v23 =>
    if v23 = 8 then (
      (gI w22 a0 13 32).bind fun v25 =>
      (gO w22 a0 13).bind fun o26 =>
      (fX13_raw X w22 a0 v25).bind fun q27 =>
      (gI q27 a0 13 32).bind fun v28 =>
      if v28 = 255 then (
        (gO q27 a0 13).bind fun o30 =>
        (fX13_raw X q27 a0 0).bind fun q31 =>
        fX13_bit_62 X  a0 q31
      ) else (
        fX13_bit_62 X  a0 q27
      )
    ) else (
      some w22
    )
  ) else (
    some w
  )
def fX13_low_4 (X : px_X)  : Nat → Nat → Int32 → Int32 → px_W → Option (px_W)
  | 0, _, _, _, _ => none
  | m + 1, a0, a1, a3, w =>
    if a3 < 0 then (
      some w
    ) else (
      (gO w a0 13).bind fun o4 =>
      (fX13_bit X w a0 ((a1 >>> (a3 &&& 31)) &&& 1)).bind fun q5 =>
      fX13_low_4 X  m a0 a1 (a3 + (-1)) q5
    )
def fX13_low (X : px_X) (w : px_W) (a0 : Nat) (a1 : Int32) (a2 : Int32) : Option (px_W) :=
  fX13_low_4 X  FU a0 a1 (a2 - 1) w
def fX13_word_47 (X : px_X)  (a0 : Nat) (a3 : Int32) (s0 : Int32) (s1 : Nat) (w : px_W) : Option (px_W) :=
  (pZ w s1 13 34 s0).bind fun w15 =>
  (gR w15 a0 13 19).bind fun v16 =>
  (aN w15 0 v16 a3).bind fun v17 =>
  (gR w15 a0 13 18).bind fun v18 =>
  (aN w15 0 v18 a3).bind fun v19 =>
  (gO w15 a0 13).bind fun o20 =>
  (fX13_low X w15 a0 v17 v19).bind fun q21 =>
  some q21
def fX13_word_42 (X : px_X)  (a0 : Nat) (a3 : Int32) (s0 : Nat) (w : px_W) : Option (px_W) :=
  fX13_word_47 X  a0 a3 1 s0 w
def fX13_word (X : px_X) (w : px_W) (a0 : Nat) (a1 : Int32) (a2 : Int32) : Option (px_W) :=
  (gR w a0 13 36).bind fun v22 =>
  (aN w 0 v22 ((256 * a1) + a2)).bind fun v23 =>
  (sN id w 0 v22 ((256 * a1) + a2) (v23 + 1)).bind fun w24 =>
  (gI w24 a0 13 35).bind fun v25 =>
  if v25 = 0 then (
    (gI w24 a0 13 34).bind fun v27 =>
    if v27 = 0 then (
      (gR w24 a0 13 18).bind fun v29 =>
      (aN w24 0 v29 ((256 * a1) + a2)).bind fun v30 =>
      if v30 = 0 then (
        fX13_word_42 X  a0 ((256 * a1) + a2) a0 w24
      ) else (
        fX13_word_47 X  a0 ((256 * a1) + a2) 0 a0 w24
      )
    ) else (
      fX13_word_42 X  a0 ((256 * a1) + a2) a0 w24
    )
  ) else (
    some w24
  )
def fX13_number_12 (X : px_X)  (a1 : Int32) (s0 : Int32) (s1 : Nat) (w : px_W) : Option (px_W) :=
  (fX13_sizeOf X w a1).bind fun q4 =>
  (gO q4.2 s1 13).bind fun o5 =>
  (fX13_low X q4.2 s1 s0 q4.1).bind fun q6 =>
  some q6
def fX13_number (X : px_X) (w : px_W) (a0 : Nat) (a1 : Int32) : Option (px_W) :=
  if a1 ≤ 0 then (
    fX13_number_12 X  a1 (a1 - 1) a0 w
  ) else (
    fX13_number_12 X  a1 a1 a0 w
  )
def fX13_sendRun_61 (X : px_X)  (a0 : Nat) (w : px_W) : Option (px_W) :=
  (pV w a0 13 38 (.int 0)).bind fun w16 =>
  (pV w16 a0 13 40 (.int 0)).bind fun w17 =>
  some w17
def fX13_sendRun_37 (X : px_X)  : Nat → Nat → Int32 → px_W → Option (px_W)
  | 0, _, _, _ => none
  | m + 1, a0, a3, w =>
    (gI w a0 13 40).bind fun v18 =>
    if v18 ≤ a3 then (
      fX13_sendRun_61 X  a0 w
    ) else (
      (gR w a0 13 39).bind fun v20 =>
      (aN w 1 v20 a3).bind fun v21 =>
      (gO w a0 13).bind fun o22 =>
      (fX13_bit X w a0 v21).bind fun q23 =>
      fX13_sendRun_37 X  m a0 (a3 + 1) q23
    )
def fX13_sendRun (X : px_X) (w : px_W) (a0 : Nat) (a1 : Int32) : Option (px_W) :=
  (gI w a0 13 38).bind fun v24 =>
  if v24 ≤ 0 then (
    some w
  ) else (
    (gI w a0 13 38).bind fun v26 =>
    (fX13_sizeOf X w v26).bind fun q27 =>
    (gO q27.2 a0 13).bind fun o28 =>
    (fX13_word X q27.2 a0 a1 (16 * (q27.1 - 1))).bind fun q29 =>
    (gI q29 a0 13 38).bind fun v30 =>
    (gO q29 a0 13).bind fun o31 =>
    (fX13_low X q29 a0 v30 (q27.1 - 1)).bind fun q32 =>
    fX13_sendRun_37 X  FU a0 0 q32
  )
def fX13_sendComing_26 (X : px_X)  (a0 : Nat) (w : px_W) : Option (px_W) :=
  (pV w a0 13 42 (.int 0)).bind fun w7 =>
  some w7
def fX13_sendComing_2 (X : px_X)  : Nat → Nat → Int32 → px_W → Option (px_W)
  | 0, _, _, _ => none
  | m + 1, a0, a1, w =>
    (gI w a0 13 42).bind fun v8 =>
    if v8 ≤ a1 then (
      fX13_sendComing_26 X  a0 w
    ) else (
      (gR w a0 13 41).bind fun v10 =>
      (aN w 1 v10 a1).bind fun v11 =>
      (gO w a0 13).bind fun o12 =>
      (fX13_bit X w a0 v11).bind fun q13 =>
      fX13_sendComing_2 X  m a0 (a1 + 1) q13
    )
def fX13_sendComing (X : px_X) (w : px_W) (a0 : Nat) : Option (px_W) :=
  fX13_sendComing_2 X  FU a0 0 w
def fX13_writeDirect (X : px_X) (w : px_W) (a0 : Nat) (a1 : Int32) (a2 : Int32) : Option (px_W) :=
  (gR w a0 13 9).bind fun v23 =>
  (aN w 0 v23 a1).bind fun v24 =>
  (gI w a0 13 25).bind fun v25 =>
  if v25 ≤ 0 then (
    (gR w a0 13 12).bind fun v27 =>
    (aN w 2 v27 (64 * (v24 + a2))).bind fun v28 =>
    (gI w a0 13 26).bind fun v29 =>
    (gR w a0 13 37).bind fun v30 =>
    (aN w 0 v30 a1).bind fun v31 =>
    (gR w a0 13 37).bind fun v32 =>
    (sN id w 0 v32 a1 (v28 >>> (v29 &&& 31))).bind fun w33 =>
    (gR w33 a0 13 20).bind fun v34 =>
    (aN w33 0 v34 a1).bind fun v35 =>
    (fX13_sizeOf X w33 ((v28 >>> (v29 &&& 31)) - v31)).bind fun q36 =>
    (gO q36.2 a0 13).bind fun o37 =>
    (fX13_word X q36.2 a0 v35 q36.1).bind fun q38 =>
    (gO q38 a0 13).bind fun o39 =>
    (fX13_number X q38 a0 ((v28 >>> (v29 &&& 31)) - v31)).bind fun q40 =>
    some q40
  ) else (
    (gR w a0 13 12).bind fun v41 =>
    (aN w 2 v41 (64 * (v24 + a2))).bind fun v42 =>
    (gI w a0 13 26).bind fun v43 =>
    (gO w a0 13).bind fun o44 =>
    (fX13_bit X w a0 ((v42 >>> (v43 &&& 31)) &&& 1)).bind fun q45 =>
    some q45
  )
def fX13_cutOff (X : px_X) (w : px_W) (a0 : Int32) (a1 : Int32) : Option (Int32 × px_W) :=
  if 0 ≤ a0 then (
    some (a0 >>> (a1 &&& 31), w)
  ) else (
    some (-((-a0) >>> (a1 &&& 31)), w)
  )
def fX13_writeOthers_135 (X : px_X) (k28 : Nat → Int32 → Int32 → Int32 → Int32 → Int32 → Int32 → px_W → Option (px_W)) (a0 : Nat) (a1 : Int32) (a2 : Int32) (a4 : Int32) (a5 : Int32) (a6 : Int32) (a7 : Int32) (w : px_W) : Option (px_W) :=
  k28 a0 a1 a2 a4 a5 a6 (a7 + 1) w
def fX13_writeOthers_158 (X : px_X)  (a0 : Nat) (a4 : Int32) (a5 : Int32) (a6 : Int32) (w : px_W) : Option (px_W) :=
  if a6 ≤ 0 then (
    some w
  ) else (
    if a5 = 0 then (
      some w
    ) else (
      (gI w a0 13 38).bind fun v29 =>
      (pV w a0 13 38 (.int (v29 + 1))).bind fun w30 =>
      (gI w30 a0 13 38).bind fun v31 =>
      if v31 = 32767 then (
        (gO w30 a0 13).bind fun o33 =>
        (fX13_sendRun X w30 a0 a4).bind fun q34 =>
        some q34
      ) else (
        some w30
      )
    )
  )
def fX13_writeOthers_141 (X : px_X)  (a0 : Nat) (a4 : Int32) (a5 : Int32) (a6 : Int32) (w : px_W) : Option (px_W) :=
  if a6 ≤ 0 then (
    fX13_writeOthers_158 X  a0 a4 a5 a6 w
  ) else (
    if a5 = 0 then (
      (gO w a0 13).bind fun o37 =>
      (fX13_word X w a0 a4 0).bind fun q38 =>
      fX13_writeOthers_158 X  a0 a4 a5 a6 q38
    ) else (
      fX13_writeOthers_158 X  a0 a4 a5 a6 w
    )
  )
def fX13_writeOthers_109 (X : px_X) (k28 : Nat → Int32 → Int32 → Int32 → Int32 → Int32 → Int32 → px_W → Option (px_W)) (a0 : Nat) (a1 : Int32) (a2 : Int32) (a4 : Int32) (a5 : Int32) (a6 : Int32) (a7 : Int32) (a8 : Int32) (w : px_W) : Option (px_W) :=
  (fX13_sizeOf X w a8).bind fun q39 =>
  (gO q39.2 a0 13).bind fun o40 =>
  (fX13_word X q39.2 a0 a4 ((16 * a6) + q39.1)).bind fun q41 =>
  (gO q41 a0 13).bind fun o42 =>
  (fX13_number X q41 a0 a8).bind fun q43 =>
  fX13_writeOthers_135 X k28 a0 a1 a2 a4 a5 0 a7 q43
def fX13_writeOthers_87 (X : px_X) (k28 : Nat → Int32 → Int32 → Int32 → Int32 → Int32 → Int32 → px_W → Option (px_W)) : Nat → Nat → Int32 → Int32 → Int32 → Int32 → Int32 → Int32 → Int32 → px_W → Option (px_W)
  | 0, _, _, _, _, _, _, _, _, _ => none
  | m + 1, a0, a1, a2, a4, a5, a6, a7, a8, w =>
    if a6 ≤ 15 then (
      fX13_writeOthers_109 X k28 a0 a1 a2 a4 a5 a6 a7 a8 w
    ) else (
      (gO w a0 13).bind fun o45 =>
      (fX13_word X w a0 a4 240).bind fun q46 =>
      fX13_writeOthers_87 X k28 m a0 a1 a2 a4 a5 (a6 + (-16)) a7 a8 q46
    )
def fX13_writeOthers_28 (X : px_X)  : Nat → Nat → Int32 → Int32 → Int32 → Int32 → Int32 → Int32 → px_W → Option (px_W)
  | 0, _, _, _, _, _, _, _, _ => none
  | m + 1, a0, a1, a2, a4, a5, a6, a7, w =>
    (gI w a0 13 24).bind fun v47 =>
    if v47 < a7 then (
      fX13_writeOthers_141 X  a0 a4 a5 a6 w
    ) else (
      (gR w a0 13 12).bind fun v49 =>
      (gR w a0 13 9).bind fun v50 =>
      (aN w 0 v50 a1).bind fun v51 =>
      (aN w 2 v49 ((64 * (v51 + a2)) + a7)).bind fun v52 =>
      (gI w a0 13 26).bind fun v53 =>
      (fX13_cutOff X w v52 v53).bind fun q54 =>
      if q54.1 = 0 then (
        fX13_writeOthers_135 X (fX13_writeOthers_28 X  m) a0 a1 a2 a4 a5 (a6 + 1) a7 q54.2
      ) else (
        if a5 = 0 then (
          fX13_writeOthers_87 X (fX13_writeOthers_28 X  m) FU a0 a1 a2 a4 a5 a6 a7 q54.1 q54.2
        ) else (
          (gO q54.2 a0 13).bind fun o57 =>
          (fX13_sendRun X q54.2 a0 a4).bind fun q58 =>
          fX13_writeOthers_87 X (fX13_writeOthers_28 X  m) FU a0 a1 a2 a4 a5 a6 a7 q54.1 q58
        )
      )
    )
def fX13_writeOthers_20 (X : px_X)  (a0 : Nat) (a1 : Int32) (a2 : Int32) (a3 : Int32) (a4 : Int32) (s0 : Int32) (w : px_W) : Option (px_W) :=
  fX13_writeOthers_28 X  FU a0 a1 a2 a4 s0 0 a3 w
def fX13_writeOthers (X : px_X) (w : px_W) (a0 : Nat) (a1 : Int32) (a2 : Int32) (a3 : Int32) : Option (px_W) :=
  (gR w a0 13 21).bind fun v59 =>
  (aN w 0 v59 a1).bind fun v60 =>
  (gI w a0 13 23).bind fun v61 =>
  if v61 ≤ 0 then (
    fX13_writeOthers_20 X  a0 a1 a2 a3 v60 0 w
  ) else (
    fX13_writeOthers_20 X  a0 a1 a2 a3 v60 1 w
  )
def fX13_amount_33 (X : px_X)  (a0 : Nat) (s0 : Int32) (w : px_W) : Option (Int32 × px_W) :=
  (gI w a0 13 26).bind fun v6 =>
  some (s0 >>> (v6 &&& 31), w)
def fX13_amount (X : px_X) (w : px_W) (a0 : Nat) (a1 : Int32) (a2 : Int32) (a3 : Int32) : Option (Int32 × px_W) :=
  (gR w a0 13 12).bind fun v7 =>
  (gR w a0 13 9).bind fun v8 =>
  (aN w 0 v8 a1).bind fun v9 =>
  (aN w 2 v7 ((64 * (v9 + a2)) + a3)).bind fun v10 =>
  if 0 ≤ v10 then (
    fX13_amount_33 X  a0 v10 w
  ) else (
    fX13_amount_33 X  a0 (-v10) w
  )
def fX13_writeMore_221 (X : px_X) (k66 : Nat → Int32 → Int32 → Int32 → Int32 → Int32 → Int32 → px_W → Option (px_W)) (a0 : Nat) (a1 : Int32) (a2 : Int32) (a3 : Int32) (a4 : Int32) (a5 : Int32) (a6 : Int32) (w : px_W) : Option (px_W) :=
  k66 a0 a1 a2 a3 a4 a5 (a6 + 1) w
def fX13_writeMore_211 (X : px_X) (k66 : Nat → Int32 → Int32 → Int32 → Int32 → Int32 → Int32 → px_W → Option (px_W)) (a0 : Nat) (a1 : Int32) (a2 : Int32) (a3 : Int32) (a4 : Int32) (a6 : Int32) (s0 : Int32) (s1 : Nat) (w : px_W) : Option (px_W) :=
  (gO w s1 13).bind fun o51 =>
  (fX13_bit X w s1 s0).bind fun q52 =>
  (gO q52 a0 13).bind fun o53 =>
  (fX13_sendComing X q52 a0).bind fun q54 =>
  fX13_writeMore_221 X k66 a0 a1 a2 a3 a4 0 a6 q54
def fX13_writeMore_133 (X : px_X) (k66 : Nat → Int32 → Int32 → Int32 → Int32 → Int32 → Int32 → px_W → Option (px_W)) (a0 : Nat) (a1 : Int32) (a2 : Int32) (a3 : Int32) (a4 : Int32) (a5 : Int32) (a6 : Int32) (a7 : Int32) (w : px_W) : Option (px_W) :=
  if a7 ≤ 1 then (
    (gO w a0 13).bind fun o56 =>
    (fX13_sendRun X w a0 a3).bind fun q57 =>
    (gO q57 a0 13).bind fun o58 =>
    (fX13_word X q57 a0 a3 ((16 * a5) + 1)).bind fun q59 =>
    (gR q59 a0 13 12).bind fun v60 =>
    (gR q59 a0 13 9).bind fun v61 =>
    (aN q59 0 v61 a1).bind fun v62 =>
    (aN q59 2 v60 ((64 * (v62 + a2)) + a6)).bind fun v63 =>
    if 0 ≤ v63 then (
      fX13_writeMore_211 X k66 a0 a1 a2 a3 a4 a6 1 a0 q59
    ) else (
      fX13_writeMore_211 X k66 a0 a1 a2 a3 a4 a6 0 a0 q59
    )
  ) else (
    (gR w a0 13 41).bind fun v65 =>
    (gI w a0 13 42).bind fun v66 =>
    (sN (vp_nar .byte) w 1 v65 v66 ((a7 &&& 1).toInt8.toInt32)).bind fun w67 =>
    (gI w67 a0 13 42).bind fun v68 =>
    (pV w67 a0 13 42 (.int (v68 + 1))).bind fun w69 =>
    fX13_writeMore_221 X k66 a0 a1 a2 a3 a4 a5 a6 w69
  )
def fX13_writeMore_96 (X : px_X) (k66 : Nat → Int32 → Int32 → Int32 → Int32 → Int32 → Int32 → px_W → Option (px_W)) : Nat → Nat → Int32 → Int32 → Int32 → Int32 → Int32 → Int32 → Int32 → px_W → Option (px_W)
  | 0, _, _, _, _, _, _, _, _, _ => none
  | m + 1, a0, a1, a2, a3, a4, a5, a6, a7, w =>
    if a5 ≤ 15 then (
      fX13_writeMore_133 X k66 a0 a1 a2 a3 a4 a5 a6 a7 w
    ) else (
      if a4 < a6 then (
        fX13_writeMore_133 X k66 a0 a1 a2 a3 a4 a5 a6 a7 w
      ) else (
        (gO w a0 13).bind fun o72 =>
        (fX13_sendRun X w a0 a3).bind fun q73 =>
        (gO q73 a0 13).bind fun o74 =>
        (fX13_word X q73 a0 a3 240).bind fun q75 =>
        (gO q75 a0 13).bind fun o76 =>
        (fX13_sendComing X q75 a0).bind fun q77 =>
        fX13_writeMore_96 X k66 m a0 a1 a2 a3 a4 (a5 + (-16)) a6 a7 q77
      )
    )
def fX13_writeMore_318 (X : px_X)  (a0 : Nat) (a3 : Int32) (w : px_W) : Option (px_W) :=
  (gO w a0 13).bind fun o78 =>
  (fX13_sendRun X w a0 a3).bind fun q79 =>
  some q79
def fX13_writeMore_293 (X : px_X)  (a0 : Nat) (a3 : Int32) (w : px_W) : Option (px_W) :=
  (pV w a0 13 42 (.int 0)).bind fun w80 =>
  (gI w80 a0 13 38).bind fun v81 =>
  if v81 = 32767 then (
    fX13_writeMore_318 X  a0 a3 w80
  ) else (
    (gI w80 a0 13 40).bind fun v83 =>
    if v83 ≤ 900 then (
      some w80
    ) else (
      fX13_writeMore_318 X  a0 a3 w80
    )
  )
def fX13_writeMore_252 (X : px_X)  : Nat → Nat → Int32 → Int32 → px_W → Option (px_W)
  | 0, _, _, _, _ => none
  | m + 1, a0, a3, a6, w =>
    (gI w a0 13 42).bind fun v85 =>
    if v85 ≤ a6 then (
      fX13_writeMore_293 X  a0 a3 w
    ) else (
      (gR w a0 13 39).bind fun v87 =>
      (gI w a0 13 40).bind fun v88 =>
      (gR w a0 13 41).bind fun v89 =>
      (aN w 1 v89 a6).bind fun v90 =>
      (sN (vp_nar .byte) w 1 v87 v88 v90).bind fun w91 =>
      (gI w91 a0 13 40).bind fun v92 =>
      (pV w91 a0 13 40 (.int (v92 + 1))).bind fun w93 =>
      fX13_writeMore_252 X  m a0 a3 (a6 + 1) w93
    )
def fX13_writeMore_239 (X : px_X)  (a0 : Nat) (a3 : Int32) (w : px_W) : Option (px_W) :=
  (gI w a0 13 38).bind fun v94 =>
  (pV w a0 13 38 (.int (v94 + 1))).bind fun w95 =>
  fX13_writeMore_252 X  FU a0 a3 0 w95
def fX13_writeMore_227 (X : px_X)  (a0 : Nat) (a3 : Int32) (a5 : Int32) (w : px_W) : Option (px_W) :=
  if 0 < a5 then (
    fX13_writeMore_239 X  a0 a3 w
  ) else (
    (gI w a0 13 42).bind fun v97 =>
    if v97 ≤ 0 then (
      some w
    ) else (
      fX13_writeMore_239 X  a0 a3 w
    )
  )
def fX13_writeMore_66 (X : px_X)  : Nat → Nat → Int32 → Int32 → Int32 → Int32 → Int32 → Int32 → px_W → Option (px_W)
  | 0, _, _, _, _, _, _, _, _ => none
  | m + 1, a0, a1, a2, a3, a4, a5, a6, w =>
    (gI w a0 13 24).bind fun v99 =>
    if v99 < a6 then (
      fX13_writeMore_227 X  a0 a3 a5 w
    ) else (
      (gO w a0 13).bind fun o101 =>
      (fX13_amount X w a0 a1 a2 a6).bind fun q102 =>
      if q102.1 = 0 then (
        fX13_writeMore_221 X (fX13_writeMore_66 X  m) a0 a1 a2 a3 a4 (a5 + 1) a6 q102.2
      ) else (
        fX13_writeMore_96 X (fX13_writeMore_66 X  m) FU a0 a1 a2 a3 a4 a5 a6 q102.1 q102.2
      )
    )
def fX13_writeMore_52 (X : px_X)  (a0 : Nat) (a1 : Int32) (a2 : Int32) (a3 : Int32) (a4 : Int32) (w : px_W) : Option (px_W) :=
  (pV w a0 13 42 (.int 0)).bind fun w104 =>
  (gI w104 a0 13 23).bind fun v105 =>
  fX13_writeMore_66 X  FU a0 a1 a2 a3 a4 0 v105 w104
def fX13_writeMore_44 (X : px_X) (k16 : Nat → Int32 → Int32 → Int32 → Int32 → Int32 → px_W → Option (px_W)) (a0 : Nat) (a1 : Int32) (a2 : Int32) (a3 : Int32) (a5 : Int32) (s0 : Int32) (w : px_W) : Option (px_W) :=
  k16 a0 a1 a2 a3 s0 (a5 + 1) w
def fX13_writeMore_16 (X : px_X)  : Nat → Nat → Int32 → Int32 → Int32 → Int32 → Int32 → px_W → Option (px_W)
  | 0, _, _, _, _, _, _, _ => none
  | m + 1, a0, a1, a2, a3, a4, a5, w =>
    (gI w a0 13 24).bind fun v106 =>
    if v106 < a5 then (
      fX13_writeMore_52 X  a0 a1 a2 a3 a4 w
    ) else (
      (gO w a0 13).bind fun o108 =>
      (fX13_amount X w a0 a1 a2 a5).bind fun q109 =>
      if q109.1 = 1 then (
        fX13_writeMore_44 X (fX13_writeMore_16 X  m) a0 a1 a2 a3 a5 a5 q109.2
      ) else (
        fX13_writeMore_44 X (fX13_writeMore_16 X  m) a0 a1 a2 a3 a5 a4 q109.2
      )
    )
def fX13_writeMore (X : px_X) (w : px_W) (a0 : Nat) (a1 : Int32) (a2 : Int32) : Option (px_W) :=
  (gR w a0 13 21).bind fun v111 =>
  (aN w 0 v111 a1).bind fun v112 =>
  (gI w a0 13 23).bind fun v113 =>
  fX13_writeMore_16 X  FU a0 a1 a2 v112 ((-1)) v113 w
def fX13_writeBlock_51 (X : px_X)  (a0 : Nat) (a1 : Int32) (a2 : Int32) (w : px_W) : Option (px_W) :=
  (gI w a0 13 24).bind fun v13 =>
  if v13 ≤ 0 then (
    some w
  ) else (
    (gO w a0 13).bind fun o15 =>
    (fX13_writeMore X w a0 a1 a2).bind fun q16 =>
    some q16
  )
def fX13_writeBlock_45 (X : px_X)  (s0 : Int32) (s1 : Int32) (s2 : Int32) (s3 : Nat) (w : px_W) : Option (px_W) :=
  (gO w s3 13).bind fun o17 =>
  (fX13_writeOthers X w s3 s2 s1 s0).bind fun q18 =>
  some q18
def fX13_writeBlock_13 (X : px_X)  (a0 : Nat) (a1 : Int32) (a2 : Int32) (w : px_W) : Option (px_W) :=
  (gI w a0 13 24).bind fun v19 =>
  if v19 ≤ 0 then (
    fX13_writeBlock_51 X  a0 a1 a2 w
  ) else (
    (gI w a0 13 25).bind fun v21 =>
    if v21 = 0 then (
      (gI w a0 13 23).bind fun v23 =>
      if v23 = 0 then (
        fX13_writeBlock_45 X  1 a2 a1 a0 w
      ) else (
        (gI w a0 13 23).bind fun v25 =>
        fX13_writeBlock_45 X  v25 a2 a1 a0 w
      )
    ) else (
      fX13_writeBlock_51 X  a0 a1 a2 w
    )
  )
def fX13_writeBlock (X : px_X) (w : px_W) (a0 : Nat) (a1 : Int32) (a2 : Int32) : Option (px_W) :=
  (gI w a0 13 23).bind fun v26 =>
  if v26 = 0 then (
    (gO w a0 13).bind fun o28 =>
    (fX13_writeDirect X w a0 a1 a2).bind fun q29 =>
    fX13_writeBlock_13 X  a0 a1 a2 q29
  ) else (
    fX13_writeBlock_13 X  a0 a1 a2 w
  )
def fX13_blockOf (X : px_X) (w : px_W) (a0 : Nat) (a1 : Int32) (a2 : Int32) (a3 : Int32) : Option (Int32 × px_W) :=
  (gI w a0 13 22).bind fun v27 =>
  (fX13_ones X w v27).bind fun q28 =>
  if q28.1 = 1 then (
    (gR q28.2 a0 13 7).bind fun v46 =>
    (aN q28.2 0 v46 a1).bind fun v47 =>
    (dI a2 v47).bind fun v48 =>
    (gR q28.2 a0 13 5).bind fun v49 =>
    (aN q28.2 0 v49 a1).bind fun v50 =>
    (gR q28.2 a0 13 7).bind fun v51 =>
    (aN q28.2 0 v51 a1).bind fun v52 =>
    (rI a2 v52).bind fun v53 =>
    some ((v48 * v50) + v53, q28.2)
  ) else (
    (gI q28.2 a0 13 10).bind fun v30 =>
    (rI a2 v30).bind fun v31 =>
    (gR q28.2 a0 13 3).bind fun v32 =>
    (aN q28.2 0 v32 a1).bind fun v33 =>
    (gR q28.2 a0 13 3).bind fun v34 =>
    (aN q28.2 0 v34 a1).bind fun v35 =>
    (rI a3 v35).bind fun v36 =>
    (gI q28.2 a0 13 10).bind fun v37 =>
    (dI a2 v37).bind fun v38 =>
    (gR q28.2 a0 13 4).bind fun v39 =>
    (aN q28.2 0 v39 a1).bind fun v40 =>
    (gR q28.2 a0 13 3).bind fun v41 =>
    (aN q28.2 0 v41 a1).bind fun v42 =>
    (dI a3 v42).bind fun v43 =>
    (gR q28.2 a0 13 5).bind fun v44 =>
    (aN q28.2 0 v44 a1).bind fun v45 =>
    some ((((v38 * v40) + v43) * v45) + ((v31 * v33) + v36), q28.2)
  )
def fX13_blocksIn (X : px_X) (w : px_W) (a0 : Nat) (a1 : Int32) : Option (Int32 × px_W) :=
  (gI w a0 13 22).bind fun v8 =>
  if ((v8 >>> (a1 &&& 31)) &&& 1) = 0 then (
    some (0, w)
  ) else (
    (gI w a0 13 22).bind fun v10 =>
    (fX13_ones X w v10).bind fun q11 =>
    if q11.1 = 1 then (
      some (1, q11.2)
    ) else (
      (gR q11.2 a0 13 3).bind fun v13 =>
      (aN q11.2 0 v13 a1).bind fun v14 =>
      (gR q11.2 a0 13 4).bind fun v15 =>
      (aN q11.2 0 v15 a1).bind fun v16 =>
      some (v14 * v16, q11.2)
    )
  )
def fX13_align_0 (X : px_X)  : Nat → Nat → px_W → Option (px_W)
  | 0, _, _ => none
  | m + 1, a0, w =>
    (gI w a0 13 33).bind fun v4 =>
    if v4 ≤ 0 then (
      some w
    ) else (
      (gO w a0 13).bind fun o6 =>
      (fX13_bit X w a0 1).bind fun q7 =>
      fX13_align_0 X  m a0 q7
    )
def fX13_align (X : px_X) (w : px_W) (a0 : Nat) : Option (px_W) :=
  fX13_align_0 X  FU a0 w
def fX13_writeAll_195 (X : px_X) (k82 : Nat → Int32 → Int32 → Int32 → px_W → Option (px_W)) (k163 : Nat → Int32 → Int32 → Int32 → Int32 → Int32 → px_W → Option (px_W)) (a0 : Nat) (a1 : Int32) (a2 : Int32) (a3 : Int32) (a4 : Int32) (a5 : Int32) (s0 : Int32) (s1 : Int32) (s2 : Nat) (w : px_W) : Option (px_W) :=
  (sN id w 0 s2 s1 s0).bind fun w46 =>
  k163 a0 a1 a2 a3 a4 (a5 + 1) w46
def fX13_writeAll_184 (X : px_X) (k82 : Nat → Int32 → Int32 → Int32 → px_W → Option (px_W)) (k163 : Nat → Int32 → Int32 → Int32 → Int32 → Int32 → px_W → Option (px_W)) (a0 : Nat) (a1 : Int32) (a2 : Int32) (a3 : Int32) (a4 : Int32) (a5 : Int32) (s0 : Int32) (s1 : Nat) (w : px_W) : Option (px_W) :=
  fX13_writeAll_195 X k82 k163 a0 a1 a2 a3 a4 a5 0 s0 s1 w
def fX13_writeAll_249 (X : px_X) (k82 : Nat → Int32 → Int32 → Int32 → px_W → Option (px_W)) (k205 : Nat → Int32 → Int32 → Int32 → Int32 → px_W → Option (px_W)) (a0 : Nat) (a1 : Int32) (a2 : Int32) (a3 : Int32) (a5 : Int32) (w : px_W) : Option (px_W) :=
  k205 a0 a1 a2 a3 (a5 + 1) w
def fX13_writeAll_217 (X : px_X) (k82 : Nat → Int32 → Int32 → Int32 → px_W → Option (px_W)) (k205 : Nat → Int32 → Int32 → Int32 → Int32 → px_W → Option (px_W)) : Nat → Nat → Int32 → Int32 → Int32 → Int32 → Int32 → px_W → Option (px_W)
  | 0, _, _, _, _, _, _, _ => none
  | m + 1, a0, a1, a2, a3, a5, a6, w =>
    (gO w a0 13).bind fun o47 =>
    (fX13_blocksIn X w a0 a5).bind fun q48 =>
    if q48.1 ≤ a6 then (
      fX13_writeAll_249 X k82 k205 a0 a1 a2 a3 a5 q48.2
    ) else (
      (gO q48.2 a0 13).bind fun o50 =>
      (fX13_blockOf X q48.2 a0 a5 a3 a6).bind fun q51 =>
      (gO q51.2 a0 13).bind fun o52 =>
      (fX13_writeBlock X q51.2 a0 a5 q51.1).bind fun q53 =>
      fX13_writeAll_217 X k82 k205 m a0 a1 a2 a3 a5 (a6 + 1) q53
    )
def fX13_writeAll_255 (X : px_X) (k82 : Nat → Int32 → Int32 → Int32 → px_W → Option (px_W)) (a0 : Nat) (a1 : Int32) (a2 : Int32) (a3 : Int32) (w : px_W) : Option (px_W) :=
  k82 a0 a1 a2 (a3 + 1) w
def fX13_writeAll_205 (X : px_X) (k82 : Nat → Int32 → Int32 → Int32 → px_W → Option (px_W)) : Nat → Nat → Int32 → Int32 → Int32 → Int32 → px_W → Option (px_W)
  | 0, _, _, _, _, _, _ => none
  | m + 1, a0, a1, a2, a3, a5, w =>
    (gI w a0 13 2).bind fun v54 =>
    if v54 ≤ a5 then (
      fX13_writeAll_255 X k82 a0 a1 a2 a3 w
    ) else (
      fX13_writeAll_217 X k82 (fX13_writeAll_205 X k82 m) FU a0 a1 a2 a3 a5 0 w
    )
def fX13_writeAll_202 (X : px_X) (k82 : Nat → Int32 → Int32 → Int32 → px_W → Option (px_W)) (a0 : Nat) (a1 : Int32) (a2 : Int32) (a3 : Int32) (w : px_W) : Option (px_W) :=
  fX13_writeAll_205 X k82 FU a0 a1 a2 a3 0 w
def fX13_writeAll_163 (X : px_X) (k82 : Nat → Int32 → Int32 → Int32 → px_W → Option (px_W)) : Nat → Nat → Int32 → Int32 → Int32 → Int32 → Int32 → px_W → Option (px_W)
  | 0, _, _, _, _, _, _, _ => none
  | m + 1, a0, a1, a2, a3, a4, a5, w =>
    if 4 ≤ a5 then (
      fX13_writeAll_202 X k82 a0 a1 a2 a3 w
    ) else (
      (gR w a0 13 37).bind fun v57 =>
      if a3 = 0 then (
        fX13_writeAll_184 X k82 (fX13_writeAll_163 X k82 m) a0 a1 a2 a3 a4 a5 a5 v57 w
      ) else (
        if a4 = 0 then (
          (gR w a0 13 37).bind fun v60 =>
          (aN w 0 v60 a5).bind fun v61 =>
          fX13_writeAll_195 X k82 (fX13_writeAll_163 X k82 m) a0 a1 a2 a3 a4 a5 v61 a5 v57 w
        ) else (
          fX13_writeAll_184 X k82 (fX13_writeAll_163 X k82 m) a0 a1 a2 a3 a4 a5 a5 v57 w
        )
      )
    )
def fX13_writeAll_160 (X : px_X) (k82 : Nat → Int32 → Int32 → Int32 → px_W → Option (px_W)) (a0 : Nat) (a1 : Int32) (a2 : Int32) (a3 : Int32) (a4 : Int32) (w : px_W) : Option (px_W) :=
  fX13_writeAll_163 X k82 FU a0 a1 a2 a3 a4 0 w
def fX13_writeAll_157 (X : px_X) (k82 : Nat → Int32 → Int32 → Int32 → px_W → Option (px_W)) (a0 : Nat) (a1 : Int32) (a2 : Int32) (a3 : Int32) (a4 : Int32) (w : px_W) : Option (px_W) :=
  fX13_writeAll_160 X k82 a0 a1 (a2 + 1) a3 a4 w
def fX13_writeAll_115 (X : px_X) (k82 : Nat → Int32 → Int32 → Int32 → px_W → Option (px_W)) (a0 : Nat) (a1 : Int32) (a2 : Int32) (a3 : Int32) (s0 : Int32) (w : px_W) : Option (px_W) :=
  if s0 = 0 then (
    fX13_writeAll_160 X k82 a0 a1 a2 a3 s0 w
  ) else (
    (gO w a0 13).bind fun o63 =>
    (fX13_sendRun X w a0 a1).bind fun q64 =>
    (gI q64 a0 13 35).bind fun v65 =>
    if v65 = 0 then (
      (gO q64 a0 13).bind fun o67 =>
      (fX13_align X q64 a0).bind fun q68 =>
      (gO q68 a0 13).bind fun o69 =>
      (fX13_raw X q68 a0 255).bind fun q70 =>
      (rI a2 8).bind fun v71 =>
      (gO q70 a0 13).bind fun o72 =>
      (fX13_raw X q70 a0 (208 + v71)).bind fun q73 =>
      fX13_writeAll_157 X k82 a0 a1 a2 a3 s0 q73
    ) else (
      fX13_writeAll_157 X k82 a0 a1 a2 a3 s0 q64
    )
  )
def fX13_writeAll_114 (X : px_X) (k82 : Nat → Int32 → Int32 → Int32 → px_W → Option (px_W)) (a0 : Nat) (a1 : Int32) (a2 : Int32) (a3 : Int32) (w : px_W) : Option (px_W) :=
  fX13_writeAll_115 X k82 a0 a1 a2 a3 0 w
def fX13_writeAll_261 (X : px_X)  (a0 : Nat) (a1 : Int32) (w : px_W) : Option (px_W) :=
  (gO w a0 13).bind fun o74 =>
  (fX13_sendRun X w a0 a1).bind fun q75 =>
  (gO q75 a0 13).bind fun o76 =>
  (fX13_align X q75 a0).bind fun q77 =>
  some q77
def fX13_writeAll_82 (X : px_X)  : Nat → Nat → Int32 → Int32 → Int32 → px_W → Option (px_W)
  | 0, _, _, _, _, _ => none
  | m + 1, a0, a1, a2, a3, w =>
    (gO w a0 13).bind fun o78 =>
    (fX13_units X w a0).bind fun q79 =>
    if q79.1 ≤ a3 then (
      fX13_writeAll_261 X  a0 a1 q79.2
    ) else (
      (gI q79.2 a0 13 27).bind fun v81 =>
      if v81 ≤ 0 then (
        fX13_writeAll_114 X (fX13_writeAll_82 X  m) a0 a1 a2 a3 q79.2
      ) else (
        if a3 ≤ 0 then (
          fX13_writeAll_114 X (fX13_writeAll_82 X  m) a0 a1 a2 a3 q79.2
        ) else (
          (gI q79.2 a0 13 27).bind fun v84 =>
          (rI a3 v84).bind fun v85 =>
          if v85 = 0 then (
            fX13_writeAll_115 X (fX13_writeAll_82 X  m) a0 a1 a2 a3 1 q79.2
          ) else (
            fX13_writeAll_114 X (fX13_writeAll_82 X  m) a0 a1 a2 a3 q79.2
          )
        )
      )
    )
def fX13_writeAll_68 (X : px_X)  (a0 : Nat) (w : px_W) : Option (px_W) :=
  (gR w a0 13 21).bind fun v87 =>
  (gO w a0 13).bind fun o88 =>
  (fX13_single X w a0).bind fun q89 =>
  (aN q89.2 0 v87 q89.1).bind fun v90 =>
  fX13_writeAll_82 X  FU a0 v90 0 0 q89.2
def fX13_writeAll_61 (X : px_X) (k32 : Nat → Int32 → px_W → Option (px_W)) (a0 : Nat) (a1 : Int32) (s0 : Int32) (s1 : Int32) (s2 : Nat) (w : px_W) : Option (px_W) :=
  (sN id w 0 s2 s1 s0).bind fun w91 =>
  k32 a0 (a1 + 1) w91
def fX13_writeAll_32 (X : px_X)  : Nat → Nat → Int32 → px_W → Option (px_W)
  | 0, _, _, _ => none
  | m + 1, a0, a1, w =>
    if 2048 ≤ a1 then (
      fX13_writeAll_68 X  a0 w
    ) else (
      (gR w a0 13 36).bind fun v93 =>
      (gI w a0 13 35).bind fun v94 =>
      if v94 = 0 then (
        (gR w a0 13 36).bind fun v96 =>
        (aN w 0 v96 a1).bind fun v97 =>
        fX13_writeAll_61 X (fX13_writeAll_32 X  m) a0 a1 v97 a1 v93 w
      ) else (
        fX13_writeAll_61 X (fX13_writeAll_32 X  m) a0 a1 0 a1 v93 w
      )
    )
def fX13_writeAll (X : px_X) (w : px_W) (a0 : Nat) : Option (px_W) :=
  (pV w a0 13 31 (.int 0)).bind fun w98 =>
  (pV w98 a0 13 32 (.int 0)).bind fun w99 =>
  (pV w99 a0 13 33 (.int 0)).bind fun w100 =>
  (pZ w100 a0 13 34 0).bind fun w101 =>
  (pV w101 a0 13 38 (.int 0)).bind fun w102 =>
  (pV w102 a0 13 40 (.int 0)).bind fun w103 =>
  fX13_writeAll_32 X  FU a0 0 w103
def fX13_write_108 (X : px_X)  (a0 : Nat) (w : px_W) : Option (Int32 × px_W) :=
  (gI w a0 13 29).bind fun v21 =>
  some (v21, w)
def fX13_write_82 (X : px_X)  : Nat → Nat → Int32 → px_W → Option (Int32 × px_W)
  | 0, _, _, _ => none
  | m + 1, a0, a1, w =>
    (gI w a0 13 31).bind fun v22 =>
    if v22 ≤ a1 then (
      fX13_write_108 X  a0 w
    ) else (
      (gR w a0 13 28).bind fun v24 =>
      (gR w a0 13 30).bind fun v25 =>
      (aN w 1 v25 a1).bind fun v26 =>
      (sN (vp_nar .byte) w 1 v24 a1 v26).bind fun w27 =>
      fX13_write_82 X  m a0 (a1 + 1) w27
    )
def fX13_write_63 (X : px_X)  (a0 : Nat) (w : px_W) : Option (Int32 × px_W) :=
  (gI w a0 13 34).bind fun v28 =>
  if v28 = 0 then (
    (gI w a0 13 31).bind fun v30 =>
    (pV w a0 13 29 (.int v30)).bind fun w31 =>
    fX13_write_82 X  FU a0 0 w31
  ) else (
    some ((-1), w)
  )
def fX13_write_38 (X : px_X)  : Nat → Nat → Int32 → px_W → Option (Int32 × px_W)
  | 0, _, _, _ => none
  | m + 1, a0, a1, w =>
    if 2048 ≤ a1 then (
      fX13_write_63 X  a0 w
    ) else (
      (gR w a0 13 36).bind fun v33 =>
      (gR w a0 13 47).bind fun v34 =>
      (aN w 0 v34 a1).bind fun v35 =>
      (sN id w 0 v33 a1 v35).bind fun w36 =>
      fX13_write_38 X  m a0 (a1 + 1) w36
    )
def fX13_write_32 (X : px_X)  (a0 : Nat) (w : px_W) : Option (Int32 × px_W) :=
  (gO w a0 13).bind fun o37 =>
  (fX13_writeAll X w a0).bind fun q38 =>
  fX13_write_38 X  FU a0 0 q38
def fX13_write_7 (X : px_X)  : Nat → Nat → Int32 → px_W → Option (Int32 × px_W)
  | 0, _, _, _ => none
  | m + 1, a0, a1, w =>
    if 2048 ≤ a1 then (
      fX13_write_32 X  a0 w
    ) else (
      (gR w a0 13 47).bind fun v40 =>
      (gR w a0 13 36).bind fun v41 =>
      (aN w 0 v41 a1).bind fun v42 =>
      (sN id w 0 v40 a1 v42).bind fun w43 =>
      fX13_write_7 X  m a0 (a1 + 1) w43
    )
def fX13_write (X : px_X) (w : px_W) (a0 : Nat) : Option (Int32 × px_W) :=
  (pZ w a0 13 35 0).bind fun w44 =>
  fX13_write_7 X  FU a0 0 w44
def fX13_tally_13 (X : px_X)  : Nat → Nat → Int32 → Int32 → px_W → Option (Int32 × px_W)
  | 0, _, _, _, _ => none
  | m + 1, a0, a1, a2, w =>
    if 2048 ≤ a2 then (
      some (a1, w)
    ) else (
      (gR w a0 13 36).bind fun v7 =>
      (aN w 0 v7 a2).bind fun v8 =>
      fX13_tally_13 X  m a0 (a1 + v8) (a2 + 1) w
    )
def fX13_tally (X : px_X) (w : px_W) (a0 : Nat) : Option (Int32 × px_W) :=
  (pZ w a0 13 35 1).bind fun w9 =>
  (gO w9 a0 13).bind fun o10 =>
  (fX13_writeAll X w9 a0).bind fun q11 =>
  fX13_tally_13 X  FU a0 0 0 q11
def fX13_wrong_16 (X : px_X)  (s0 : Int32) (s1 : Nat) (w : px_W) : Option (Int32 × px_W) :=
  (pV w s1 13 46 (.int s0)).bind fun w4 =>
  some (0, w4)
def fX13_wrong (X : px_X) (w : px_W) (a0 : Nat) (a1 : Int32) : Option (Int32 × px_W) :=
  (gI w a0 13 46).bind fun v5 =>
  if v5 = 0 then (
    fX13_wrong_16 X  a1 a0 w
  ) else (
    (gI w a0 13 46).bind fun v7 =>
    fX13_wrong_16 X  v7 a0 w
  )
def fX13_atRestart (X : px_X) (w : px_W) (a0 : Nat) : Option (Int32 × px_W) :=
  (gI w a0 13 43).bind fun v12 =>
  (gI w a0 13 29).bind fun v13 =>
  if v13 ≤ (v12 + 1) then (
    some (0, w)
  ) else (
    (gR w a0 13 28).bind fun v15 =>
    (gI w a0 13 43).bind fun v16 =>
    (aN w 1 v15 v16).bind fun v17 =>
    if (v17 &&& 255) = 255 then (
      (gR w a0 13 28).bind fun v19 =>
      (gI w a0 13 43).bind fun v20 =>
      (aN w 1 v19 (v20 + 1)).bind fun v21 =>
      if (v21 &&& 255) < 208 then (
        some (0, w)
      ) else (
        (gR w a0 13 28).bind fun v23 =>
        (gI w a0 13 43).bind fun v24 =>
        (aN w 1 v23 (v24 + 1)).bind fun v25 =>
        if 215 < (v25 &&& 255) then (
          some (0, w)
        ) else (
          some (1, w)
        )
      )
    ) else (
      some (0, w)
    )
  )
def fX13_takeBit_34 (X : px_X)  (a0 : Nat) (w : px_W) : Option (Int32 × px_W) :=
  (gO w a0 13).bind fun o29 =>
  (fX13_wrong X w a0 1).bind fun q30 =>
  some (q30.1, q30.2)
def fX13_takeBit_94 (X : px_X)  (a0 : Nat) (w : px_W) : Option (Int32 × px_W) :=
  (gO w a0 13).bind fun o31 =>
  (fX13_wrong X w a0 6).bind fun q32 =>
  some (q32.1, q32.2)
def fX13_takeBit_131 (X : px_X)  (a0 : Nat) (w : px_W) : Option (Int32 × px_W) :=
  (gI w a0 13 45).bind fun v33 =>
  (pV w a0 13 45 (.int (v33 - 1))).bind fun w34 =>
  (gI w34 a0 13 44).bind fun v35 =>
  (gI w34 a0 13 45).bind fun v36 =>
  some ((v35 >>> (v36 &&& 31)) &&& 1, w34)
def fX13_takeBit_121 (X : px_X)  (a0 : Nat) (s0 : Int32) (s1 : Int32) (s2 : Nat) (w : px_W) : Option (Int32 × px_W) :=
  (pV w s2 13 43 (.int (s1 + s0))).bind fun w37 =>
  (pV w37 a0 13 45 (.int 8)).bind fun w38 =>
  fX13_takeBit_131 X  a0 w38
def fX13_takeBit_101 (X : px_X)  (a0 : Nat) (w : px_W) : Option (Int32 × px_W) :=
  (gI w a0 13 43).bind fun v39 =>
  (gI w a0 13 44).bind fun v40 =>
  if v40 = 255 then (
    fX13_takeBit_121 X  a0 2 v39 a0 w
  ) else (
    fX13_takeBit_121 X  a0 1 v39 a0 w
  )
def fX13_takeBit (X : px_X) (w : px_W) (a0 : Nat) : Option (Int32 × px_W) :=
  (gI w a0 13 46).bind fun v42 =>
  if v42 ≤ 0 then (
    (gI w a0 13 45).bind fun v44 =>
    if v44 = 0 then (
      (gI w a0 13 43).bind fun v46 =>
      (gI w a0 13 29).bind fun v47 =>
      if v46 = v47 then (
        fX13_takeBit_34 X  a0 w
      ) else (
        (gO w a0 13).bind fun o49 =>
        (fX13_atRestart X w a0).bind fun q50 =>
        if q50.1 = 0 then (
          (gR q50.2 a0 13 28).bind fun v52 =>
          (gI q50.2 a0 13 43).bind fun v53 =>
          (aN q50.2 1 v52 v53).bind fun v54 =>
          (pV q50.2 a0 13 44 (.int (v54 &&& 255))).bind fun w55 =>
          (gI w55 a0 13 44).bind fun v56 =>
          if v56 = 255 then (
            (gI w55 a0 13 43).bind fun v58 =>
            (gI w55 a0 13 29).bind fun v59 =>
            if (v58 + 1) = v59 then (
              fX13_takeBit_94 X  a0 w55
            ) else (
              (gR w55 a0 13 28).bind fun v61 =>
              (gI w55 a0 13 43).bind fun v62 =>
              (aN w55 1 v61 (v62 + 1)).bind fun v63 =>
              if v63 = 0 then (
                fX13_takeBit_101 X  a0 w55
              ) else (
                fX13_takeBit_94 X  a0 w55
              )
            )
          ) else (
            fX13_takeBit_101 X  a0 w55
          )
        ) else (
          fX13_takeBit_34 X  a0 q50.2
        )
      )
    ) else (
      fX13_takeBit_131 X  a0 w
    )
  ) else (
    some (0, w)
  )
def fX13_takeBits_4 (X : px_X)  : Nat → Nat → Int32 → Int32 → Int32 → px_W → Option (Int32 × px_W)
  | 0, _, _, _, _, _ => none
  | m + 1, a0, a1, a2, a3, w =>
    if a1 ≤ a3 then (
      some (a2, w)
    ) else (
      (gO w a0 13).bind fun o4 =>
      (fX13_takeBit X w a0).bind fun q5 =>
      fX13_takeBits_4 X  m a0 a1 ((2 * a2) + q5.1) (a3 + 1) q5.2
    )
def fX13_takeBits (X : px_X) (w : px_W) (a0 : Nat) (a1 : Int32) : Option (Int32 × px_W) :=
  fX13_takeBits_4 X  FU a0 a1 0 0 w
def fX13_symbol_128 (X : px_X)  (a0 : Nat) (w : px_W) : Option (Int32 × px_W) :=
  (gO w a0 13).bind fun o12 =>
  (fX13_wrong X w a0 2).bind fun q13 =>
  some (q13.1, q13.2)
def fX13_symbol_123 (X : px_X) (k4 : Nat → Int32 → Int32 → Int32 → px_W → Option (Int32 × px_W)) (a0 : Nat) (a1 : Int32) (a2 : Int32) (a3 : Int32) (a4 : Int32) (w : px_W) : Option (Int32 × px_W) :=
  if a4 = 0 then (
    fX13_symbol_128 X  a0 w
  ) else (
    (gO w a0 13).bind fun o15 =>
    (fX13_takeBit X w a0).bind fun q16 =>
    k4 a0 a1 ((2 * a2) + q16.1) (a3 + 1) q16.2
  )
def fX13_symbol_115 (X : px_X) (k4 : Nat → Int32 → Int32 → Int32 → px_W → Option (Int32 × px_W)) (k23 : Nat → Int32 → Int32 → Int32 → Int32 → Int32 → px_W → Option (Int32 × px_W)) (a0 : Nat) (a1 : Int32) (a2 : Int32) (a3 : Int32) (a5 : Int32) (s0 : Int32) (w : px_W) : Option (Int32 × px_W) :=
  k23 a0 a1 a2 a3 s0 (a5 + 1) w
def fX13_symbol_114 (X : px_X) (k4 : Nat → Int32 → Int32 → Int32 → px_W → Option (Int32 × px_W)) (k23 : Nat → Int32 → Int32 → Int32 → Int32 → Int32 → px_W → Option (Int32 × px_W)) (a0 : Nat) (a1 : Int32) (a2 : Int32) (a3 : Int32) (a5 : Int32) (w : px_W) : Option (Int32 × px_W) :=
  fX13_symbol_115 X k4 k23 a0 a1 a2 a3 a5 0 w
def fX13_symbol_110 (X : px_X) (k4 : Nat → Int32 → Int32 → Int32 → px_W → Option (Int32 × px_W)) (k23 : Nat → Int32 → Int32 → Int32 → Int32 → Int32 → px_W → Option (Int32 × px_W)) (a0 : Nat) (a1 : Int32) (a2 : Int32) (a3 : Int32) (a5 : Int32) (w : px_W) : Option (Int32 × px_W) :=
  fX13_symbol_115 X k4 k23 a0 a1 a2 a3 a5 1 w
def fX13_symbol_77 (X : px_X) (k4 : Nat → Int32 → Int32 → Int32 → px_W → Option (Int32 × px_W)) (k23 : Nat → Int32 → Int32 → Int32 → Int32 → Int32 → px_W → Option (Int32 × px_W)) (a0 : Nat) (a1 : Int32) (a2 : Int32) (a3 : Int32) (a4 : Int32) (a5 : Int32) (a6 : Int32) (w : px_W) : Option (Int32 × px_W) :=
  if a4 = 0 then (
    if a6 ≤ a3 then (
      fX13_symbol_114 X k4 k23 a0 a1 a2 a3 a5 w
    ) else (
      (gR w a0 13 19).bind fun v19 =>
      (aN w 0 v19 ((256 * a1) + a5)).bind fun v20 =>
      if (v20 >>> ((a6 - a3) &&& 31)) = a2 then (
        fX13_symbol_110 X k4 k23 a0 a1 a2 a3 a5 w
      ) else (
        fX13_symbol_114 X k4 k23 a0 a1 a2 a3 a5 w
      )
    )
  ) else (
    fX13_symbol_110 X k4 k23 a0 a1 a2 a3 a5 w
  )
def fX13_symbol_23 (X : px_X) (k4 : Nat → Int32 → Int32 → Int32 → px_W → Option (Int32 × px_W)) : Nat → Nat → Int32 → Int32 → Int32 → Int32 → Int32 → px_W → Option (Int32 × px_W)
  | 0, _, _, _, _, _, _, _ => none
  | m + 1, a0, a1, a2, a3, a4, a5, w =>
    if 256 ≤ a5 then (
      fX13_symbol_123 X k4 a0 a1 a2 a3 a4 w
    ) else (
      (gR w a0 13 18).bind fun v23 =>
      (aN w 0 v23 ((256 * a1) + a5)).bind fun v24 =>
      if v24 ≤ 0 then (
        fX13_symbol_77 X k4 (fX13_symbol_23 X k4 m) a0 a1 a2 a3 a4 a5 v24 w
      ) else (
        if v24 = a3 then (
          (gR w a0 13 19).bind fun v27 =>
          (aN w 0 v27 ((256 * a1) + a5)).bind fun v28 =>
          if v28 = a2 then (
            some (a5, w)
          ) else (
            fX13_symbol_77 X k4 (fX13_symbol_23 X k4 m) a0 a1 a2 a3 a4 a5 v24 w
          )
        ) else (
          fX13_symbol_77 X k4 (fX13_symbol_23 X k4 m) a0 a1 a2 a3 a4 a5 v24 w
        )
      )
    )
def fX13_symbol_4 (X : px_X)  : Nat → Nat → Int32 → Int32 → Int32 → px_W → Option (Int32 × px_W)
  | 0, _, _, _, _, _ => none
  | m + 1, a0, a1, a2, a3, w =>
    if 16 < a3 then (
      some (0, w)
    ) else (
      (gI w a0 13 46).bind fun v31 =>
      if v31 = 0 then (
        fX13_symbol_23 X (fX13_symbol_4 X  m) FU a0 a1 a2 a3 0 0 w
      ) else (
        some (0, w)
      )
    )
def fX13_symbol (X : px_X) (w : px_W) (a0 : Nat) (a1 : Int32) : Option (Int32 × px_W) :=
  fX13_symbol_4 X  FU a0 a1 0 0 w
def fX13_numberOf (X : px_X) (w : px_W) (a0 : Nat) (a1 : Int32) : Option (Int32 × px_W) :=
  (gO w a0 13).bind fun o3 =>
  (fX13_takeBits X w a0 a1).bind fun q4 =>
  if a1 = 0 then (
    some (0, q4.2)
  ) else (
    if (q4.1 >>> ((a1 - 1) &&& 31)) = 1 then (
      some (q4.1, q4.2)
    ) else (
      some ((q4.1 - ((1 : Int32) <<< (a1 &&& 31))) + 1, q4.2)
    )
  )
def fX13_become_23 (X : px_X)  (a0 : Nat) (a1 : Int32) (a2 : Int32) (a3 : Int32) (a4 : Int32) (w : px_W) : Option (px_W) :=
  (gI w a0 13 46).bind fun v10 =>
  if v10 = 0 then (
    (gR w a0 13 12).bind fun v12 =>
    (gR w a0 13 9).bind fun v13 =>
    (aN w 0 v13 a1).bind fun v14 =>
    (sN (vp_nar .short) w 2 v12 ((64 * (v14 + a2)) + a3) a4.toInt16.toInt32).bind fun w15 =>
    some w15
  ) else (
    some w
  )
def fX13_become (X : px_X) (w : px_W) (a0 : Nat) (a1 : Int32) (a2 : Int32) (a3 : Int32) (a4 : Int32) : Option (px_W) :=
  (gI w a0 13 46).bind fun v16 =>
  if v16 = 0 then (
    (fX13_canBe X w a3 a4).bind fun q18 =>
    if q18.1 = 0 then (
      (gO q18.2 a0 13).bind fun o20 =>
      (fX13_wrong X q18.2 a0 4).bind fun q21 =>
      fX13_become_23 X  a0 a1 a2 a3 a4 q21.2
    ) else (
      fX13_become_23 X  a0 a1 a2 a3 a4 q18.2
    )
  ) else (
    fX13_become_23 X  a0 a1 a2 a3 a4 w
  )
def fX13_readDirect_148 (X : px_X)  (a0 : Nat) (a1 : Int32) (a6 : Int32) (s0 : Int32) (s1 : Int32) (s2 : Int32) (s3 : Int32) (s4 : Nat) (w : px_W) : Option (px_W) :=
  (gO w s4 13).bind fun o29 =>
  (fX13_become X w s4 s3 s2 s1 s0).bind fun q30 =>
  (gR q30 a0 13 37).bind fun v31 =>
  (sN id q30 0 v31 a1 a6).bind fun w32 =>
  some w32
def fX13_readDirect_133 (X : px_X)  (a0 : Nat) (a1 : Int32) (a6 : Int32) (s0 : Int32) (s1 : Int32) (s2 : Int32) (s3 : Nat) (w : px_W) : Option (px_W) :=
  fX13_readDirect_148 X  a0 a1 a6 9999 s0 s1 s2 s3 w
def fX13_readDirect_97 (X : px_X)  (a0 : Nat) (a1 : Int32) (a2 : Int32) (s0 : Int32) (s1 : Nat) (w : px_W) : Option (px_W) :=
  (gO w s1 13).bind fun o33 =>
  (fX13_numberOf X w s1 s0).bind fun q34 =>
  (gR q34.2 a0 13 37).bind fun v35 =>
  (aN q34.2 0 v35 a1).bind fun v36 =>
  if (v36 + q34.1) < ((-1024)) then (
    fX13_readDirect_133 X  a0 a1 (v36 + q34.1) 0 a2 a1 a0 q34.2
  ) else (
    if (v36 + q34.1) ≤ 1023 then (
      (gI q34.2 a0 13 26).bind fun v39 =>
      fX13_readDirect_148 X  a0 a1 (v36 + q34.1) ((v36 + q34.1) * ((1 : Int32) <<< (v39 &&& 31))) 0 a2 a1 a0 q34.2
    ) else (
      fX13_readDirect_133 X  a0 a1 (v36 + q34.1) 0 a2 a1 a0 q34.2
    )
  )
def fX13_readDirect_83 (X : px_X)  (a0 : Nat) (a1 : Int32) (a2 : Int32) (a4 : Int32) (w : px_W) : Option (px_W) :=
  (gI w a0 13 46).bind fun v40 =>
  if v40 ≤ 0 then (
    fX13_readDirect_97 X  a0 a1 a2 a4 a0 w
  ) else (
    fX13_readDirect_97 X  a0 a1 a2 0 a0 w
  )
def fX13_readDirect (X : px_X) (w : px_W) (a0 : Nat) (a1 : Int32) (a2 : Int32) : Option (px_W) :=
  (gR w a0 13 9).bind fun v42 =>
  (aN w 0 v42 a1).bind fun v43 =>
  (gI w a0 13 25).bind fun v44 =>
  if v44 ≤ 0 then (
    (gR w a0 13 20).bind fun v46 =>
    (aN w 0 v46 a1).bind fun v47 =>
    (gO w a0 13).bind fun o48 =>
    (fX13_symbol X w a0 v47).bind fun q49 =>
    if q49.1 ≤ 11 then (
      fX13_readDirect_83 X  a0 a1 a2 q49.1 q49.2
    ) else (
      (gO q49.2 a0 13).bind fun o51 =>
      (fX13_wrong X q49.2 a0 3).bind fun q52 =>
      fX13_readDirect_83 X  a0 a1 a2 q49.1 q52.2
    )
  ) else (
    (gR w a0 13 12).bind fun v53 =>
    (gO w a0 13).bind fun o54 =>
    (fX13_takeBit X w a0).bind fun q55 =>
    if q55.1 = 1 then (
      (gR q55.2 a0 13 12).bind fun v60 =>
      (aN q55.2 2 v60 (64 * (v43 + a2))).bind fun v61 =>
      (gI q55.2 a0 13 26).bind fun v62 =>
      (sN (vp_nar .short) q55.2 2 v53 (64 * (v43 + a2)) ((v61 ||| ((1 : Int32) <<< (v62 &&& 31))).toInt16.toInt32)).bind fun w63 =>
      some w63
    ) else (
      (gR q55.2 a0 13 12).bind fun v57 =>
      (aN q55.2 2 v57 (64 * (v43 + a2))).bind fun v58 =>
      (sN (vp_nar .short) q55.2 2 v53 (64 * (v43 + a2)) v58.toInt16.toInt32).bind fun w59 =>
      some w59
    )
  )
def fX13_readOthers_276 (X : px_X) (k78 : Nat → Int32 → Int32 → Int32 → Int32 → px_W → Option (px_W)) (a0 : Nat) (a1 : Int32) (a2 : Int32) (a4 : Int32) (a5 : Int32) (w : px_W) : Option (px_W) :=
  k78 a0 a1 a2 a4 (a5 + 1) w
def fX13_readOthers_197 (X : px_X)  (a0 : Nat) (w : px_W) : Option (px_W) :=
  (gO w a0 13).bind fun o33 =>
  (fX13_wrong X w a0 3).bind fun q34 =>
  some q34.2
def fX13_readOthers_273 (X : px_X) (k78 : Nat → Int32 → Int32 → Int32 → Int32 → px_W → Option (px_W)) (a0 : Nat) (a1 : Int32) (a2 : Int32) (a4 : Int32) (a5 : Int32) (s0 : Int32) (s1 : Int32) (s2 : Int32) (s3 : Int32) (s4 : Nat) (w : px_W) : Option (px_W) :=
  (gO w s4 13).bind fun o35 =>
  (fX13_become X w s4 s3 s2 s1 s0).bind fun q36 =>
  fX13_readOthers_276 X k78 a0 a1 a2 a4 a5 q36
def fX13_readOthers_238 (X : px_X) (k78 : Nat → Int32 → Int32 → Int32 → Int32 → px_W → Option (px_W)) (a0 : Nat) (a1 : Int32) (a2 : Int32) (a4 : Int32) (a5 : Int32) (a9 : Int32) (s0 : Int32) (w : px_W) : Option (px_W) :=
  (gI w a0 13 26).bind fun v37 =>
  if s0 ≤ ((1023 : Int32) >>> (v37 &&& 31)) then (
    (gI w a0 13 26).bind fun v39 =>
    fX13_readOthers_273 X k78 a0 a1 a2 a4 a5 (a9 * ((1 : Int32) <<< (v39 &&& 31))) a5 a2 a1 a0 w
  ) else (
    fX13_readOthers_273 X k78 a0 a1 a2 a4 a5 9999 a5 a2 a1 a0 w
  )
def fX13_readOthers_178 (X : px_X) (k78 : Nat → Int32 → Int32 → Int32 → Int32 → px_W → Option (px_W)) (a0 : Nat) (a1 : Int32) (a2 : Int32) (a4 : Int32) (a5 : Int32) (a7 : Int32) (a8 : Int32) (w : px_W) : Option (px_W) :=
  if 10 < a8 then (
    fX13_readOthers_197 X  a0 w
  ) else (
    (gI w a0 13 24).bind fun v41 =>
    if (a5 + a7) ≤ v41 then (
      if a8 ≤ 0 then (
        fX13_readOthers_276 X k78 a0 a1 a2 a4 (a5 + a7) w
      ) else (
        (gO w a0 13).bind fun o44 =>
        (fX13_numberOf X w a0 a8).bind fun q45 =>
        if 0 ≤ q45.1 then (
          fX13_readOthers_238 X k78 a0 a1 a2 a4 (a5 + a7) q45.1 q45.1 q45.2
        ) else (
          fX13_readOthers_238 X k78 a0 a1 a2 a4 (a5 + a7) q45.1 (-q45.1) q45.2
        )
      )
    ) else (
      fX13_readOthers_197 X  a0 w
    )
  )
def fX13_readOthers_140 (X : px_X)  (a0 : Nat) (a4 : Int32) (a7 : Int32) (w : px_W) : Option (px_W) :=
  if a4 = 0 then (
    if a7 ≤ 0 then (
      some w
    ) else (
      (gO w a0 13).bind fun o49 =>
      (fX13_wrong X w a0 3).bind fun q50 =>
      some q50.2
    )
  ) else (
    (gO w a0 13).bind fun o51 =>
    (fX13_takeBits X w a0 a7).bind fun q52 =>
    (pV q52.2 a0 13 38 (.int ((((1 : Int32) <<< (a7 &&& 31)) + q52.1) - 1))).bind fun w53 =>
    some w53
  )
def fX13_readOthers_78 (X : px_X)  : Nat → Nat → Int32 → Int32 → Int32 → Int32 → px_W → Option (px_W)
  | 0, _, _, _, _, _, _ => none
  | m + 1, a0, a1, a2, a4, a5, w =>
    (gI w a0 13 24).bind fun v54 =>
    if v54 < a5 then (
      some w
    ) else (
      (gI w a0 13 46).bind fun v56 =>
      if v56 = 0 then (
        (gR w a0 13 21).bind fun v58 =>
        (aN w 0 v58 a1).bind fun v59 =>
        (gO w a0 13).bind fun o60 =>
        (fX13_symbol X w a0 v59).bind fun q61 =>
        (dI q61.1 16).bind fun v62 =>
        (rI q61.1 16).bind fun v63 =>
        (gI q61.2 a0 13 46).bind fun v64 =>
        if v64 ≤ 0 then (
          if v63 = 0 then (
            if 15 ≤ v62 then (
              fX13_readOthers_178 X (fX13_readOthers_78 X  m) a0 a1 a2 a4 a5 v62 v63 q61.2
            ) else (
              fX13_readOthers_140 X  a0 a4 v62 q61.2
            )
          ) else (
            fX13_readOthers_178 X (fX13_readOthers_78 X  m) a0 a1 a2 a4 a5 v62 v63 q61.2
          )
        ) else (
          some q61.2
        )
      ) else (
        some w
      )
    )
def fX13_readOthers_75 (X : px_X)  (a0 : Nat) (a1 : Int32) (a2 : Int32) (a3 : Int32) (a4 : Int32) (w : px_W) : Option (px_W) :=
  fX13_readOthers_78 X  FU a0 a1 a2 a4 a3 w
def fX13_readOthers_52 (X : px_X)  (a0 : Nat) (a1 : Int32) (a2 : Int32) (a3 : Int32) (a4 : Int32) (w : px_W) : Option (px_W) :=
  if a4 = 0 then (
    fX13_readOthers_75 X  a0 a1 a2 a3 a4 w
  ) else (
    (gI w a0 13 38).bind fun v69 =>
    if v69 ≤ 0 then (
      fX13_readOthers_75 X  a0 a1 a2 a3 a4 w
    ) else (
      (gI w a0 13 38).bind fun v71 =>
      (pV w a0 13 38 (.int (v71 - 1))).bind fun w72 =>
      some w72
    )
  )
def fX13_readOthers_17 (X : px_X)  : Nat → Nat → Int32 → Int32 → Int32 → Int32 → Int32 → px_W → Option (px_W)
  | 0, _, _, _, _, _, _, _ => none
  | m + 1, a0, a1, a2, a3, a4, a5, w =>
    (gI w a0 13 24).bind fun v73 =>
    if v73 < a5 then (
      fX13_readOthers_52 X  a0 a1 a2 a3 a4 w
    ) else (
      (gR w a0 13 12).bind fun v75 =>
      (gR w a0 13 9).bind fun v76 =>
      (aN w 0 v76 a1).bind fun v77 =>
      (sN (vp_nar .short) w 2 v75 ((64 * (v77 + a2)) + a5) 0).bind fun w78 =>
      fX13_readOthers_17 X  m a0 a1 a2 a3 a4 (a5 + 1) w78
    )
def fX13_readOthers_12 (X : px_X)  (a0 : Nat) (a1 : Int32) (a2 : Int32) (a3 : Int32) (s0 : Int32) (w : px_W) : Option (px_W) :=
  fX13_readOthers_17 X  FU a0 a1 a2 a3 s0 a3 w
def fX13_readOthers (X : px_X) (w : px_W) (a0 : Nat) (a1 : Int32) (a2 : Int32) (a3 : Int32) : Option (px_W) :=
  (gI w a0 13 23).bind fun v79 =>
  if v79 ≤ 0 then (
    fX13_readOthers_12 X  a0 a1 a2 a3 0 w
  ) else (
    fX13_readOthers_12 X  a0 a1 a2 a3 1 w
  )
def fX13_more_51 (X : px_X)  (a0 : Nat) (a4 : Int32) (a5 : Int32) (s0 : Int32) (w : px_W) : Option (px_W) :=
  (gO w a0 13).bind fun o20 =>
  (fX13_takeBit X w a0).bind fun q21 =>
  if q21.1 = 1 then (
    if (s0 &&& a5) = 0 then (
      (gR q21.2 a0 13 12).bind fun v24 =>
      (gR q21.2 a0 13 12).bind fun v25 =>
      (aN q21.2 2 v25 a4).bind fun v26 =>
      if 0 ≤ v26 then (
        (gR q21.2 a0 13 12).bind fun v28 =>
        (aN q21.2 2 v28 a4).bind fun v29 =>
        (sN (vp_nar .short) q21.2 2 v24 a4 ((v29 + a5).toInt16.toInt32)).bind fun w30 =>
        some w30
      ) else (
        (gR q21.2 a0 13 12).bind fun v31 =>
        (aN q21.2 2 v31 a4).bind fun v32 =>
        (sN (vp_nar .short) q21.2 2 v24 a4 ((v32 - a5).toInt16.toInt32)).bind fun w33 =>
        some w33
      )
    ) else (
      some q21.2
    )
  ) else (
    some q21.2
  )
def fX13_more (X : px_X) (w : px_W) (a0 : Nat) (a1 : Int32) (a2 : Int32) (a3 : Int32) : Option (px_W) :=
  (gR w a0 13 9).bind fun v34 =>
  (aN w 0 v34 a1).bind fun v35 =>
  (gI w a0 13 26).bind fun v36 =>
  (gR w a0 13 12).bind fun v37 =>
  (aN w 2 v37 ((64 * (v35 + a2)) + a3)).bind fun v38 =>
  if 0 ≤ v38 then (
    (gR w a0 13 12).bind fun v40 =>
    (aN w 2 v40 ((64 * (v35 + a2)) + a3)).bind fun v41 =>
    fX13_more_51 X  a0 ((64 * (v35 + a2)) + a3) ((1 : Int32) <<< (v36 &&& 31)) v41 w
  ) else (
    (gR w a0 13 12).bind fun v42 =>
    (aN w 2 v42 ((64 * (v35 + a2)) + a3)).bind fun v43 =>
    fX13_more_51 X  a0 ((64 * (v35 + a2)) + a3) ((1 : Int32) <<< (v36 &&& 31)) (-v43) w
  )
def fX13_over_73 (X : px_X) (k7 : Nat → Int32 → Int32 → Int32 → Int32 → px_W → Option (Int32 × px_W)) (a0 : Nat) (a1 : Int32) (a2 : Int32) (a5 : Int32) (a6 : Int32) (w : px_W) : Option (Int32 × px_W) :=
  k7 a0 a1 a2 (a5 + 1) a6 w
def fX13_over_23 (X : px_X)  (a0 : Nat) (w : px_W) : Option (Int32 × px_W) :=
  (gO w a0 13).bind fun o11 =>
  (fX13_wrong X w a0 3).bind fun q12 =>
  some (q12.1, q12.2)
def fX13_over_7 (X : px_X)  : Nat → Nat → Int32 → Int32 → Int32 → Int32 → px_W → Option (Int32 × px_W)
  | 0, _, _, _, _, _, _ => none
  | m + 1, a0, a1, a2, a5, a6, w =>
    (gI w a0 13 46).bind fun v13 =>
    if v13 = 0 then (
      (gI w a0 13 24).bind fun v15 =>
      if a5 ≤ v15 then (
        (gR w a0 13 12).bind fun v17 =>
        (gR w a0 13 9).bind fun v18 =>
        (aN w 0 v18 a1).bind fun v19 =>
        (aN w 2 v17 ((64 * (v19 + a2)) + a5)).bind fun v20 =>
        if v20 = 0 then (
          if a6 = 0 then (
            some (a5, w)
          ) else (
            fX13_over_73 X (fX13_over_7 X  m) a0 a1 a2 a5 (a6 + (-1)) w
          )
        ) else (
          (gO w a0 13).bind fun o23 =>
          (fX13_more X w a0 a1 a2 a5).bind fun q24 =>
          fX13_over_73 X (fX13_over_7 X  m) a0 a1 a2 a5 a6 q24
        )
      ) else (
        fX13_over_23 X  a0 w
      )
    ) else (
      some (0, w)
    )
def fX13_over (X : px_X) (w : px_W) (a0 : Nat) (a1 : Int32) (a2 : Int32) (a3 : Int32) (a4 : Int32) : Option (Int32 × px_W) :=
  fX13_over_7 X  FU a0 a1 a2 a3 a4 w
def fX13_readMore_194 (X : px_X) (k5 : Nat → Int32 → Int32 → Int32 → px_W → Option (px_W)) (a0 : Nat) (a1 : Int32) (a2 : Int32) (a3 : Int32) (w : px_W) : Option (px_W) :=
  k5 a0 a1 a2 a3 w
def fX13_readMore_191 (X : px_X) (k5 : Nat → Int32 → Int32 → Int32 → px_W → Option (px_W)) (a0 : Nat) (a1 : Int32) (a2 : Int32) (a3 : Int32) (w : px_W) : Option (px_W) :=
  fX13_readMore_194 X k5 a0 a1 a2 (a3 + 1) w
def fX13_readMore_189 (X : px_X) (k5 : Nat → Int32 → Int32 → Int32 → px_W → Option (px_W)) (a0 : Nat) (a1 : Int32) (a2 : Int32) (a3 : Int32) (s0 : Int32) (s1 : Int32) (s2 : Nat) (w : px_W) : Option (px_W) :=
  (sN (vp_nar .short) w 2 s2 s1 s0.toInt16.toInt32).bind fun w40 =>
  fX13_readMore_191 X k5 a0 a1 a2 a3 w40
def fX13_readMore_125 (X : px_X) (k5 : Nat → Int32 → Int32 → Int32 → px_W → Option (px_W)) (a0 : Nat) (a1 : Int32) (a2 : Int32) (a3 : Int32) (a5 : Int32) (a6 : Int32) (s0 : Int32) (w : px_W) : Option (px_W) :=
  (gO w a0 13).bind fun o41 =>
  (fX13_over X w a0 a1 a2 a3 a5).bind fun q42 =>
  (gI q42.2 a0 13 46).bind fun v43 =>
  if v43 = 0 then (
    if a6 = 1 then (
      (gR q42.2 a0 13 12).bind fun v46 =>
      (gR q42.2 a0 13 9).bind fun v47 =>
      (aN q42.2 0 v47 a1).bind fun v48 =>
      if s0 = 1 then (
        (gI q42.2 a0 13 26).bind fun v51 =>
        fX13_readMore_189 X k5 a0 a1 a2 q42.1 ((1 : Int32) <<< (v51 &&& 31)) ((64 * (v48 + a2)) + q42.1) v46 q42.2
      ) else (
        (gI q42.2 a0 13 26).bind fun v50 =>
        fX13_readMore_189 X k5 a0 a1 a2 q42.1 (-((1 : Int32) <<< (v50 &&& 31))) ((64 * (v48 + a2)) + q42.1) v46 q42.2
      )
    ) else (
      fX13_readMore_191 X k5 a0 a1 a2 q42.1 q42.2
    )
  ) else (
    fX13_readMore_191 X k5 a0 a1 a2 q42.1 q42.2
  )
def fX13_readMore_111 (X : px_X) (k5 : Nat → Int32 → Int32 → Int32 → px_W → Option (px_W)) (a0 : Nat) (a1 : Int32) (a2 : Int32) (a3 : Int32) (a5 : Int32) (a6 : Int32) (w : px_W) : Option (px_W) :=
  if a6 = 1 then (
    (gO w a0 13).bind fun o53 =>
    (fX13_takeBit X w a0).bind fun q54 =>
    fX13_readMore_125 X k5 a0 a1 a2 a3 a5 a6 q54.1 q54.2
  ) else (
    fX13_readMore_125 X k5 a0 a1 a2 a3 a5 a6 0 w
  )
def fX13_readMore_73 (X : px_X) (k5 : Nat → Int32 → Int32 → Int32 → px_W → Option (px_W)) (a0 : Nat) (a1 : Int32) (a2 : Int32) (a3 : Int32) (a5 : Int32) (a6 : Int32) (w : px_W) : Option (px_W) :=
  (gI w a0 13 46).bind fun v55 =>
  if v55 ≤ 0 then (
    if a6 = 0 then (
      if 15 ≤ a5 then (
        fX13_readMore_111 X k5 a0 a1 a2 a3 a5 a6 w
      ) else (
        (gO w a0 13).bind fun o59 =>
        (fX13_takeBits X w a0 a5).bind fun q60 =>
        (pV q60.2 a0 13 38 (.int (((1 : Int32) <<< (a5 &&& 31)) + q60.1))).bind fun w61 =>
        fX13_readMore_194 X k5 a0 a1 a2 a3 w61
      )
    ) else (
      fX13_readMore_111 X k5 a0 a1 a2 a3 a5 a6 w
    )
  ) else (
    some w
  )
def fX13_readMore_253 (X : px_X)  (a0 : Nat) (w : px_W) : Option (px_W) :=
  (gI w a0 13 38).bind fun v62 =>
  (pV w a0 13 38 (.int (v62 - 1))).bind fun w63 =>
  some w63
def fX13_readMore_247 (X : px_X) (k204 : Nat → Int32 → Int32 → Int32 → px_W → Option (px_W)) (a0 : Nat) (a1 : Int32) (a2 : Int32) (a3 : Int32) (w : px_W) : Option (px_W) :=
  k204 a0 a1 a2 (a3 + 1) w
def fX13_readMore_204 (X : px_X)  : Nat → Nat → Int32 → Int32 → Int32 → px_W → Option (px_W)
  | 0, _, _, _, _, _ => none
  | m + 1, a0, a1, a2, a3, w =>
    (gI w a0 13 24).bind fun v64 =>
    if v64 < a3 then (
      fX13_readMore_253 X  a0 w
    ) else (
      (gI w a0 13 46).bind fun v66 =>
      if v66 = 0 then (
        (gR w a0 13 12).bind fun v68 =>
        (gR w a0 13 9).bind fun v69 =>
        (aN w 0 v69 a1).bind fun v70 =>
        (aN w 2 v68 ((64 * (v70 + a2)) + a3)).bind fun v71 =>
        if v71 = 0 then (
          fX13_readMore_247 X (fX13_readMore_204 X  m) a0 a1 a2 a3 w
        ) else (
          (gO w a0 13).bind fun o73 =>
          (fX13_more X w a0 a1 a2 a3).bind fun q74 =>
          fX13_readMore_247 X (fX13_readMore_204 X  m) a0 a1 a2 a3 q74
        )
      ) else (
        fX13_readMore_253 X  a0 w
      )
    )
def fX13_readMore_197 (X : px_X)  (a0 : Nat) (a1 : Int32) (a2 : Int32) (a3 : Int32) (w : px_W) : Option (px_W) :=
  (gI w a0 13 38).bind fun v75 =>
  if v75 ≤ 0 then (
    some w
  ) else (
    fX13_readMore_204 X  FU a0 a1 a2 a3 w
  )
def fX13_readMore_5 (X : px_X)  : Nat → Nat → Int32 → Int32 → Int32 → px_W → Option (px_W)
  | 0, _, _, _, _, _ => none
  | m + 1, a0, a1, a2, a3, w =>
    (gI w a0 13 24).bind fun v77 =>
    if v77 < a3 then (
      fX13_readMore_197 X  a0 a1 a2 a3 w
    ) else (
      (gI w a0 13 38).bind fun v79 =>
      if v79 = 0 then (
        (gI w a0 13 46).bind fun v81 =>
        if v81 = 0 then (
          (gR w a0 13 21).bind fun v83 =>
          (aN w 0 v83 a1).bind fun v84 =>
          (gO w a0 13).bind fun o85 =>
          (fX13_symbol X w a0 v84).bind fun q86 =>
          (dI q86.1 16).bind fun v87 =>
          (rI q86.1 16).bind fun v88 =>
          (gI q86.2 a0 13 46).bind fun v89 =>
          if v89 = 0 then (
            if v88 ≤ 1 then (
              fX13_readMore_73 X (fX13_readMore_5 X  m) a0 a1 a2 a3 v87 v88 q86.2
            ) else (
              (gO q86.2 a0 13).bind fun o92 =>
              (fX13_wrong X q86.2 a0 3).bind fun q93 =>
              fX13_readMore_73 X (fX13_readMore_5 X  m) a0 a1 a2 a3 v87 v88 q93.2
            )
          ) else (
            fX13_readMore_73 X (fX13_readMore_5 X  m) a0 a1 a2 a3 v87 v88 q86.2
          )
        ) else (
          fX13_readMore_197 X  a0 a1 a2 a3 w
        )
      ) else (
        fX13_readMore_197 X  a0 a1 a2 a3 w
      )
    )
def fX13_readMore (X : px_X) (w : px_W) (a0 : Nat) (a1 : Int32) (a2 : Int32) : Option (px_W) :=
  (gI w a0 13 23).bind fun v94 =>
  fX13_readMore_5 X  FU a0 a1 a2 v94 w
def fX13_readBlock_58 (X : px_X)  (a0 : Nat) (a1 : Int32) (a2 : Int32) (w : px_W) : Option (px_W) :=
  (gI w a0 13 24).bind fun v15 =>
  if v15 ≤ 0 then (
    some w
  ) else (
    (gI w a0 13 46).bind fun v17 =>
    if v17 = 0 then (
      (gO w a0 13).bind fun o19 =>
      (fX13_readMore X w a0 a1 a2).bind fun q20 =>
      some q20
    ) else (
      some w
    )
  )
def fX13_readBlock_52 (X : px_X)  (s0 : Int32) (s1 : Int32) (s2 : Int32) (s3 : Nat) (w : px_W) : Option (px_W) :=
  (gO w s3 13).bind fun o21 =>
  (fX13_readOthers X w s3 s2 s1 s0).bind fun q22 =>
  some q22
def fX13_readBlock_13 (X : px_X)  (a0 : Nat) (a1 : Int32) (a2 : Int32) (w : px_W) : Option (px_W) :=
  (gI w a0 13 24).bind fun v23 =>
  if v23 ≤ 0 then (
    fX13_readBlock_58 X  a0 a1 a2 w
  ) else (
    (gI w a0 13 25).bind fun v25 =>
    if v25 = 0 then (
      (gI w a0 13 46).bind fun v27 =>
      if v27 = 0 then (
        (gI w a0 13 23).bind fun v29 =>
        if v29 = 0 then (
          fX13_readBlock_52 X  1 a2 a1 a0 w
        ) else (
          (gI w a0 13 23).bind fun v31 =>
          fX13_readBlock_52 X  v31 a2 a1 a0 w
        )
      ) else (
        fX13_readBlock_58 X  a0 a1 a2 w
      )
    ) else (
      fX13_readBlock_58 X  a0 a1 a2 w
    )
  )
def fX13_readBlock (X : px_X) (w : px_W) (a0 : Nat) (a1 : Int32) (a2 : Int32) : Option (px_W) :=
  (gI w a0 13 23).bind fun v32 =>
  if v32 = 0 then (
    (gO w a0 13).bind fun o34 =>
    (fX13_readDirect X w a0 a1 a2).bind fun q35 =>
    fX13_readBlock_13 X  a0 a1 a2 q35
  ) else (
    fX13_readBlock_13 X  a0 a1 a2 w
  )
def fX13_finish_44 (X : px_X) (k15 : Nat → Int32 → Int32 → Int32 → px_W → Option (px_W)) (a0 : Nat) (a1 : Int32) (a3 : Int32) (s0 : Int32) (w : px_W) : Option (px_W) :=
  k15 a0 a1 s0 (a3 + 1) w
def fX13_finish_43 (X : px_X) (k15 : Nat → Int32 → Int32 → Int32 → px_W → Option (px_W)) (a0 : Nat) (a1 : Int32) (a3 : Int32) (w : px_W) : Option (px_W) :=
  fX13_finish_44 X k15 a0 a1 a3 0 w
def fX13_finish_141 (X : px_X)  (s0 : Int32) (s1 : Int32) (s2 : Nat) (w : px_W) : Option (px_W) :=
  (pV w s2 13 43 (.int (s1 + s0))).bind fun w17 =>
  some w17
def fX13_finish_122 (X : px_X)  (a0 : Nat) (a1 : Int32) (w : px_W) : Option (px_W) :=
  (pV w a0 13 45 (.int 0)).bind fun w18 =>
  (gI w18 a0 13 43).bind fun v19 =>
  if a1 = 0 then (
    fX13_finish_141 X  0 v19 a0 w18
  ) else (
    fX13_finish_141 X  2 v19 a0 w18
  )
def fX13_finish_104 (X : px_X)  (a0 : Nat) (a1 : Int32) (s0 : Int32) (w : px_W) : Option (px_W) :=
  if s0 = 0 then (
    (gI w a0 13 46).bind fun v22 =>
    if v22 = 0 then (
      (gO w a0 13).bind fun o24 =>
      (fX13_wrong X w a0 5).bind fun q25 =>
      fX13_finish_122 X  a0 a1 q25.2
    ) else (
      fX13_finish_122 X  a0 a1 w
    )
  ) else (
    fX13_finish_122 X  a0 a1 w
  )
def fX13_finish_99 (X : px_X)  (a0 : Nat) (a1 : Int32) (w : px_W) : Option (px_W) :=
  fX13_finish_104 X  a0 a1 1 w
def fX13_finish_103 (X : px_X)  (a0 : Nat) (a1 : Int32) (w : px_W) : Option (px_W) :=
  fX13_finish_104 X  a0 a1 0 w
def fX13_finish_51 (X : px_X)  (a0 : Nat) (a1 : Int32) (a2 : Int32) (w : px_W) : Option (px_W) :=
  if a2 = 0 then (
    fX13_finish_103 X  a0 a1 w
  ) else (
    if a1 = 0 then (
      (gI w a0 13 43).bind fun v35 =>
      (gI w a0 13 29).bind fun v36 =>
      if v35 = v36 then (
        fX13_finish_99 X  a0 a1 w
      ) else (
        fX13_finish_103 X  a0 a1 w
      )
    ) else (
      (gO w a0 13).bind fun o28 =>
      (fX13_atRestart X w a0).bind fun q29 =>
      if q29.1 = 0 then (
        fX13_finish_103 X  a0 a1 q29.2
      ) else (
        (gR q29.2 a0 13 28).bind fun v31 =>
        (gI q29.2 a0 13 43).bind fun v32 =>
        (aN q29.2 1 v31 (v32 + 1)).bind fun v33 =>
        if (v33 &&& 255) = a1 then (
          fX13_finish_99 X  a0 a1 q29.2
        ) else (
          fX13_finish_103 X  a0 a1 q29.2
        )
      )
    )
  )
def fX13_finish_15 (X : px_X)  : Nat → Nat → Int32 → Int32 → Int32 → px_W → Option (px_W)
  | 0, _, _, _, _, _ => none
  | m + 1, a0, a1, a2, a3, w =>
    (gI w a0 13 45).bind fun v38 =>
    if v38 ≤ a3 then (
      fX13_finish_51 X  a0 a1 a2 w
    ) else (
      if a2 = 0 then (
        fX13_finish_43 X (fX13_finish_15 X  m) a0 a1 a3 w
      ) else (
        (gI w a0 13 44).bind fun v41 =>
        if ((v41 >>> (a3 &&& 31)) &&& 1) = 1 then (
          fX13_finish_44 X (fX13_finish_15 X  m) a0 a1 a3 1 w
        ) else (
          fX13_finish_43 X (fX13_finish_15 X  m) a0 a1 a3 w
        )
      )
    )
