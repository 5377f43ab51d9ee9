def fX13_finish_12 (X : px_X)  (a0 : Nat) (a1 : Int32) (s0 : Int32) (w : px_W) : Option (px_W) :=
  fX13_finish_15 X  FU a0 a1 s0 0 w
def fX13_finish (X : px_X) (w : px_W) (a0 : Nat) (a1 : Int32) : Option (px_W) :=
  (gI w a0 13 38).bind fun v43 =>
  if v43 = 0 then (
    fX13_finish_12 X  a0 a1 1 w
  ) else (
    fX13_finish_12 X  a0 a1 0 w
  )
def fX13_readAll_159 (X : px_X) (k4 : Nat → Int32 → Int32 → px_W → Option (px_W)) (k108 : Nat → Int32 → Int32 → Int32 → px_W → Option (px_W)) (a0 : Nat) (a1 : Int32) (a2 : Int32) (a4 : Int32) (w : px_W) : Option (px_W) :=
  k108 a0 a1 a2 (a4 + 1) w
def fX13_readAll_120 (X : px_X) (k4 : Nat → Int32 → Int32 → px_W → Option (px_W)) (k108 : Nat → Int32 → Int32 → Int32 → px_W → Option (px_W)) : Nat → Nat → Int32 → Int32 → Int32 → Int32 → px_W → Option (px_W)
  | 0, _, _, _, _, _, _ => none
  | m + 1, a0, a1, a2, a4, a5, w =>
    (gO w a0 13).bind fun o25 =>
    (fX13_blocksIn X w a0 a4).bind fun q26 =>
    if q26.1 ≤ a5 then (
      fX13_readAll_159 X k4 k108 a0 a1 a2 a4 q26.2
    ) else (
      (gI q26.2 a0 13 46).bind fun v28 =>
      if v28 = 0 then (
        (gO q26.2 a0 13).bind fun o30 =>
        (fX13_blockOf X q26.2 a0 a4 a2 a5).bind fun q31 =>
        (gO q31.2 a0 13).bind fun o32 =>
        (fX13_readBlock X q31.2 a0 a4 q31.1).bind fun q33 =>
        fX13_readAll_120 X k4 k108 m a0 a1 a2 a4 (a5 + 1) q33
      ) else (
        fX13_readAll_159 X k4 k108 a0 a1 a2 a4 q26.2
      )
    )
def fX13_readAll_165 (X : px_X) (k4 : Nat → Int32 → Int32 → px_W → Option (px_W)) (a0 : Nat) (a1 : Int32) (a2 : Int32) (w : px_W) : Option (px_W) :=
  k4 a0 a1 (a2 + 1) w
def fX13_readAll_108 (X : px_X) (k4 : Nat → Int32 → Int32 → px_W → Option (px_W)) : Nat → Nat → Int32 → Int32 → Int32 → px_W → Option (px_W)
  | 0, _, _, _, _, _ => none
  | m + 1, a0, a1, a2, a4, w =>
    (gI w a0 13 2).bind fun v34 =>
    if v34 ≤ a4 then (
      fX13_readAll_165 X k4 a0 a1 a2 w
    ) else (
      fX13_readAll_120 X k4 (fX13_readAll_108 X k4 m) FU a0 a1 a2 a4 0 w
    )
def fX13_readAll_105 (X : px_X) (k4 : Nat → Int32 → Int32 → px_W → Option (px_W)) (a0 : Nat) (a1 : Int32) (a2 : Int32) (w : px_W) : Option (px_W) :=
  fX13_readAll_108 X k4 FU a0 a1 a2 0 w
def fX13_readAll_98 (X : px_X) (k4 : Nat → Int32 → Int32 → px_W → Option (px_W)) (k67 : Nat → Int32 → Int32 → Int32 → Int32 → px_W → Option (px_W)) (a0 : Nat) (a1 : Int32) (a2 : Int32) (a3 : Int32) (a4 : Int32) (s0 : Int32) (s1 : Int32) (s2 : Nat) (w : px_W) : Option (px_W) :=
  (sN id w 0 s2 s1 s0).bind fun w36 =>
  k67 a0 a1 a2 a3 (a4 + 1) w36
def fX13_readAll_87 (X : px_X) (k4 : Nat → Int32 → Int32 → px_W → Option (px_W)) (k67 : Nat → Int32 → Int32 → Int32 → Int32 → px_W → Option (px_W)) (a0 : Nat) (a1 : Int32) (a2 : Int32) (a3 : Int32) (a4 : Int32) (s0 : Int32) (s1 : Nat) (w : px_W) : Option (px_W) :=
  fX13_readAll_98 X k4 k67 a0 a1 a2 a3 a4 0 s0 s1 w
def fX13_readAll_67 (X : px_X) (k4 : Nat → Int32 → Int32 → px_W → Option (px_W)) : Nat → Nat → Int32 → Int32 → Int32 → Int32 → px_W → Option (px_W)
  | 0, _, _, _, _, _, _ => none
  | m + 1, a0, a1, a2, a3, a4, w =>
    if 4 ≤ a4 then (
      fX13_readAll_105 X k4 a0 a1 a2 w
    ) else (
      (gR w a0 13 37).bind fun v38 =>
      if a2 = 0 then (
        fX13_readAll_87 X k4 (fX13_readAll_67 X k4 m) a0 a1 a2 a3 a4 a4 v38 w
      ) else (
        if a3 = 0 then (
          (gR w a0 13 37).bind fun v41 =>
          (aN w 0 v41 a4).bind fun v42 =>
          fX13_readAll_98 X k4 (fX13_readAll_67 X k4 m) a0 a1 a2 a3 a4 v42 a4 v38 w
        ) else (
          fX13_readAll_87 X k4 (fX13_readAll_67 X k4 m) a0 a1 a2 a3 a4 a4 v38 w
        )
      )
    )
def fX13_readAll_64 (X : px_X) (k4 : Nat → Int32 → Int32 → px_W → Option (px_W)) (a0 : Nat) (a1 : Int32) (a2 : Int32) (a3 : Int32) (w : px_W) : Option (px_W) :=
  fX13_readAll_67 X k4 FU a0 a1 a2 a3 0 w
def fX13_readAll_44 (X : px_X) (k4 : Nat → Int32 → Int32 → px_W → Option (px_W)) (a0 : Nat) (a1 : Int32) (a2 : Int32) (s0 : Int32) (w : px_W) : Option (px_W) :=
  if s0 = 0 then (
    fX13_readAll_64 X k4 a0 a1 a2 s0 w
  ) else (
    (rI a1 8).bind fun v44 =>
    (gO w a0 13).bind fun o45 =>
    (fX13_finish X w a0 (208 + v44)).bind fun q46 =>
    fX13_readAll_64 X k4 a0 (a1 + 1) a2 s0 q46
  )
def fX13_readAll_43 (X : px_X) (k4 : Nat → Int32 → Int32 → px_W → Option (px_W)) (a0 : Nat) (a1 : Int32) (a2 : Int32) (w : px_W) : Option (px_W) :=
  fX13_readAll_44 X k4 a0 a1 a2 0 w
def fX13_readAll_171 (X : px_X)  (a0 : Nat) (w : px_W) : Option (px_W) :=
  (gI w a0 13 46).bind fun v47 =>
  if v47 = 0 then (
    (gO w a0 13).bind fun o49 =>
    (fX13_finish X w a0 0).bind fun q50 =>
    some q50
  ) else (
    some w
  )
def fX13_readAll_4 (X : px_X)  : Nat → Nat → Int32 → Int32 → px_W → Option (px_W)
  | 0, _, _, _, _ => none
  | m + 1, a0, a1, a2, w =>
    (gO w a0 13).bind fun o51 =>
    (fX13_units X w a0).bind fun q52 =>
    if q52.1 ≤ a2 then (
      fX13_readAll_171 X  a0 q52.2
    ) else (
      (gI q52.2 a0 13 46).bind fun v54 =>
      if v54 = 0 then (
        (gI q52.2 a0 13 27).bind fun v56 =>
        if v56 ≤ 0 then (
          fX13_readAll_43 X (fX13_readAll_4 X  m) a0 a1 a2 q52.2
        ) else (
          if a2 ≤ 0 then (
            fX13_readAll_43 X (fX13_readAll_4 X  m) a0 a1 a2 q52.2
          ) else (
            (gI q52.2 a0 13 27).bind fun v59 =>
            (rI a2 v59).bind fun v60 =>
            if v60 = 0 then (
              fX13_readAll_44 X (fX13_readAll_4 X  m) a0 a1 a2 1 q52.2
            ) else (
              fX13_readAll_43 X (fX13_readAll_4 X  m) a0 a1 a2 q52.2
            )
          )
        )
      ) else (
        fX13_readAll_171 X  a0 q52.2
      )
    )
def fX13_readAll (X : px_X) (w : px_W) (a0 : Nat) : Option (px_W) :=
  fX13_readAll_4 X  FU a0 0 0 w
def fX13_read_85 (X : px_X)  (a0 : Nat) (w : px_W) : Option (Int32 × px_W) :=
  (gI w a0 13 46).bind fun v17 =>
  some (v17, w)
def fX13_read_53 (X : px_X)  : Nat → Nat → Int32 → px_W → Option (Int32 × px_W)
  | 0, _, _, _ => none
  | m + 1, a0, a1, w =>
    if 12288 ≤ a1 then (
      fX13_read_85 X  a0 w
    ) else (
      (gI w a0 13 46).bind fun v19 =>
      if v19 ≤ 0 then (
        fX13_read_85 X  a0 w
      ) else (
        (gR w a0 13 12).bind fun v21 =>
        (gR w a0 13 13).bind fun v22 =>
        (aN w 2 v22 a1).bind fun v23 =>
        (sN (vp_nar .short) w 2 v21 a1 v23).bind fun w24 =>
        fX13_read_53 X  m a0 (a1 + 1) w24
      )
    )
def fX13_read_27 (X : px_X)  (a0 : Nat) (w : px_W) : Option (Int32 × px_W) :=
  (pV w a0 13 46 (.int 0)).bind fun w25 =>
  (pV w25 a0 13 43 (.int 0)).bind fun w26 =>
  (pV w26 a0 13 45 (.int 0)).bind fun w27 =>
  (pV w27 a0 13 38 (.int 0)).bind fun w28 =>
  (gO w28 a0 13).bind fun o29 =>
  (fX13_readAll X w28 a0).bind fun q30 =>
  fX13_read_53 X  FU a0 0 q30
def fX13_read_2 (X : px_X)  : Nat → Nat → Int32 → px_W → Option (Int32 × px_W)
  | 0, _, _, _ => none
  | m + 1, a0, a1, w =>
    if 12288 ≤ a1 then (
      fX13_read_27 X  a0 w
    ) else (
      (gR w a0 13 13).bind fun v32 =>
      (gR w a0 13 12).bind fun v33 =>
      (aN w 2 v33 a1).bind fun v34 =>
      (sN (vp_nar .short) w 2 v32 a1 v34).bind fun w35 =>
      fX13_read_2 X  m a0 (a1 + 1) w35
    )
def fX13_read (X : px_X) (w : px_W) (a0 : Nat) : Option (Int32 × px_W) :=
  fX13_read_2 X  FU a0 0 w
def fX14_init (X : px_X) (w : px_W) (a0 : Nat) : Option (px_W) :=
  (nA w 1 16384 (.inl (fun _ => 0))).bind fun q40 =>
  (pV q40.2 a0 14 0 (.ref q40.1)).bind fun w41 =>
  (pV w41 a0 14 5 (.int ((-1)))).bind fun w42 =>
  (nA w42 0 16384 (.inl (fun _ => 0))).bind fun q43 =>
  (pV q43.2 a0 14 11 (.ref q43.1)).bind fun w44 =>
  (nA w44 0 4 (.inl (fun _ => 0))).bind fun q45 =>
  (pV q45.2 a0 14 16 (.ref q45.1)).bind fun w46 =>
  (nA w46 0 4 (.inl (fun _ => 0))).bind fun q47 =>
  (pV q47.2 a0 14 17 (.ref q47.1)).bind fun w48 =>
  (nA w48 0 4 (.inl (fun _ => 0))).bind fun q49 =>
  (pV q49.2 a0 14 18 (.ref q49.1)).bind fun w50 =>
  (nA w50 0 4 (.inl (fun _ => 0))).bind fun q51 =>
  (pV q51.2 a0 14 19 (.ref q51.1)).bind fun w52 =>
  (nA w52 4 4 (.inl (fun _ => 0))).bind fun q53 =>
  (pV q53.2 a0 14 21 (.ref q53.1)).bind fun w54 =>
  (nA w54 0 256 (.inl (fun _ => 0))).bind fun q55 =>
  (pV q55.2 a0 14 22 (.ref q55.1)).bind fun w56 =>
  (nA w56 4 8 (.inl (fun _ => 0))).bind fun q57 =>
  (pV q57.2 a0 14 23 (.ref q57.1)).bind fun w58 =>
  (nA w58 0 136 (.inl (fun _ => 0))).bind fun q59 =>
  (pV q59.2 a0 14 24 (.ref q59.1)).bind fun w60 =>
  (nA w60 0 2048 (.inl (fun _ => 0))).bind fun q61 =>
  (pV q61.2 a0 14 25 (.ref q61.1)).bind fun w62 =>
  (nA w62 0 8 (.inl (fun _ => 0))).bind fun q63 =>
  (pV q63.2 a0 14 26 (.ref q63.1)).bind fun w64 =>
  (nA w64 0 61440 (.inl (fun _ => 0))).bind fun q65 =>
  (pV q65.2 a0 14 28 (.ref q65.1)).bind fun w66 =>
  (nA w66 0 256 (.inl (fun _ => 0))).bind fun q67 =>
  (pV q67.2 a0 14 29 (.ref q67.1)).bind fun w68 =>
  (nA w68 0 4 (.inl (fun _ => 0))).bind fun q69 =>
  (pV q69.2 a0 14 31 (.ref q69.1)).bind fun w70 =>
  (nA w70 0 4 (.inl (fun _ => 0))).bind fun q71 =>
  (pV q71.2 a0 14 32 (.ref q71.1)).bind fun w72 =>
  (nA w72 0 4 (.inl (fun _ => 0))).bind fun q73 =>
  (pV q73.2 a0 14 33 (.ref q73.1)).bind fun w74 =>
  (nA w74 0 4 (.inl (fun _ => 0))).bind fun q75 =>
  (pV q75.2 a0 14 34 (.ref q75.1)).bind fun w76 =>
  (nA w76 4 256 (.inl (fun _ => 0))).bind fun q77 =>
  (pV q77.2 a0 14 35 (.ref q77.1)).bind fun w78 =>
  some w78
def fX14_forget_83 (X : px_X)  : Nat → Nat → Int32 → px_W → Option (px_W)
  | 0, _, _, _ => none
  | m + 1, a0, a1, w =>
    if 256 ≤ a1 then (
      some w
    ) else (
      (gR w a0 14 29).bind fun v16 =>
      (sN id w 0 v16 a1 ((-1))).bind fun w17 =>
      fX14_forget_83 X  m a0 (a1 + 1) w17
    )
def fX14_forget_81 (X : px_X)  (a0 : Nat) (w : px_W) : Option (px_W) :=
  fX14_forget_83 X  FU a0 0 w
def fX14_forget_62 (X : px_X)  : Nat → Nat → Int32 → px_W → Option (px_W)
  | 0, _, _, _ => none
  | m + 1, a0, a1, w =>
    if 8 ≤ a1 then (
      fX14_forget_81 X  a0 w
    ) else (
      (gR w a0 14 23).bind fun v19 =>
      (sN (vp_nar .boolean) w 4 v19 a1 0).bind fun w20 =>
      fX14_forget_62 X  m a0 (a1 + 1) w20
    )
def fX14_forget_60 (X : px_X)  (a0 : Nat) (w : px_W) : Option (px_W) :=
  fX14_forget_62 X  FU a0 0 w
def fX14_forget_42 (X : px_X)  : Nat → Nat → Int32 → px_W → Option (px_W)
  | 0, _, _, _ => none
  | m + 1, a0, a1, w =>
    if 4 ≤ a1 then (
      fX14_forget_60 X  a0 w
    ) else (
      (gR w a0 14 21).bind fun v22 =>
      (sN (vp_nar .boolean) w 4 v22 a1 0).bind fun w23 =>
      fX14_forget_42 X  m a0 (a1 + 1) w23
    )
def fX14_forget (X : px_X) (w : px_W) (a0 : Nat) : Option (px_W) :=
  (pV w a0 14 9 (.int ((-1)))).bind fun w24 =>
  (pV w24 a0 14 10 (.int 0)).bind fun w25 =>
  (pV w25 a0 14 12 (.int 0)).bind fun w26 =>
  (pV w26 a0 14 13 (.int 0)).bind fun w27 =>
  (pV w27 a0 14 14 (.int 0)).bind fun w28 =>
  (pV w28 a0 14 15 (.int 0)).bind fun w29 =>
  (pV w29 a0 14 20 (.int 0)).bind fun w30 =>
  (pV w30 a0 14 27 (.int 0)).bind fun w31 =>
  fX14_forget_42 X  FU a0 0 w31
def fX14_wrong (X : px_X) (w : px_W) (a0 : Nat) (a1 : Int32) (a2 : Int32) : Option (Int32 × px_W) :=
  (gI w a0 14 4).bind fun v4 =>
  if v4 = 0 then (
    (pV w a0 14 4 (.int a1)).bind fun w6 =>
    (pV w6 a0 14 5 (.int a2)).bind fun w7 =>
    some (0, w7)
  ) else (
    some (0, w)
  )
def fX14_byteAt (X : px_X) (w : px_W) (a0 : Nat) (a1 : Int32) : Option (Int32 × px_W) :=
  (gR w a0 14 0).bind fun v3 =>
  (aN w 1 v3 a1).bind fun v4 =>
  some (v4 &&& 255, w)
def fX14_lengthAt (X : px_X) (w : px_W) (a0 : Nat) : Option (Int32 × px_W) :=
  (gI w a0 14 36).bind fun v2 =>
  some (v2, w)
def fX14_next_37 (X : px_X)  (a0 : Nat) (w : px_W) : Option (Int32 × px_W) :=
  (gI w a0 14 6).bind fun v19 =>
  (gI w a0 14 1).bind fun v20 =>
  if v19 = v20 then (
    (gI w a0 14 1).bind fun v27 =>
    (gO w a0 14).bind fun o28 =>
    (fX14_wrong X w a0 1 v27).bind fun q29 =>
    some (q29.1, q29.2)
  ) else (
    (gI w a0 14 6).bind fun v22 =>
    (pV w a0 14 6 (.int (v22 + 1))).bind fun w23 =>
    (gI w23 a0 14 6).bind fun v24 =>
    (gO w23 a0 14).bind fun o25 =>
    (fX14_byteAt X w23 a0 (v24 - 1)).bind fun q26 =>
    some (q26.1, q26.2)
  )
def fX14_next (X : px_X) (w : px_W) (a0 : Nat) : Option (Int32 × px_W) :=
  (gI w a0 14 4).bind fun v30 =>
  if v30 ≤ 0 then (
    (gI w a0 14 7).bind fun v32 =>
    if v32 < 0 then (
      fX14_next_37 X  a0 w
    ) else (
      (gI w a0 14 6).bind fun v34 =>
      (gI w a0 14 7).bind fun v35 =>
      if v34 = v35 then (
        (gO w a0 14).bind fun o37 =>
        (fX14_lengthAt X w a0).bind fun q38 =>
        (gO q38.2 a0 14).bind fun o39 =>
        (fX14_wrong X q38.2 a0 5 q38.1).bind fun q40 =>
        some (q40.1, q40.2)
      ) else (
        fX14_next_37 X  a0 w
      )
    )
  ) else (
    some (0, w)
  )
def fX14_two (X : px_X) (w : px_W) (a0 : Nat) : Option (Int32 × px_W) :=
  (gO w a0 14).bind fun o5 =>
  (fX14_next X w a0).bind fun q6 =>
  (gO q6.2 a0 14).bind fun o7 =>
  (fX14_next X q6.2 a0).bind fun q8 =>
  some ((256 * q6.1) + q8.1, q8.2)
def fX14_must (X : px_X) (w : px_W) (a0 : Nat) (a1 : Int32) : Option (px_W) :=
  if a1 = 0 then (
    (gI w a0 14 6).bind fun v5 =>
    (gO w a0 14).bind fun o6 =>
    (fX14_wrong X w a0 6 (v5 - 1)).bind fun q7 =>
    some q7.2
  ) else (
    some w
  )
def fX14_marker_61 (X : px_X)  (a0 : Nat) (a1 : Int32) (w : px_W) : Option (Int32 × px_W) :=
  (gI w a0 14 4).bind fun v16 =>
  if v16 = 0 then (
    if a1 = 0 then (
      (gI w a0 14 6).bind fun v19 =>
      (gO w a0 14).bind fun o20 =>
      (fX14_wrong X w a0 4 (v19 - 1)).bind fun q21 =>
      some (q21.1, q21.2)
    ) else (
      some (a1, w)
    )
  ) else (
    some (a1, w)
  )
def fX14_marker_39 (X : px_X)  : Nat → Nat → Int32 → px_W → Option (Int32 × px_W)
  | 0, _, _, _ => none
  | m + 1, a0, a1, w =>
    (gI w a0 14 4).bind fun v22 =>
    if v22 = 0 then (
      if a1 = 255 then (
        (gO w a0 14).bind fun o25 =>
        (fX14_next X w a0).bind fun q26 =>
        fX14_marker_39 X  m a0 q26.1 q26.2
      ) else (
        fX14_marker_61 X  a0 a1 w
      )
    ) else (
      fX14_marker_61 X  a0 a1 w
    )
def fX14_marker (X : px_X) (w : px_W) (a0 : Nat) : Option (Int32 × px_W) :=
  (gI w a0 14 6).bind fun v27 =>
  (pV w a0 14 8 (.int v27)).bind fun w28 =>
  (gO w28 a0 14).bind fun o29 =>
  (fX14_next X w28 a0).bind fun q30 =>
  (gI q30.2 a0 14 4).bind fun v31 =>
  if v31 = 0 then (
    if q30.1 = 255 then (
      fX14_marker_39 X  FU a0 q30.1 q30.2
    ) else (
      (gI q30.2 a0 14 6).bind fun v34 =>
      (gO q30.2 a0 14).bind fun o35 =>
      (fX14_wrong X q30.2 a0 3 (v34 - 1)).bind fun q36 =>
      some (q36.1, q36.2)
    )
  ) else (
    fX14_marker_39 X  FU a0 q30.1 q30.2
  )
def fX14_begun_35 (X : px_X)  (a0 : Nat) (a1 : Int32) (w : px_W) : Option (px_W) :=
  (gI w a0 14 36).bind fun v11 =>
  (pV w a0 14 7 (.int (v11 + a1))).bind fun w12 =>
  some w12
def fX14_begun (X : px_X) (w : px_W) (a0 : Nat) : Option (px_W) :=
  (gI w a0 14 6).bind fun v13 =>
  (pV w a0 14 36 (.int v13)).bind fun w14 =>
  (gO w14 a0 14).bind fun o15 =>
  (fX14_two X w14 a0).bind fun q16 =>
  (gI q16.2 a0 14 4).bind fun v17 =>
  if v17 = 0 then (
    if 2 ≤ q16.1 then (
      fX14_begun_35 X  a0 q16.1 q16.2
    ) else (
      (gI q16.2 a0 14 36).bind fun v20 =>
      (gO q16.2 a0 14).bind fun o21 =>
      (fX14_wrong X q16.2 a0 5 v20).bind fun q22 =>
      fX14_begun_35 X  a0 q16.1 q22.2
    )
  ) else (
    fX14_begun_35 X  a0 q16.1 q16.2
  )
def fX14_close_104 (X : px_X)  (a0 : Nat) (w : px_W) : Option (px_W) :=
  (pV w a0 14 7 (.int ((-1)))).bind fun w24 =>
  some w24
def fX14_close_28 (X : px_X)  (a0 : Nat) (a1 : Int32) (w : px_W) : Option (px_W) :=
  (gI w a0 14 4).bind fun v25 =>
  if v25 = 0 then (
    (gI w a0 14 10).bind fun v27 =>
    (gR w a0 14 11).bind fun v28 =>
    (sN id w 0 v28 (4 * v27) a1).bind fun w29 =>
    (gR w29 a0 14 11).bind fun v30 =>
    (gI w29 a0 14 8).bind fun v31 =>
    (sN id w29 0 v30 ((4 * v27) + 1) v31).bind fun w32 =>
    (gR w32 a0 14 11).bind fun v33 =>
    (gI w32 a0 14 36).bind fun v34 =>
    (sN id w32 0 v33 ((4 * v27) + 2) (v34 + 2)).bind fun w35 =>
    (gR w35 a0 14 11).bind fun v36 =>
    (gI w35 a0 14 7).bind fun v37 =>
    (gI w35 a0 14 36).bind fun v38 =>
    (sN id w35 0 v36 ((4 * v27) + 3) ((v37 - v38) - 2)).bind fun w39 =>
    (gI w39 a0 14 10).bind fun v40 =>
    (pV w39 a0 14 10 (.int (v40 + 1))).bind fun w41 =>
    fX14_close_104 X  a0 w41
  ) else (
    fX14_close_104 X  a0 w
  )
def fX14_close (X : px_X) (w : px_W) (a0 : Nat) (a1 : Int32) : Option (px_W) :=
  (gI w a0 14 4).bind fun v42 =>
  if v42 = 0 then (
    (gI w a0 14 6).bind fun v44 =>
    (gI w a0 14 7).bind fun v45 =>
    if v44 = v45 then (
      fX14_close_28 X  a0 a1 w
    ) else (
      (gI w a0 14 36).bind fun v47 =>
      (gO w a0 14).bind fun o48 =>
      (fX14_wrong X w a0 5 v47).bind fun q49 =>
      fX14_close_28 X  a0 a1 q49.2
    )
  ) else (
    fX14_close_28 X  a0 a1 w
  )
def fX14_any_0 (X : px_X)  : Nat → Nat → px_W → Option (px_W)
  | 0, _, _ => none
  | m + 1, a0, w =>
    (gI w a0 14 4).bind fun v6 =>
    if v6 = 0 then (
      (gI w a0 14 6).bind fun v8 =>
      (gI w a0 14 7).bind fun v9 =>
      if v9 ≤ v8 then (
        some w
      ) else (
        (gO w a0 14).bind fun o11 =>
        (fX14_next X w a0).bind fun q12 =>
        fX14_any_0 X  m a0 q12.2
      )
    ) else (
      some w
    )
def fX14_any (X : px_X) (w : px_W) (a0 : Nat) : Option (px_W) :=
  fX14_any_0 X  FU a0 w
def fX14_readQuantisers_78 (X : px_X) (k2 : Nat → Int32 → px_W → Option (px_W)) (k41 : Nat → Int32 → Int32 → px_W → Option (px_W)) (a0 : Nat) (a2 : Int32) (a3 : Int32) (a4 : Int32) (s0 : Int32) (s1 : Nat) (w : px_W) : Option (px_W) :=
  (gO w s1 14).bind fun o20 =>
  (fX14_must X w s1 s0).bind fun q21 =>
  (gR q21 a0 14 22).bind fun v22 =>
  (sN id q21 0 v22 ((64 * a2) + a3) a4).bind fun w23 =>
  k41 a0 a2 (a3 + 1) w23
def fX14_readQuantisers_73 (X : px_X) (k2 : Nat → Int32 → px_W → Option (px_W)) (k41 : Nat → Int32 → Int32 → px_W → Option (px_W)) (a0 : Nat) (a2 : Int32) (a3 : Int32) (a4 : Int32) (s0 : Nat) (w : px_W) : Option (px_W) :=
  fX14_readQuantisers_78 X k2 k41 a0 a2 a3 a4 1 s0 w
def fX14_readQuantisers_130 (X : px_X) (k2 : Nat → Int32 → px_W → Option (px_W)) (a0 : Nat) (s0 : Int32) (w : px_W) : Option (px_W) :=
  k2 a0 s0 w
def fX14_readQuantisers_114 (X : px_X) (k2 : Nat → Int32 → px_W → Option (px_W)) (a0 : Nat) (w : px_W) : Option (px_W) :=
  (gI w a0 14 6).bind fun v24 =>
  (gI w a0 14 7).bind fun v25 =>
  if v25 ≤ v24 then (
    fX14_readQuantisers_130 X k2 a0 0 w
  ) else (
    fX14_readQuantisers_130 X k2 a0 1 w
  )
def fX14_readQuantisers_100 (X : px_X) (k2 : Nat → Int32 → px_W → Option (px_W)) (a0 : Nat) (a2 : Int32) (w : px_W) : Option (px_W) :=
  (gI w a0 14 4).bind fun v27 =>
  if v27 = 0 then (
    (gR w a0 14 21).bind fun v29 =>
    (sN (vp_nar .boolean) w 4 v29 a2 1).bind fun w30 =>
    fX14_readQuantisers_114 X k2 a0 w30
  ) else (
    fX14_readQuantisers_114 X k2 a0 w
  )
def fX14_readQuantisers_41 (X : px_X) (k2 : Nat → Int32 → px_W → Option (px_W)) : Nat → Nat → Int32 → Int32 → px_W → Option (px_W)
  | 0, _, _, _, _ => none
  | m + 1, a0, a2, a3, w =>
    if 64 ≤ a3 then (
      fX14_readQuantisers_100 X k2 a0 a2 w
    ) else (
      (gI w a0 14 4).bind fun v32 =>
      if v32 = 0 then (
        (gO w a0 14).bind fun o34 =>
        (fX14_next X w a0).bind fun q35 =>
        (gI q35.2 a0 14 4).bind fun v36 =>
        if 0 < v36 then (
          fX14_readQuantisers_73 X k2 (fX14_readQuantisers_41 X k2 m) a0 a2 a3 q35.1 a0 q35.2
        ) else (
          if q35.1 ≤ 0 then (
            fX14_readQuantisers_78 X k2 (fX14_readQuantisers_41 X k2 m) a0 a2 a3 q35.1 0 a0 q35.2
          ) else (
            fX14_readQuantisers_73 X k2 (fX14_readQuantisers_41 X k2 m) a0 a2 a3 q35.1 a0 q35.2
          )
        )
      ) else (
        fX14_readQuantisers_100 X k2 a0 a2 w
      )
    )
def fX14_readQuantisers_36 (X : px_X) (k2 : Nat → Int32 → px_W → Option (px_W)) (a0 : Nat) (a2 : Int32) (s0 : Int32) (s1 : Nat) (w : px_W) : Option (px_W) :=
  (gO w s1 14).bind fun o39 =>
  (fX14_must X w s1 s0).bind fun q40 =>
  fX14_readQuantisers_41 X k2 FU a0 a2 0 q40
def fX14_readQuantisers_31 (X : px_X) (k2 : Nat → Int32 → px_W → Option (px_W)) (a0 : Nat) (a2 : Int32) (s0 : Nat) (w : px_W) : Option (px_W) :=
  fX14_readQuantisers_36 X k2 a0 a2 1 s0 w
def fX14_readQuantisers_2 (X : px_X)  : Nat → Nat → Int32 → px_W → Option (px_W)
  | 0, _, _, _ => none
  | m + 1, a0, a1, w =>
    if a1 = 0 then (
      some w
    ) else (
      (gI w a0 14 4).bind fun v42 =>
      if v42 = 0 then (
        (gO w a0 14).bind fun o44 =>
        (fX14_next X w a0).bind fun q45 =>
        (gI q45.2 a0 14 4).bind fun v46 =>
        if 0 < v46 then (
          fX14_readQuantisers_31 X (fX14_readQuantisers_2 X  m) a0 q45.1 a0 q45.2
        ) else (
          if 4 ≤ q45.1 then (
            fX14_readQuantisers_36 X (fX14_readQuantisers_2 X  m) a0 q45.1 0 a0 q45.2
          ) else (
            fX14_readQuantisers_31 X (fX14_readQuantisers_2 X  m) a0 q45.1 a0 q45.2
          )
        )
      ) else (
        some w
      )
    )
def fX14_readQuantisers (X : px_X) (w : px_W) (a0 : Nat) : Option (px_W) :=
  fX14_readQuantisers_2 X  FU a0 1 w
def fX14_readTable_210 (X : px_X) (k156 : Nat → Int32 → Int32 → Int32 → px_W → Option (px_W)) (a0 : Nat) (a1 : Int32) (a2 : Int32) (a5 : Int32) (a6 : Int32) (s0 : Int32) (s1 : Nat) (w : px_W) : Option (px_W) :=
  (gO w s1 14).bind fun o31 =>
  (fX14_must X w s1 s0).bind fun q32 =>
  (gR q32 a0 14 35).bind fun v33 =>
  (sN (vp_nar .boolean) q32 4 v33 a6 1).bind fun w34 =>
  (gR w34 a0 14 25).bind fun v35 =>
  (sN id w34 0 v35 ((256 * a1) + a5) a6).bind fun w36 =>
  k156 a0 a1 a2 (a5 + 1) w36
def fX14_readTable_209 (X : px_X) (k156 : Nat → Int32 → Int32 → Int32 → px_W → Option (px_W)) (a0 : Nat) (a1 : Int32) (a2 : Int32) (a5 : Int32) (a6 : Int32) (s0 : Nat) (w : px_W) : Option (px_W) :=
  fX14_readTable_210 X k156 a0 a1 a2 a5 a6 0 s0 w
def fX14_readTable_242 (X : px_X)  (a0 : Nat) (a1 : Int32) (a2 : Int32) (w : px_W) : Option (px_W) :=
  (gR w a0 14 26).bind fun v37 =>
  (sN id w 0 v37 a1 a2).bind fun w38 =>
  (gI w38 a0 14 4).bind fun v39 =>
  if v39 = 0 then (
    (gR w38 a0 14 23).bind fun v41 =>
    (sN (vp_nar .boolean) w38 4 v41 a1 1).bind fun w42 =>
    some w42
  ) else (
    some w38
  )
def fX14_readTable_205 (X : px_X) (k156 : Nat → Int32 → Int32 → Int32 → px_W → Option (px_W)) (a0 : Nat) (a1 : Int32) (a2 : Int32) (a5 : Int32) (a6 : Int32) (s0 : Nat) (w : px_W) : Option (px_W) :=
  fX14_readTable_210 X k156 a0 a1 a2 a5 a6 1 s0 w
def fX14_readTable_156 (X : px_X)  : Nat → Nat → Int32 → Int32 → Int32 → px_W → Option (px_W)
  | 0, _, _, _, _, _ => none
  | m + 1, a0, a1, a2, a5, w =>
    if a2 ≤ a5 then (
      fX14_readTable_242 X  a0 a1 a2 w
    ) else (
      (gI w a0 14 4).bind fun v44 =>
      if v44 = 0 then (
        (gO w a0 14).bind fun o46 =>
        (fX14_next X w a0).bind fun q47 =>
        (gI q47.2 a0 14 4).bind fun v48 =>
        if 0 < v48 then (
          fX14_readTable_205 X (fX14_readTable_156 X  m) a0 a1 a2 a5 q47.1 a0 q47.2
        ) else (
          (gR q47.2 a0 14 35).bind fun v50 =>
          (aN q47.2 4 v50 q47.1).bind fun v51 =>
          if v51 = 0 then (
            if 3 < a1 then (
              fX14_readTable_205 X (fX14_readTable_156 X  m) a0 a1 a2 a5 q47.1 a0 q47.2
            ) else (
              if 12 ≤ q47.1 then (
                fX14_readTable_209 X (fX14_readTable_156 X  m) a0 a1 a2 a5 q47.1 a0 q47.2
              ) else (
                fX14_readTable_205 X (fX14_readTable_156 X  m) a0 a1 a2 a5 q47.1 a0 q47.2
              )
            )
          ) else (
            fX14_readTable_209 X (fX14_readTable_156 X  m) a0 a1 a2 a5 q47.1 a0 q47.2
          )
        )
      ) else (
        fX14_readTable_242 X  a0 a1 a2 w
      )
    )
def fX14_readTable_153 (X : px_X)  (a0 : Nat) (a1 : Int32) (a2 : Int32) (w : px_W) : Option (px_W) :=
  fX14_readTable_156 X  FU a0 a1 a2 0 w
def fX14_readTable_131 (X : px_X)  : Nat → Nat → Int32 → Int32 → Int32 → px_W → Option (px_W)
  | 0, _, _, _, _, _ => none
  | m + 1, a0, a1, a2, a5, w =>
    if 256 ≤ a5 then (
      fX14_readTable_153 X  a0 a1 a2 w
    ) else (
      (gR w a0 14 35).bind fun v56 =>
      (sN (vp_nar .boolean) w 4 v56 a5 0).bind fun w57 =>
      fX14_readTable_131 X  m a0 a1 a2 (a5 + 1) w57
    )
def fX14_readTable_128 (X : px_X)  (a0 : Nat) (a1 : Int32) (a2 : Int32) (w : px_W) : Option (px_W) :=
  fX14_readTable_131 X  FU a0 a1 a2 0 w
def fX14_readTable_119 (X : px_X) (k7 : Nat → Int32 → Int32 → Int64 → Int32 → px_W → Option (px_W)) (a0 : Nat) (a1 : Int32) (a2 : Int32) (a3 : Int64) (a5 : Int32) (s0 : Int32) (s1 : Nat) (w : px_W) : Option (px_W) :=
  (gO w s1 14).bind fun o58 =>
  (fX14_must X w s1 s0).bind fun q59 =>
  k7 a0 a1 a2 a3 (a5 + 1) q59
def fX14_readTable_114 (X : px_X) (k7 : Nat → Int32 → Int32 → Int64 → Int32 → px_W → Option (px_W)) (a0 : Nat) (a1 : Int32) (a2 : Int32) (a3 : Int64) (a5 : Int32) (s0 : Nat) (w : px_W) : Option (px_W) :=
  fX14_readTable_119 X k7 a0 a1 a2 a3 a5 1 s0 w
def fX14_readTable_92 (X : px_X) (k7 : Nat → Int32 → Int32 → Int64 → Int32 → px_W → Option (px_W)) (a0 : Nat) (a1 : Int32) (a2 : Int32) (a3 : Int64) (a5 : Int32) (s0 : Int32) (s1 : Nat) (w : px_W) : Option (px_W) :=
  (gO w s1 14).bind fun o60 =>
  (fX14_must X w s1 s0).bind fun q61 =>
  (gI q61 a0 14 4).bind fun v62 =>
  if 0 < v62 then (
    fX14_readTable_114 X k7 a0 a1 a2 a3 a5 a0 q61
  ) else (
    if a5 < 16 then (
      fX14_readTable_114 X k7 a0 a1 a2 a3 a5 a0 q61
    ) else (
      if a2 ≤ 0 then (
        fX14_readTable_119 X k7 a0 a1 a2 a3 a5 0 a0 q61
      ) else (
        fX14_readTable_114 X k7 a0 a1 a2 a3 a5 a0 q61
      )
    )
  )
def fX14_readTable_91 (X : px_X) (k7 : Nat → Int32 → Int32 → Int64 → Int32 → px_W → Option (px_W)) (a0 : Nat) (a1 : Int32) (a2 : Int32) (a3 : Int64) (a5 : Int32) (s0 : Nat) (w : px_W) : Option (px_W) :=
  fX14_readTable_92 X k7 a0 a1 a2 a3 a5 0 s0 w
def fX14_readTable_87 (X : px_X) (k7 : Nat → Int32 → Int32 → Int64 → Int32 → px_W → Option (px_W)) (a0 : Nat) (a1 : Int32) (a2 : Int32) (a3 : Int64) (a5 : Int32) (s0 : Nat) (w : px_W) : Option (px_W) :=
  fX14_readTable_92 X k7 a0 a1 a2 a3 a5 1 s0 w
def fX14_readTable_7 (X : px_X)  : Nat → Nat → Int32 → Int32 → Int64 → Int32 → px_W → Option (px_W)
  | 0, _, _, _, _, _, _ => none
  | m + 1, a0, a1, a2, a3, a5, w =>
    if 16 < a5 then (
      fX14_readTable_128 X  a0 a1 a2 w
    ) else (
      (gI w a0 14 4).bind fun v67 =>
      if v67 = 0 then (
        (gO w a0 14).bind fun o69 =>
        (fX14_next X w a0).bind fun q70 =>
        (gR q70.2 a0 14 24).bind fun v71 =>
        (sN id q70.2 0 v71 ((17 * a1) + a5) q70.1).bind fun w72 =>
        (gI w72 a0 14 4).bind fun v73 =>
        if 0 < v73 then (
          fX14_readTable_87 X (fX14_readTable_7 X  m) a0 a1 (a2 + q70.1) ((2 * a3) + q70.1.toInt64) a5 a0 w72
        ) else (
          if 256 < (a2 + q70.1) then (
            fX14_readTable_91 X (fX14_readTable_7 X  m) a0 a1 (a2 + q70.1) ((2 * a3) + q70.1.toInt64) a5 a0 w72
          ) else (
            if q70.1 = 0 then (
              fX14_readTable_87 X (fX14_readTable_7 X  m) a0 a1 (a2 + q70.1) ((2 * a3) + q70.1.toInt64) a5 a0 w72
            ) else (
              if 0 < (lg_cmp ((2 * a3) + q70.1.toInt64) (((1 : Int64) <<< (a5.toInt64 &&& 63)) - 1)) then (
                fX14_readTable_91 X (fX14_readTable_7 X  m) a0 a1 (a2 + q70.1) ((2 * a3) + q70.1.toInt64) a5 a0 w72
              ) else (
                fX14_readTable_87 X (fX14_readTable_7 X  m) a0 a1 (a2 + q70.1) ((2 * a3) + q70.1.toInt64) a5 a0 w72
              )
            )
          )
        )
      ) else (
        fX14_readTable_128 X  a0 a1 a2 w
      )
    )
def fX14_readTable (X : px_X) (w : px_W) (a0 : Nat) (a1 : Int32) : Option (px_W) :=
  fX14_readTable_7 X  FU a0 a1 0 0 1 w
def fX14_readWords_93 (X : px_X) (k2 : Nat → Int32 → px_W → Option (px_W)) (a0 : Nat) (s0 : Int32) (w : px_W) : Option (px_W) :=
  k2 a0 s0 w
def fX14_readWords_77 (X : px_X) (k2 : Nat → Int32 → px_W → Option (px_W)) (a0 : Nat) (w : px_W) : Option (px_W) :=
  (gI w a0 14 6).bind fun v12 =>
  (gI w a0 14 7).bind fun v13 =>
  if v13 ≤ v12 then (
    fX14_readWords_93 X k2 a0 0 w
  ) else (
    fX14_readWords_93 X k2 a0 1 w
  )
def fX14_readWords_64 (X : px_X) (k2 : Nat → Int32 → px_W → Option (px_W)) (a0 : Nat) (s0 : Int32) (w : px_W) : Option (px_W) :=
  (gI w a0 14 4).bind fun v15 =>
  if v15 = 0 then (
    (gO w a0 14).bind fun o17 =>
    (fX14_readTable X w a0 s0).bind fun q18 =>
    fX14_readWords_77 X k2 a0 q18
  ) else (
    fX14_readWords_77 X k2 a0 w
  )
def fX14_readWords_48 (X : px_X) (k2 : Nat → Int32 → px_W → Option (px_W)) (a0 : Nat) (a2 : Int32) (s0 : Int32) (s1 : Nat) (w : px_W) : Option (px_W) :=
  (gO w s1 14).bind fun o19 =>
  (fX14_must X w s1 s0).bind fun q20 =>
  if 4 ≤ a2 then (
    fX14_readWords_64 X k2 a0 (a2 - 12) q20
  ) else (
    fX14_readWords_64 X k2 a0 a2 q20
  )
def fX14_readWords_43 (X : px_X) (k2 : Nat → Int32 → px_W → Option (px_W)) (a0 : Nat) (a2 : Int32) (s0 : Nat) (w : px_W) : Option (px_W) :=
  fX14_readWords_48 X k2 a0 a2 1 s0 w
def fX14_readWords_47 (X : px_X) (k2 : Nat → Int32 → px_W → Option (px_W)) (a0 : Nat) (a2 : Int32) (s0 : Nat) (w : px_W) : Option (px_W) :=
  fX14_readWords_48 X k2 a0 a2 0 s0 w
def fX14_readWords_2 (X : px_X)  : Nat → Nat → Int32 → px_W → Option (px_W)
  | 0, _, _, _ => none
  | m + 1, a0, a1, w =>
    if a1 = 0 then (
      some w
    ) else (
      (gI w a0 14 4).bind fun v23 =>
      if v23 = 0 then (
        (gO w a0 14).bind fun o25 =>
        (fX14_next X w a0).bind fun q26 =>
        (gI q26.2 a0 14 4).bind fun v27 =>
        if 0 < v27 then (
          fX14_readWords_43 X (fX14_readWords_2 X  m) a0 q26.1 a0 q26.2
        ) else (
          if q26.1 < 4 then (
            fX14_readWords_43 X (fX14_readWords_2 X  m) a0 q26.1 a0 q26.2
          ) else (
            if q26.1 < 16 then (
              fX14_readWords_47 X (fX14_readWords_2 X  m) a0 q26.1 a0 q26.2
            ) else (
              if 20 ≤ q26.1 then (
                fX14_readWords_47 X (fX14_readWords_2 X  m) a0 q26.1 a0 q26.2
              ) else (
                fX14_readWords_43 X (fX14_readWords_2 X  m) a0 q26.1 a0 q26.2
              )
            )
          )
        )
      ) else (
        some w
      )
    )
def fX14_readWords (X : px_X) (w : px_W) (a0 : Nat) : Option (px_W) :=
  fX14_readWords_2 X  FU a0 1 w
def fX14_readFrame_345 (X : px_X)  (a0 : Nat) (a1 : Int32) (a2 : Int32) (w : px_W) : Option (px_W) :=
  (pV w a0 14 15 (.int a2)).bind fun w68 =>
  (pV w68 a0 14 12 (.int a1)).bind fun w69 =>
  some w69
def fX14_readFrame_190 (X : px_X) (k130 : Nat → Int32 → Int32 → Int32 → px_W → Option (px_W)) (k158 : Nat → Int32 → Int32 → Int32 → Int32 → Int32 → px_W → Option (px_W)) (a0 : Nat) (a1 : Int32) (a2 : Int32) (a3 : Int32) (a5 : Int32) (s0 : Int32) (w : px_W) : Option (px_W) :=
  k158 a0 a1 a2 a3 s0 (a5 + 1) w
def fX14_readFrame_185 (X : px_X) (k130 : Nat → Int32 → Int32 → Int32 → px_W → Option (px_W)) (k158 : Nat → Int32 → Int32 → Int32 → Int32 → Int32 → px_W → Option (px_W)) (a0 : Nat) (a1 : Int32) (a2 : Int32) (a3 : Int32) (a5 : Int32) (w : px_W) : Option (px_W) :=
  fX14_readFrame_190 X k130 k158 a0 a1 a2 a3 a5 1 w
def fX14_readFrame_336 (X : px_X) (k130 : Nat → Int32 → Int32 → Int32 → px_W → Option (px_W)) (a0 : Nat) (a1 : Int32) (a2 : Int32) (a3 : Int32) (s0 : Int32) (s1 : Nat) (w : px_W) : Option (px_W) :=
  (gO w s1 14).bind fun o70 =>
  (fX14_must X w s1 s0).bind fun q71 =>
  k130 a0 a1 a2 (a3 + 1) q71
def fX14_readFrame_331 (X : px_X) (k130 : Nat → Int32 → Int32 → Int32 → px_W → Option (px_W)) (a0 : Nat) (a1 : Int32) (a2 : Int32) (a3 : Int32) (s0 : Nat) (w : px_W) : Option (px_W) :=
  fX14_readFrame_336 X k130 a0 a1 a2 a3 1 s0 w
def fX14_readFrame_300 (X : px_X) (k130 : Nat → Int32 → Int32 → Int32 → px_W → Option (px_W)) (a0 : Nat) (a1 : Int32) (a2 : Int32) (a3 : Int32) (s0 : Int32) (s1 : Nat) (w : px_W) : Option (px_W) :=
  (gO w s1 14).bind fun o72 =>
  (fX14_must X w s1 s0).bind fun q73 =>
  (gR q73 a0 14 19).bind fun v74 =>
  (gO q73 a0 14).bind fun o75 =>
  (fX14_next X q73 a0).bind fun q76 =>
  (sN id q76.2 0 v74 a3 q76.1).bind fun w77 =>
  (gI w77 a0 14 4).bind fun v78 =>
  if 0 < v78 then (
    fX14_readFrame_331 X k130 a0 a1 a2 a3 a0 w77
  ) else (
    (gR w77 a0 14 19).bind fun v80 =>
    (aN w77 0 v80 a3).bind fun v81 =>
    if 4 ≤ v81 then (
      fX14_readFrame_336 X k130 a0 a1 a2 a3 0 a0 w77
    ) else (
      fX14_readFrame_331 X k130 a0 a1 a2 a3 a0 w77
    )
  )
def fX14_readFrame_299 (X : px_X) (k130 : Nat → Int32 → Int32 → Int32 → px_W → Option (px_W)) (a0 : Nat) (a1 : Int32) (a2 : Int32) (a3 : Int32) (s0 : Nat) (w : px_W) : Option (px_W) :=
  fX14_readFrame_300 X k130 a0 a1 a2 a3 0 s0 w
def fX14_readFrame_295 (X : px_X) (k130 : Nat → Int32 → Int32 → Int32 → px_W → Option (px_W)) (a0 : Nat) (a1 : Int32) (a2 : Int32) (a3 : Int32) (s0 : Nat) (w : px_W) : Option (px_W) :=
  fX14_readFrame_300 X k130 a0 a1 a2 a3 1 s0 w
def fX14_readFrame_216 (X : px_X) (k130 : Nat → Int32 → Int32 → Int32 → px_W → Option (px_W)) (a0 : Nat) (a1 : Int32) (a2 : Int32) (a3 : Int32) (s0 : Int32) (s1 : Nat) (w : px_W) : Option (px_W) :=
  (gO w s1 14).bind fun o83 =>
  (fX14_must X w s1 s0).bind fun q84 =>
  (gO q84 a0 14).bind fun o85 =>
  (fX14_next X q84 a0).bind fun q86 =>
  (gR q86.2 a0 14 17).bind fun v87 =>
  (dI q86.1 16).bind fun v88 =>
  (sN id q86.2 0 v87 a3 v88).bind fun w89 =>
  (gR w89 a0 14 18).bind fun v90 =>
  (rI q86.1 16).bind fun v91 =>
  (sN id w89 0 v90 a3 v91).bind fun w92 =>
  (gI w92 a0 14 4).bind fun v93 =>
  if 0 < v93 then (
    fX14_readFrame_295 X k130 a0 a1 a2 a3 a0 w92
  ) else (
    (gR w92 a0 14 17).bind fun v95 =>
    (aN w92 0 v95 a3).bind fun v96 =>
    if v96 < 1 then (
      fX14_readFrame_299 X k130 a0 a1 a2 a3 a0 w92
    ) else (
      (gR w92 a0 14 17).bind fun v98 =>
      (aN w92 0 v98 a3).bind fun v99 =>
      if 2 < v99 then (
        fX14_readFrame_299 X k130 a0 a1 a2 a3 a0 w92
      ) else (
        (gR w92 a0 14 18).bind fun v101 =>
        (aN w92 0 v101 a3).bind fun v102 =>
        if v102 < 1 then (
          fX14_readFrame_299 X k130 a0 a1 a2 a3 a0 w92
        ) else (
          (gR w92 a0 14 18).bind fun v104 =>
          (aN w92 0 v104 a3).bind fun v105 =>
          if 2 < v105 then (
            fX14_readFrame_299 X k130 a0 a1 a2 a3 a0 w92
          ) else (
            fX14_readFrame_295 X k130 a0 a1 a2 a3 a0 w92
          )
        )
      )
    )
  )
def fX14_readFrame_211 (X : px_X) (k130 : Nat → Int32 → Int32 → Int32 → px_W → Option (px_W)) (a0 : Nat) (a1 : Int32) (a2 : Int32) (a3 : Int32) (s0 : Nat) (w : px_W) : Option (px_W) :=
  fX14_readFrame_216 X k130 a0 a1 a2 a3 1 s0 w
def fX14_readFrame_198 (X : px_X) (k130 : Nat → Int32 → Int32 → Int32 → px_W → Option (px_W)) (a0 : Nat) (a1 : Int32) (a2 : Int32) (a3 : Int32) (a4 : Int32) (w : px_W) : Option (px_W) :=
  (gI w a0 14 4).bind fun v107 =>
  if 0 < v107 then (
    fX14_readFrame_211 X k130 a0 a1 a2 a3 a0 w
  ) else (
    if a4 = 0 then (
      fX14_readFrame_211 X k130 a0 a1 a2 a3 a0 w
    ) else (
      fX14_readFrame_216 X k130 a0 a1 a2 a3 0 a0 w
    )
  )
def fX14_readFrame_158 (X : px_X) (k130 : Nat → Int32 → Int32 → Int32 → px_W → Option (px_W)) : Nat → Nat → Int32 → Int32 → Int32 → Int32 → Int32 → px_W → Option (px_W)
  | 0, _, _, _, _, _, _, _ => none
  | m + 1, a0, a1, a2, a3, a4, a5, w =>
    if a3 ≤ a5 then (
      fX14_readFrame_198 X k130 a0 a1 a2 a3 a4 w
    ) else (
      if a4 = 0 then (
        (gR w a0 14 16).bind fun v112 =>
        (aN w 0 v112 a5).bind fun v113 =>
        (gR w a0 14 16).bind fun v114 =>
        (aN w 0 v114 a3).bind fun v115 =>
        if v113 = v115 then (
          fX14_readFrame_185 X k130 (fX14_readFrame_158 X k130 m) a0 a1 a2 a3 a5 w
        ) else (
          fX14_readFrame_190 X k130 (fX14_readFrame_158 X k130 m) a0 a1 a2 a3 a5 0 w
        )
      ) else (
        fX14_readFrame_185 X k130 (fX14_readFrame_158 X k130 m) a0 a1 a2 a3 a5 w
      )
    )
def fX14_readFrame_130 (X : px_X)  : Nat → Nat → Int32 → Int32 → Int32 → px_W → Option (px_W)
  | 0, _, _, _, _, _ => none
  | m + 1, a0, a1, a2, a3, w =>
    if a2 ≤ a3 then (
      fX14_readFrame_345 X  a0 a1 a2 w
    ) else (
      (gI w a0 14 4).bind fun v118 =>
      if v118 = 0 then (
        (gR w a0 14 16).bind fun v120 =>
        (gO w a0 14).bind fun o121 =>
        (fX14_next X w a0).bind fun q122 =>
        (sN id q122.2 0 v120 a3 q122.1).bind fun w123 =>
        fX14_readFrame_158 X (fX14_readFrame_130 X  m) FU a0 a1 a2 a3 0 0 w123
      ) else (
        fX14_readFrame_345 X  a0 a1 a2 w
      )
    )
def fX14_readFrame_125 (X : px_X)  (a0 : Nat) (a1 : Int32) (a2 : Int32) (s0 : Int32) (s1 : Nat) (w : px_W) : Option (px_W) :=
  (gO w s1 14).bind fun o124 =>
  (fX14_must X w s1 s0).bind fun q125 =>
  fX14_readFrame_130 X  FU a0 a1 a2 0 q125
def fX14_readFrame_120 (X : px_X)  (a0 : Nat) (a1 : Int32) (a2 : Int32) (s0 : Nat) (w : px_W) : Option (px_W) :=
  fX14_readFrame_125 X  a0 a1 a2 1 s0 w
def fX14_readFrame_124 (X : px_X)  (a0 : Nat) (a1 : Int32) (a2 : Int32) (s0 : Nat) (w : px_W) : Option (px_W) :=
  fX14_readFrame_125 X  a0 a1 a2 0 s0 w
def fX14_readFrame_95 (X : px_X)  (a0 : Nat) (a1 : Int32) (s0 : Int32) (s1 : Nat) (w : px_W) : Option (px_W) :=
  (gO w s1 14).bind fun o126 =>
  (fX14_must X w s1 s0).bind fun q127 =>
  (gO q127 a0 14).bind fun o128 =>
  (fX14_next X q127 a0).bind fun q129 =>
  (gI q129.2 a0 14 4).bind fun v130 =>
  if 0 < v130 then (
    fX14_readFrame_120 X  a0 a1 q129.1 a0 q129.2
  ) else (
    if q129.1 ≤ 0 then (
      fX14_readFrame_124 X  a0 a1 q129.1 a0 q129.2
    ) else (
      if 5 ≤ q129.1 then (
        fX14_readFrame_124 X  a0 a1 q129.1 a0 q129.2
      ) else (
        fX14_readFrame_120 X  a0 a1 q129.1 a0 q129.2
      )
    )
  )
def fX14_readFrame_90 (X : px_X)  (a0 : Nat) (a1 : Int32) (s0 : Nat) (w : px_W) : Option (px_W) :=
  fX14_readFrame_95 X  a0 a1 1 s0 w
def fX14_readFrame_94 (X : px_X)  (a0 : Nat) (a1 : Int32) (s0 : Nat) (w : px_W) : Option (px_W) :=
  fX14_readFrame_95 X  a0 a1 0 s0 w
def fX14_readFrame_55 (X : px_X)  (a0 : Nat) (a1 : Int32) (s0 : Int32) (s1 : Nat) (w : px_W) : Option (px_W) :=
  (gO w s1 14).bind fun o134 =>
  (fX14_must X w s1 s0).bind fun q135 =>
  (gO q135 a0 14).bind fun o136 =>
  (fX14_two X q135 a0).bind fun q137 =>
  (pV q137.2 a0 14 13 (.int q137.1)).bind fun w138 =>
  (gI w138 a0 14 4).bind fun v139 =>
  if 0 < v139 then (
    fX14_readFrame_90 X  a0 a1 a0 w138
  ) else (
    (gI w138 a0 14 13).bind fun v141 =>
    if v141 ≤ 0 then (
      fX14_readFrame_94 X  a0 a1 a0 w138
    ) else (
      (gI w138 a0 14 13).bind fun v143 =>
      if 64 < v143 then (
        fX14_readFrame_94 X  a0 a1 a0 w138
      ) else (
        fX14_readFrame_90 X  a0 a1 a0 w138
      )
    )
  )
def fX14_readFrame_50 (X : px_X)  (a0 : Nat) (a1 : Int32) (s0 : Nat) (w : px_W) : Option (px_W) :=
  fX14_readFrame_55 X  a0 a1 1 s0 w
def fX14_readFrame_22 (X : px_X)  (a0 : Nat) (a1 : Int32) (s0 : Int32) (s1 : Nat) (w : px_W) : Option (px_W) :=
  (gO w s1 14).bind fun o145 =>
  (fX14_must X w s1 s0).bind fun q146 =>
  (gO q146 a0 14).bind fun o147 =>
  (fX14_two X q146 a0).bind fun q148 =>
  (pV q148.2 a0 14 14 (.int q148.1)).bind fun w149 =>
  (gI w149 a0 14 4).bind fun v150 =>
  if 0 < v150 then (
    fX14_readFrame_50 X  a0 a1 a0 w149
  ) else (
    (gI w149 a0 14 14).bind fun v152 =>
    if 64 < v152 then (
      fX14_readFrame_55 X  a0 a1 0 a0 w149
    ) else (
      fX14_readFrame_50 X  a0 a1 a0 w149
    )
  )
def fX14_readFrame_17 (X : px_X)  (a0 : Nat) (a1 : Int32) (s0 : Nat) (w : px_W) : Option (px_W) :=
  fX14_readFrame_22 X  a0 a1 1 s0 w
def fX14_readFrame (X : px_X) (w : px_W) (a0 : Nat) (a1 : Int32) : Option (px_W) :=
  (gO w a0 14).bind fun o154 =>
  (fX14_next X w a0).bind fun q155 =>
  if q155.1 = 8 then (
    fX14_readFrame_17 X  a0 a1 a0 q155.2
  ) else (
    (gI q155.2 a0 14 4).bind fun v157 =>
    if v157 ≤ 0 then (
      fX14_readFrame_22 X  a0 a1 0 a0 q155.2
    ) else (
      fX14_readFrame_17 X  a0 a1 a0 q155.2
    )
  )
def fX14_named_27 (X : px_X) (k4 : Nat → Int32 → Int32 → Int32 → px_W → Option (Int32 × px_W)) (a0 : Nat) (a1 : Int32) (a3 : Int32) (s0 : Int32) (w : px_W) : Option (Int32 × px_W) :=
  k4 a0 a1 s0 (a3 + 1) w
def fX14_named_4 (X : px_X)  : Nat → Nat → Int32 → Int32 → Int32 → px_W → Option (Int32 × px_W)
  | 0, _, _, _, _, _ => none
  | m + 1, a0, a1, a2, a3, w =>
    (gI w a0 14 15).bind fun v4 =>
    if v4 ≤ a3 then (
      some (a2, w)
    ) else (
      (gR w a0 14 16).bind fun v6 =>
      (aN w 0 v6 a3).bind fun v7 =>
      if v7 = a1 then (
        fX14_named_27 X (fX14_named_4 X  m) a0 a1 a3 a3 w
      ) else (
        fX14_named_27 X (fX14_named_4 X  m) a0 a1 a3 a2 w
      )
    )
def fX14_named (X : px_X) (w : px_W) (a0 : Nat) (a1 : Int32) : Option (Int32 × px_W) :=
  fX14_named_4 X  FU a0 a1 ((-1)) 0 w
def fX14_order_157 (X : px_X) (k62 : Nat → Int32 → Int32 → Int32 → px_W → Option (px_W)) (a0 : Nat) (a2 : Int32) (a3 : Int32) (a4 : Int32) (w : px_W) : Option (px_W) :=
  k62 a0 a2 a3 (a4 + 1) w
def fX14_order_136 (X : px_X) (k62 : Nat → Int32 → Int32 → Int32 → px_W → Option (px_W)) (a0 : Nat) (a2 : Int32) (a3 : Int32) (a4 : Int32) (s0 : Int32) (w : px_W) : Option (px_W) :=
  if s0 = 0 then (
    (gI w a0 14 6).bind fun v26 =>
    (gO w a0 14).bind fun o27 =>
    (fX14_wrong X w a0 6 (v26 - 1)).bind fun q28 =>
    fX14_order_157 X k62 a0 a2 a3 a4 q28.2
  ) else (
    fX14_order_157 X k62 a0 a2 a3 a4 w
  )
def fX14_order_135 (X : px_X) (k62 : Nat → Int32 → Int32 → Int32 → px_W → Option (px_W)) (a0 : Nat) (a2 : Int32) (a3 : Int32) (a4 : Int32) (w : px_W) : Option (px_W) :=
  fX14_order_136 X k62 a0 a2 a3 a4 0 w
def fX14_order_62 (X : px_X)  : Nat → Nat → Int32 → Int32 → Int32 → px_W → Option (px_W)
  | 0, _, _, _, _, _ => none
  | m + 1, a0, a2, a3, a4, w =>
    (gI w a0 14 38).bind fun v29 =>
    if v29 < a4 then (
      some w
    ) else (
      if a2 = 0 then (
        some w
      ) else (
        (gR w a0 14 29).bind fun v32 =>
        (aN w 0 v32 (a3 + a4)).bind fun v33 =>
        if 0 ≤ v33 then (
          (gI w a0 14 39).bind fun v35 =>
          (gI w a0 14 40).bind fun v36 =>
          if v35 = (v36 + 1) then (
            (gR w a0 14 29).bind fun v38 =>
            (aN w 0 v38 (a3 + a4)).bind fun v39 =>
            (gI w a0 14 39).bind fun v40 =>
            if v39 = v40 then (
              fX14_order_136 X (fX14_order_62 X  m) a0 a2 a3 a4 1 w
            ) else (
              fX14_order_135 X (fX14_order_62 X  m) a0 a2 a3 a4 w
            )
          ) else (
            fX14_order_135 X (fX14_order_62 X  m) a0 a2 a3 a4 w
          )
        ) else (
          (gI w a0 14 39).bind fun v42 =>
          if v42 = 0 then (
            fX14_order_136 X (fX14_order_62 X  m) a0 a2 a3 a4 1 w
          ) else (
            fX14_order_136 X (fX14_order_62 X  m) a0 a2 a3 a4 0 w
          )
        )
      )
    )
def fX14_order_56 (X : px_X)  (a0 : Nat) (a2 : Int32) (a3 : Int32) (w : px_W) : Option (px_W) :=
  (gI w a0 14 37).bind fun v44 =>
  fX14_order_62 X  FU a0 a2 a3 v44 w
def fX14_order_42 (X : px_X)  (a0 : Nat) (a1 : Int32) (a2 : Int32) (a3 : Int32) (w : px_W) : Option (px_W) :=
  (gR w a0 14 34).bind fun v45 =>
  (aN w 0 v45 a1).bind fun v46 =>
  (gO w a0 14).bind fun o47 =>
  (fX14_wrong X w a0 7 v46).bind fun q48 =>
  fX14_order_56 X  a0 a2 a3 q48.2
def fX14_order (X : px_X) (w : px_W) (a0 : Nat) (a1 : Int32) (a2 : Int32) : Option (px_W) :=
  (gR w a0 14 31).bind fun v49 =>
  (aN w 0 v49 a1).bind fun v50 =>
  if a2 = 0 then (
    (gR w a0 14 29).bind fun v52 =>
    (aN w 0 v52 (64 * v50)).bind fun v53 =>
    if v53 < 0 then (
      fX14_order_56 X  a0 a2 (64 * v50) w
    ) else (
      fX14_order_42 X  a0 a1 a2 (64 * v50) w
    )
  ) else (
    (gI w a0 14 37).bind fun v55 =>
    if v55 ≤ 0 then (
      fX14_order_56 X  a0 a2 (64 * v50) w
    ) else (
      (gR w a0 14 29).bind fun v57 =>
      (aN w 0 v57 (64 * v50)).bind fun v58 =>
      if 0 ≤ v58 then (
        fX14_order_56 X  a0 a2 (64 * v50) w
      ) else (
        fX14_order_42 X  a0 a1 a2 (64 * v50) w
      )
    )
  )
def fX14_needs_93 (X : px_X)  (a0 : Nat) (a1 : Int32) (w : px_W) : Option (px_W) :=
  (gR w a0 14 34).bind fun v26 =>
  (aN w 0 v26 a1).bind fun v27 =>
  (gO w a0 14).bind fun o28 =>
  (fX14_wrong X w a0 8 (v27 + 1)).bind fun q29 =>
  some q29.2
def fX14_needs_70 (X : px_X)  (a0 : Nat) (a1 : Int32) (w : px_W) : Option (px_W) :=
  (gI w a0 14 38).bind fun v30 =>
  if v30 ≤ 0 then (
    some w
  ) else (
    (gR w a0 14 23).bind fun v32 =>
    (gR w a0 14 33).bind fun v33 =>
    (aN w 0 v33 a1).bind fun v34 =>
    (aN w 4 v32 (4 + v34)).bind fun v35 =>
    if v35 = 0 then (
      fX14_needs_93 X  a0 a1 w
    ) else (
      some w
    )
  )
def fX14_needs_51 (X : px_X)  (a0 : Nat) (a1 : Int32) (s0 : Int32) (w : px_W) : Option (px_W) :=
  if s0 = 0 then (
    fX14_needs_70 X  a0 a1 w
  ) else (
    (gR w a0 14 23).bind fun v38 =>
    (gR w a0 14 32).bind fun v39 =>
    (aN w 0 v39 a1).bind fun v40 =>
    (aN w 4 v38 v40).bind fun v41 =>
    if v41 = 0 then (
      fX14_needs_93 X  a0 a1 w
    ) else (
      fX14_needs_70 X  a0 a1 w
    )
  )
def fX14_needs_50 (X : px_X)  (a0 : Nat) (a1 : Int32) (w : px_W) : Option (px_W) :=
  fX14_needs_51 X  a0 a1 0 w
def fX14_needs_32 (X : px_X)  (a0 : Nat) (a1 : Int32) (w : px_W) : Option (px_W) :=
  (gI w a0 14 37).bind fun v43 =>
  if v43 = 0 then (
    (gI w a0 14 39).bind fun v45 =>
    if v45 = 0 then (
      fX14_needs_51 X  a0 a1 1 w
    ) else (
      fX14_needs_50 X  a0 a1 w
    )
  ) else (
    fX14_needs_50 X  a0 a1 w
  )
def fX14_needs (X : px_X) (w : px_W) (a0 : Nat) (a1 : Int32) : Option (px_W) :=
  (gR w a0 14 21).bind fun v47 =>
  (gR w a0 14 19).bind fun v48 =>
  (gR w a0 14 31).bind fun v49 =>
  (aN w 0 v49 a1).bind fun v50 =>
  (aN w 0 v48 v50).bind fun v51 =>
  (aN w 4 v47 v51).bind fun v52 =>
  if v52 = 0 then (
    (gR w a0 14 34).bind fun v54 =>
    (aN w 0 v54 a1).bind fun v55 =>
    (gO w a0 14).bind fun o56 =>
    (fX14_wrong X w a0 8 v55).bind fun q57 =>
    fX14_needs_32 X  a0 a1 q57.2
  ) else (
    fX14_needs_32 X  a0 a1 w
  )
def fX14_readScan_227 (X : px_X) (k45 : Nat → Int32 → Int32 → Int32 → px_W → Option (px_W)) (a0 : Nat) (a1 : Int32) (a2 : Int32) (a3 : Int32) (s0 : Int32) (s1 : Nat) (w : px_W) : Option (px_W) :=
  (gO w s1 14).bind fun o92 =>
  (fX14_must X w s1 s0).bind fun q93 =>
  k45 a0 a1 a2 (a3 + 1) q93
def fX14_readScan_226 (X : px_X) (k45 : Nat → Int32 → Int32 → Int32 → px_W → Option (px_W)) (a0 : Nat) (a1 : Int32) (a2 : Int32) (a3 : Int32) (s0 : Nat) (w : px_W) : Option (px_W) :=
  fX14_readScan_227 X k45 a0 a1 a2 a3 0 s0 w
def fX14_readScan_222 (X : px_X) (k45 : Nat → Int32 → Int32 → Int32 → px_W → Option (px_W)) (a0 : Nat) (a1 : Int32) (a2 : Int32) (a3 : Int32) (s0 : Nat) (w : px_W) : Option (px_W) :=
  fX14_readScan_227 X k45 a0 a1 a2 a3 1 s0 w
def fX14_readScan_166 (X : px_X) (k45 : Nat → Int32 → Int32 → Int32 → px_W → Option (px_W)) (a0 : Nat) (a1 : Int32) (a2 : Int32) (a3 : Int32) (w : px_W) : Option (px_W) :=
  (gO w a0 14).bind fun o94 =>
  (fX14_next X w a0).bind fun q95 =>
  (gR q95.2 a0 14 32).bind fun v96 =>
  (dI q95.1 16).bind fun v97 =>
  (sN id q95.2 0 v96 a3 v97).bind fun w98 =>
  (gR w98 a0 14 33).bind fun v99 =>
  (rI q95.1 16).bind fun v100 =>
  (sN id w98 0 v99 a3 v100).bind fun w101 =>
  (gI w101 a0 14 4).bind fun v102 =>
  if 0 < v102 then (
    fX14_readScan_222 X k45 a0 a1 a2 a3 a0 w101
  ) else (
    (gR w101 a0 14 32).bind fun v104 =>
    (aN w101 0 v104 a3).bind fun v105 =>
    if 4 ≤ v105 then (
      fX14_readScan_226 X k45 a0 a1 a2 a3 a0 w101
    ) else (
      (gR w101 a0 14 33).bind fun v107 =>
      (aN w101 0 v107 a3).bind fun v108 =>
      if 4 ≤ v108 then (
        fX14_readScan_226 X k45 a0 a1 a2 a3 a0 w101
      ) else (
        fX14_readScan_222 X k45 a0 a1 a2 a3 a0 w101
      )
    )
  )
def fX14_readScan_163 (X : px_X) (k45 : Nat → Int32 → Int32 → Int32 → px_W → Option (px_W)) (a0 : Nat) (a1 : Int32) (a2 : Int32) (a3 : Int32) (s0 : Int32) (s1 : Nat) (w : px_W) : Option (px_W) :=
  (gO w s1 14).bind fun o110 =>
  (fX14_must X w s1 s0).bind fun q111 =>
  fX14_readScan_166 X k45 a0 a1 a2 a3 q111
def fX14_readScan_158 (X : px_X) (k45 : Nat → Int32 → Int32 → Int32 → px_W → Option (px_W)) (a0 : Nat) (a1 : Int32) (a2 : Int32) (a3 : Int32) (s0 : Nat) (w : px_W) : Option (px_W) :=
  fX14_readScan_163 X k45 a0 a1 a2 a3 1 s0 w
def fX14_readScan_107 (X : px_X) (k45 : Nat → Int32 → Int32 → Int32 → px_W → Option (px_W)) (a0 : Nat) (a1 : Int32) (a2 : Int32) (a3 : Int32) (a4 : Int32) (w : px_W) : Option (px_W) :=
  (gI w a0 14 4).bind fun v112 =>
  if v112 = 0 then (
    (gR w a0 14 31).bind fun v114 =>
    (sN id w 0 v114 a3 a4).bind fun w115 =>
    (gR w115 a0 14 17).bind fun v116 =>
    (aN w115 0 v116 a4).bind fun v117 =>
    (gR w115 a0 14 18).bind fun v118 =>
    (aN w115 0 v118 a4).bind fun v119 =>
    (gI w115 a0 14 30).bind fun v120 =>
    if v120 = 1 then (
      fX14_readScan_158 X k45 a0 (a1 + (v117 * v119)) a4 a3 a0 w115
    ) else (
      if 10 < (a1 + (v117 * v119)) then (
        fX14_readScan_163 X k45 a0 (a1 + (v117 * v119)) a4 a3 0 a0 w115
      ) else (
        fX14_readScan_158 X k45 a0 (a1 + (v117 * v119)) a4 a3 a0 w115
      )
    )
  ) else (
    fX14_readScan_166 X k45 a0 a1 a2 a3 w
  )
def fX14_readScan_507 (X : px_X)  : Nat → Nat → Int32 → px_W → Option (px_W)
  | 0, _, _, _ => none
  | m + 1, a0, a5, w =>
    (gI w a0 14 30).bind fun v123 =>
    if v123 ≤ a5 then (
      some w
    ) else (
      (gI w a0 14 4).bind fun v125 =>
      if v125 = 0 then (
        (gO w a0 14).bind fun o127 =>
        (fX14_needs X w a0 a5).bind fun q128 =>
        fX14_readScan_507 X  m a0 (a5 + 1) q128
      ) else (
        some w
      )
    )
def fX14_readScan_504 (X : px_X)  (a0 : Nat) (w : px_W) : Option (px_W) :=
  fX14_readScan_507 X  FU a0 0 w
def fX14_readScan_475 (X : px_X)  : Nat → Nat → Int32 → Int32 → px_W → Option (px_W)
  | 0, _, _, _, _ => none
  | m + 1, a0, a3, a5, w =>
    (gI w a0 14 30).bind fun v129 =>
    if v129 ≤ a5 then (
      fX14_readScan_504 X  a0 w
    ) else (
      (gI w a0 14 4).bind fun v131 =>
      if v131 = 0 then (
        (gO w a0 14).bind fun o133 =>
        (fX14_order X w a0 a5 a3).bind fun q134 =>
        fX14_readScan_475 X  m a0 a3 (a5 + 1) q134
      ) else (
        fX14_readScan_504 X  a0 w
      )
    )
def fX14_readScan_469 (X : px_X)  (a0 : Nat) (a3 : Int32) (s0 : Int32) (s1 : Nat) (w : px_W) : Option (px_W) :=
  (gO w s1 14).bind fun o135 =>
  (fX14_must X w s1 s0).bind fun q136 =>
  fX14_readScan_475 X  FU a0 a3 0 q136
def fX14_readScan_464 (X : px_X)  (a0 : Nat) (a3 : Int32) (s0 : Nat) (w : px_W) : Option (px_W) :=
  fX14_readScan_469 X  a0 a3 1 s0 w
def fX14_readScan_468 (X : px_X)  (a0 : Nat) (a3 : Int32) (s0 : Nat) (w : px_W) : Option (px_W) :=
  fX14_readScan_469 X  a0 a3 0 s0 w
def fX14_readScan_388 (X : px_X)  (a0 : Nat) (a3 : Int32) (s0 : Int32) (s1 : Nat) (w : px_W) : Option (px_W) :=
  (gO w s1 14).bind fun o137 =>
  (fX14_must X w s1 s0).bind fun q138 =>
  (gO q138 a0 14).bind fun o139 =>
  (fX14_next X q138 a0).bind fun q140 =>
  (dI q140.1 16).bind fun v141 =>
  (pV q140.2 a0 14 39 (.int v141)).bind fun w142 =>
  (rI q140.1 16).bind fun v143 =>
  (pV w142 a0 14 40 (.int v143)).bind fun w144 =>
  (gI w144 a0 14 4).bind fun v145 =>
  if 0 < v145 then (
    fX14_readScan_464 X  a0 a3 a0 w144
  ) else (
    if a3 = 0 then (
      if q140.1 = 0 then (
        fX14_readScan_464 X  a0 a3 a0 w144
      ) else (
        fX14_readScan_468 X  a0 a3 a0 w144
      )
    ) else (
      (gI w144 a0 14 40).bind fun v149 =>
      if 13 < v149 then (
        fX14_readScan_468 X  a0 a3 a0 w144
      ) else (
        (gI w144 a0 14 39).bind fun v151 =>
        if v151 = 0 then (
          fX14_readScan_464 X  a0 a3 a0 w144
        ) else (
          (gI w144 a0 14 39).bind fun v153 =>
          (gI w144 a0 14 40).bind fun v154 =>
          if v153 = (v154 + 1) then (
            fX14_readScan_464 X  a0 a3 a0 w144
          ) else (
            fX14_readScan_468 X  a0 a3 a0 w144
          )
        )
      )
    )
  )
def fX14_readScan_387 (X : px_X)  (a0 : Nat) (a3 : Int32) (s0 : Nat) (w : px_W) : Option (px_W) :=
  fX14_readScan_388 X  a0 a3 0 s0 w
def fX14_readScan_383 (X : px_X)  (a0 : Nat) (a3 : Int32) (s0 : Nat) (w : px_W) : Option (px_W) :=
  fX14_readScan_388 X  a0 a3 1 s0 w
def fX14_readScan_311 (X : px_X)  (a0 : Nat) (a3 : Int32) (s0 : Int32) (s1 : Nat) (w : px_W) : Option (px_W) :=
  (gO w s1 14).bind fun o156 =>
  (fX14_must X w s1 s0).bind fun q157 =>
  (gO q157 a0 14).bind fun o158 =>
  (fX14_next X q157 a0).bind fun q159 =>
  (pV q159.2 a0 14 38 (.int q159.1)).bind fun w160 =>
  (gI w160 a0 14 4).bind fun v161 =>
  if 0 < v161 then (
    fX14_readScan_383 X  a0 a3 a0 w160
  ) else (
    if a3 = 0 then (
      (gI w160 a0 14 38).bind fun v173 =>
      if v173 = 63 then (
        fX14_readScan_383 X  a0 a3 a0 w160
      ) else (
        fX14_readScan_387 X  a0 a3 a0 w160
      )
    ) else (
      (gI w160 a0 14 37).bind fun v164 =>
      if v164 = 0 then (
        (gI w160 a0 14 38).bind fun v171 =>
        if v171 = 0 then (
          fX14_readScan_383 X  a0 a3 a0 w160
        ) else (
          fX14_readScan_387 X  a0 a3 a0 w160
        )
      ) else (
        (gI w160 a0 14 38).bind fun v166 =>
        (gI w160 a0 14 37).bind fun v167 =>
        if v166 < v167 then (
          fX14_readScan_387 X  a0 a3 a0 w160
        ) else (
          (gI w160 a0 14 38).bind fun v169 =>
          if 64 ≤ v169 then (
            fX14_readScan_387 X  a0 a3 a0 w160
          ) else (
            fX14_readScan_383 X  a0 a3 a0 w160
          )
        )
      )
    )
  )
def fX14_readScan_306 (X : px_X)  (a0 : Nat) (a3 : Int32) (s0 : Nat) (w : px_W) : Option (px_W) :=
  fX14_readScan_311 X  a0 a3 1 s0 w
def fX14_readScan_310 (X : px_X)  (a0 : Nat) (a3 : Int32) (s0 : Nat) (w : px_W) : Option (px_W) :=
  fX14_readScan_311 X  a0 a3 0 s0 w
def fX14_readScan_251 (X : px_X)  (a0 : Nat) (s0 : Int32) (w : px_W) : Option (px_W) :=
  (gO w a0 14).bind fun o175 =>
  (fX14_next X w a0).bind fun q176 =>
  (pV q176.2 a0 14 37 (.int q176.1)).bind fun w177 =>
  (gI w177 a0 14 4).bind fun v178 =>
  if 0 < v178 then (
    fX14_readScan_306 X  a0 s0 a0 w177
  ) else (
    if s0 = 0 then (
      (gI w177 a0 14 37).bind fun v181 =>
      if v181 = 0 then (
        fX14_readScan_306 X  a0 s0 a0 w177
      ) else (
        fX14_readScan_310 X  a0 s0 a0 w177
      )
    ) else (
      (gI w177 a0 14 37).bind fun v183 =>
      if 64 ≤ v183 then (
        fX14_readScan_310 X  a0 s0 a0 w177
      ) else (
        (gI w177 a0 14 37).bind fun v185 =>
        if v185 = 0 then (
          fX14_readScan_306 X  a0 s0 a0 w177
        ) else (
          (gI w177 a0 14 30).bind fun v187 =>
          if v187 = 1 then (
            fX14_readScan_306 X  a0 s0 a0 w177
          ) else (
            fX14_readScan_310 X  a0 s0 a0 w177
          )
        )
      )
    )
  )
def fX14_readScan_236 (X : px_X)  (a0 : Nat) (w : px_W) : Option (px_W) :=
  (gI w a0 14 12).bind fun v189 =>
  if v189 = 194 then (
    fX14_readScan_251 X  a0 1 w
  ) else (
    fX14_readScan_251 X  a0 0 w
  )
def fX14_readScan_45 (X : px_X)  : Nat → Nat → Int32 → Int32 → Int32 → px_W → Option (px_W)
  | 0, _, _, _, _, _ => none
  | m + 1, a0, a1, a2, a3, w =>
    (gI w a0 14 30).bind fun v191 =>
    if v191 ≤ a3 then (
      fX14_readScan_236 X  a0 w
    ) else (
      (gI w a0 14 4).bind fun v193 =>
      if v193 = 0 then (
        (gR w a0 14 34).bind fun v195 =>
        (gI w a0 14 6).bind fun v196 =>
        (sN id w 0 v195 a3 v196).bind fun w197 =>
        (gO w197 a0 14).bind fun o198 =>
        (fX14_next X w197 a0).bind fun q199 =>
        (gO q199.2 a0 14).bind fun o200 =>
        (fX14_named X q199.2 a0 q199.1).bind fun q201 =>
        (gI q201.2 a0 14 4).bind fun v202 =>
        if v202 = 0 then (
          if a2 < q201.1 then (
            fX14_readScan_107 X (fX14_readScan_45 X  m) a0 a1 a2 a3 q201.1 q201.2
          ) else (
            (gR q201.2 a0 14 34).bind fun v205 =>
            (aN q201.2 0 v205 a3).bind fun v206 =>
            (gO q201.2 a0 14).bind fun o207 =>
            (fX14_wrong X q201.2 a0 7 v206).bind fun q208 =>
            fX14_readScan_107 X (fX14_readScan_45 X  m) a0 a1 a2 a3 q201.1 q208.2
          )
        ) else (
          fX14_readScan_107 X (fX14_readScan_45 X  m) a0 a1 a2 a3 q201.1 q201.2
        )
      ) else (
        fX14_readScan_236 X  a0 w
      )
    )
def fX14_readScan_36 (X : px_X)  (a0 : Nat) (s0 : Int32) (s1 : Nat) (w : px_W) : Option (px_W) :=
  (gO w s1 14).bind fun o209 =>
  (fX14_must X w s1 s0).bind fun q210 =>
  fX14_readScan_45 X  FU a0 0 ((-1)) 0 q210
def fX14_readScan_31 (X : px_X)  (a0 : Nat) (s0 : Nat) (w : px_W) : Option (px_W) :=
  fX14_readScan_36 X  a0 1 s0 w
def fX14_readScan_35 (X : px_X)  (a0 : Nat) (s0 : Nat) (w : px_W) : Option (px_W) :=
  fX14_readScan_36 X  a0 0 s0 w
def fX14_readScan (X : px_X) (w : px_W) (a0 : Nat) : Option (px_W) :=
  (gO w a0 14).bind fun o211 =>
  (fX14_next X w a0).bind fun q212 =>
  (pV q212.2 a0 14 30 (.int q212.1)).bind fun w213 =>
  (gI w213 a0 14 4).bind fun v214 =>
  if 0 < v214 then (
    fX14_readScan_31 X  a0 a0 w213
  ) else (
    (gI w213 a0 14 30).bind fun v216 =>
    if v216 ≤ 0 then (
      fX14_readScan_35 X  a0 a0 w213
    ) else (
      (gI w213 a0 14 30).bind fun v218 =>
      if 5 ≤ v218 then (
        fX14_readScan_35 X  a0 a0 w213
      ) else (
        fX14_readScan_31 X  a0 a0 w213
      )
    )
  )
def fX14_readData_139 (X : px_X) (k4 : Nat → Int32 → Int32 → Int32 → px_W → Option (px_W)) (a0 : Nat) (a1 : Int32) (a2 : Int32) (a3 : Int32) (w : px_W) : Option (px_W) :=
  k4 a0 a1 a2 a3 w
def fX14_readData_138 (X : px_X) (k4 : Nat → Int32 → Int32 → Int32 → px_W → Option (px_W)) (a0 : Nat) (a1 : Int32) (a2 : Int32) (s0 : Int32) (w : px_W) : Option (px_W) :=
  fX14_readData_139 X k4 a0 a1 a2 s0 w
def fX14_readData_133 (X : px_X) (k4 : Nat → Int32 → Int32 → Int32 → px_W → Option (px_W)) (a0 : Nat) (a1 : Int32) (a2 : Int32) (w : px_W) : Option (px_W) :=
  fX14_readData_138 X k4 a0 a1 a2 1 w
def fX14_readData_121 (X : px_X) (k4 : Nat → Int32 → Int32 → Int32 → px_W → Option (px_W)) (a0 : Nat) (a1 : Int32) (a5 : Int32) (a6 : Int32) (s0 : Int32) (s1 : Int32) (w : px_W) : Option (px_W) :=
  if a5 = 0 then (
    fX14_readData_133 X k4 a0 a1 (s1 + s0) w
  ) else (
    if a6 = 0 then (
      fX14_readData_138 X k4 a0 a1 (s1 + s0) 0 w
    ) else (
      fX14_readData_133 X k4 a0 a1 (s1 + s0) w
    )
  )
def fX14_readData_110 (X : px_X) (k4 : Nat → Int32 → Int32 → Int32 → px_W → Option (px_W)) (a0 : Nat) (a1 : Int32) (a2 : Int32) (a5 : Int32) (a6 : Int32) (w : px_W) : Option (px_W) :=
  if a6 = 0 then (
    fX14_readData_121 X k4 a0 a1 a5 a6 0 a2 w
  ) else (
    fX14_readData_121 X k4 a0 a1 a5 a6 1 a2 w
  )
def fX14_readData_97 (X : px_X) (k4 : Nat → Int32 → Int32 → Int32 → px_W → Option (px_W)) (a0 : Nat) (a1 : Int32) (a2 : Int32) (a5 : Int32) (a6 : Int32) (w : px_W) : Option (px_W) :=
  (gI w a0 14 6).bind fun v29 =>
  (gO w a0 14).bind fun o30 =>
  (fX14_wrong X w a0 4 (v29 - 1)).bind fun q31 =>
  fX14_readData_110 X k4 a0 a1 a2 a5 a6 q31.2
def fX14_readData_63 (X : px_X) (k4 : Nat → Int32 → Int32 → Int32 → px_W → Option (px_W)) (a0 : Nat) (a1 : Int32) (a2 : Int32) (a5 : Int32) (s0 : Int32) (w : px_W) : Option (px_W) :=
  (gI w a0 14 4).bind fun v32 =>
  if v32 = 0 then (
    if s0 = 0 then (
      fX14_readData_110 X k4 a0 a1 a2 a5 s0 w
    ) else (
      (gI w a0 14 20).bind fun v35 =>
      if v35 = 0 then (
        fX14_readData_97 X k4 a0 a1 a2 a5 s0 w
      ) else (
        (rI a2 8).bind fun v37 =>
        if a5 = (208 + v37) then (
          fX14_readData_110 X k4 a0 a1 a2 a5 s0 w
        ) else (
          fX14_readData_97 X k4 a0 a1 a2 a5 s0 w
        )
      )
    )
  ) else (
    fX14_readData_110 X k4 a0 a1 a2 a5 s0 w
  )
def fX14_readData_62 (X : px_X) (k4 : Nat → Int32 → Int32 → Int32 → px_W → Option (px_W)) (a0 : Nat) (a1 : Int32) (a2 : Int32) (a5 : Int32) (w : px_W) : Option (px_W) :=
  fX14_readData_63 X k4 a0 a1 a2 a5 0 w
def fX14_readData_163 (X : px_X)  (a0 : Nat) (a1 : Int32) (a2 : Int32) (s0 : Int32) (s1 : Nat) (w : px_W) : Option (px_W) :=
  (pV w s1 14 6 (.int s0)).bind fun w39 =>
  (gR w39 a0 14 28).bind fun v40 =>
  (gI w39 a0 14 6).bind fun v41 =>
  (gR w39 a0 14 28).bind fun v42 =>
  (aN w39 0 v42 (a1 + 5)).bind fun v43 =>
  (sN id w39 0 v40 (a1 + 6) (v41 - v43)).bind fun w44 =>
  (gR w44 a0 14 28).bind fun v45 =>
  (sN id w44 0 v45 (a1 + 7) a2).bind fun w46 =>
  (gI w46 a0 14 27).bind fun v47 =>
  (pV w46 a0 14 27 (.int (v47 + 1))).bind fun w48 =>
  some w48
def fX14_readData_142 (X : px_X)  (a0 : Nat) (a1 : Int32) (a2 : Int32) (w : px_W) : Option (px_W) :=
  (gI w a0 14 4).bind fun v49 =>
  if v49 = 0 then (
    (gI w a0 14 6).bind fun v52 =>
    fX14_readData_163 X  a0 a1 a2 (v52 - 2) a0 w
  ) else (
    (gI w a0 14 6).bind fun v51 =>
    fX14_readData_163 X  a0 a1 a2 v51 a0 w
  )
def fX14_readData_4 (X : px_X)  : Nat → Nat → Int32 → Int32 → Int32 → px_W → Option (px_W)
  | 0, _, _, _, _, _ => none
  | m + 1, a0, a1, a2, a3, w =>
    if a3 = 0 then (
      fX14_readData_142 X  a0 a1 a2 w
    ) else (
      (gI w a0 14 4).bind fun v54 =>
      if v54 = 0 then (
        (gO w a0 14).bind fun o56 =>
        (fX14_next X w a0).bind fun q57 =>
        (gI q57.2 a0 14 4).bind fun v58 =>
        if v58 = 0 then (
          if q57.1 = 255 then (
            (gO q57.2 a0 14).bind fun o61 =>
            (fX14_next X q57.2 a0).bind fun q62 =>
            if q62.1 < 208 then (
              fX14_readData_62 X (fX14_readData_4 X  m) a0 a1 a2 q62.1 q62.2
            ) else (
              if 215 < q62.1 then (
                fX14_readData_62 X (fX14_readData_4 X  m) a0 a1 a2 q62.1 q62.2
              ) else (
                fX14_readData_63 X (fX14_readData_4 X  m) a0 a1 a2 q62.1 1 q62.2
              )
            )
          ) else (
            fX14_readData_139 X (fX14_readData_4 X  m) a0 a1 a2 a3 q57.2
          )
        ) else (
          fX14_readData_139 X (fX14_readData_4 X  m) a0 a1 a2 a3 q57.2
        )
      ) else (
        fX14_readData_142 X  a0 a1 a2 w
      )
    )
def fX14_readData (X : px_X) (w : px_W) (a0 : Nat) (a1 : Int32) : Option (px_W) :=
  fX14_readData_4 X  FU a0 a1 0 1 w
def fX15_lend_87 (X : px_X)  (a0 : Nat) (a2 : Int32) (w : px_W) : Option (px_W) :=
  (gR w a0 15 13).bind fun v20 =>
  (gO w v20 13).bind fun o21 =>
  (fX13_make X w v20 a2).bind fun q22 =>
  some q22.2
def fX15_lend_49 (X : px_X)  : Nat → Nat → Nat → Int32 → Int32 → px_W → Option (px_W)
  | 0, _, _, _, _, _ => none
  | m + 1, a0, a1, a2, a3, w =>
    (gR w a0 15 13).bind fun v23 =>
    (gI w v23 13 16).bind fun v24 =>
    if v24 ≤ a3 then (
      fX15_lend_87 X  a0 a2 w
    ) else (
      (gR w a0 15 13).bind fun v26 =>
      (gR w v26 13 15).bind fun v27 =>
      (gR w a1 14 25).bind fun v28 =>
      (aN w 0 v28 ((256 * a2) + a3)).bind fun v29 =>
      (sN id w 0 v27 a3 v29).bind fun w30 =>
      fX15_lend_49 X  m a0 a1 a2 (a3 + 1) w30
    )
def fX15_lend_34 (X : px_X)  (a0 : Nat) (a1 : Nat) (a2 : Int32) (w : px_W) : Option (px_W) :=
  (gR w a0 15 13).bind fun v31 =>
  (gR w a1 14 26).bind fun v32 =>
  (aN w 0 v32 a2).bind fun v33 =>
  (pV w v31 13 16 (.int v33)).bind fun w34 =>
  fX15_lend_49 X  FU a0 a1 a2 0 w34
def fX15_lend_2 (X : px_X)  : Nat → Nat → Nat → Int32 → Int32 → px_W → Option (px_W)
  | 0, _, _, _, _, _ => none
  | m + 1, a0, a1, a2, a3, w =>
    if 17 ≤ a3 then (
      fX15_lend_34 X  a0 a1 a2 w
    ) else (
      (gR w a0 15 13).bind fun v36 =>
      (gR w v36 13 14).bind fun v37 =>
      (gR w a1 14 24).bind fun v38 =>
      (aN w 0 v38 ((17 * a2) + a3)).bind fun v39 =>
      (sN id w 0 v37 a3 v39).bind fun w40 =>
      fX15_lend_2 X  m a0 a1 a2 (a3 + 1) w40
    )
def fX15_lend (X : px_X) (w : px_W) (a0 : Nat) (a1 : Nat) (a2 : Int32) : Option (px_W) :=
  fX15_lend_2 X  FU a0 a1 a2 1 w
def fX15_scanned_342 (X : px_X)  (a0 : Nat) (w : px_W) : Option (Int32 × px_W) :=
  (gR w a0 15 13).bind fun v62 =>
  (gO w v62 13).bind fun o63 =>
  (fX13_read X w v62).bind fun q64 =>
  if q64.1 ≤ 0 then (
    some (0, q64.2)
  ) else (
    some (10 + q64.1, q64.2)
  )
def fX15_scanned_298 (X : px_X)  : Nat → Nat → Nat → Int32 → Int32 → px_W → Option (Int32 × px_W)
  | 0, _, _, _, _, _ => none
  | m + 1, a0, a1, a2, a5, w =>
    (gR w a0 15 13).bind fun v66 =>
    (gI w v66 13 29).bind fun v67 =>
    if v67 ≤ a5 then (
      fX15_scanned_342 X  a0 w
    ) else (
      (gR w a0 15 13).bind fun v69 =>
      (gR w v69 13 28).bind fun v70 =>
      (gR w a1 14 0).bind fun v71 =>
      (gR w a1 14 28).bind fun v72 =>
      (aN w 0 v72 (a2 + 5)).bind fun v73 =>
      (aN w 1 v71 (v73 + a5)).bind fun v74 =>
      (sN (vp_nar .byte) w 1 v70 a5 v74).bind fun w75 =>
      fX15_scanned_298 X  m a0 a1 a2 (a5 + 1) w75
    )
def fX15_scanned_277 (X : px_X)  (a0 : Nat) (a1 : Nat) (a2 : Int32) (s0 : Int32) (w : px_W) : Option (Int32 × px_W) :=
  (gR w a0 15 13).bind fun v76 =>
  (gR w a1 14 28).bind fun v77 =>
  (aN w 0 v77 (a2 + 6)).bind fun v78 =>
  (pV w v76 13 29 (.int v78)).bind fun w79 =>
  fX15_scanned_298 X  FU a0 a1 a2 0 w79
def fX15_scanned_276 (X : px_X)  (a0 : Nat) (a1 : Nat) (a2 : Int32) (w : px_W) : Option (Int32 × px_W) :=
  fX15_scanned_277 X  a0 a1 a2 0 w
def fX15_scanned_210 (X : px_X)  (a0 : Nat) (a1 : Nat) (a2 : Int32) (a3 : Int32) (w : px_W) : Option (Int32 × px_W) :=
  (gR w a0 15 13).bind fun v80 =>
  (gR w a1 14 28).bind fun v81 =>
  (aN w 0 v81 (a2 + 1)).bind fun v82 =>
  (gR w a1 14 28).bind fun v83 =>
  (aN w 0 v83 (a2 + 2)).bind fun v84 =>
  (gR w a1 14 28).bind fun v85 =>
  (aN w 0 v85 (a2 + 3)).bind fun v86 =>
  (gR w a1 14 28).bind fun v87 =>
  (aN w 0 v87 (a2 + 4)).bind fun v88 =>
  (gO w v80 13).bind fun o89 =>
  (fX13_scan X w v80 a3 v82 v84 v86 v88).bind fun q90 =>
  if q90.1 = 0 then (
    fX15_scanned_276 X  a0 a1 a2 q90.2
  ) else (
    (gR q90.2 a0 15 13).bind fun v92 =>
    (gR q90.2 a1 14 28).bind fun v93 =>
    (aN q90.2 0 v93 (a2 + 8)).bind fun v94 =>
    (gO q90.2 v92 13).bind fun o95 =>
    (fX13_restart X q90.2 v92 v94).bind fun q96 =>
    if q96.1 = 0 then (
      fX15_scanned_276 X  a0 a1 a2 q96.2
    ) else (
      fX15_scanned_277 X  a0 a1 a2 1 q96.2
    )
  )
def fX15_scanned_196 (X : px_X) (k64 : Nat → Nat → Int32 → Int32 → Int32 → px_W → Option (Int32 × px_W)) (a0 : Nat) (a1 : Nat) (a2 : Int32) (a3 : Int32) (a4 : Int32) (a5 : Int32) (w : px_W) : Option (Int32 × px_W) :=
  (gR w a0 15 16).bind fun v98 =>
  (sN (vp_nar .boolean) w 4 v98 a5 1).bind fun w99 =>
  k64 a0 a1 a2 a3 (a4 + 1) w99
def fX15_scanned_142 (X : px_X) (k64 : Nat → Nat → Int32 → Int32 → Int32 → px_W → Option (Int32 × px_W)) : Nat → Nat → Nat → Int32 → Int32 → Int32 → Int32 → Int32 → px_W → Option (Int32 × px_W)
  | 0, _, _, _, _, _, _, _, _ => none
  | m + 1, a0, a1, a2, a3, a4, a5, a7, w =>
    if 64 ≤ a7 then (
      fX15_scanned_196 X k64 a0 a1 a2 a3 a4 a5 w
    ) else (
      (gR w a0 15 16).bind fun v101 =>
      (aN w 4 v101 a5).bind fun v102 =>
      if v102 = 0 then (
        (gR w a0 15 15).bind fun v104 =>
        (gR w a1 14 22).bind fun v105 =>
        (gR w a1 14 19).bind fun v106 =>
        (aN w 0 v106 a5).bind fun v107 =>
        (aN w 0 v105 ((64 * v107) + a7)).bind fun v108 =>
        (sN id w 0 v104 ((64 * a5) + a7) v108).bind fun w109 =>
        fX15_scanned_142 X k64 m a0 a1 a2 a3 a4 a5 (a7 + 1) w109
      ) else (
        fX15_scanned_196 X k64 a0 a1 a2 a3 a4 a5 w
      )
    )
def fX15_scanned_64 (X : px_X)  : Nat → Nat → Nat → Int32 → Int32 → Int32 → px_W → Option (Int32 × px_W)
  | 0, _, _, _, _, _, _ => none
  | m + 1, a0, a1, a2, a3, a4, w =>
    (gR w a1 14 28).bind fun v110 =>
    (aN w 0 v110 a2).bind fun v111 =>
    if v111 ≤ a4 then (
      fX15_scanned_210 X  a0 a1 a2 a3 w
    ) else (
      (gR w a1 14 28).bind fun v113 =>
      (aN w 0 v113 ((a2 + 10) + (4 * a4))).bind fun v114 =>
      (gR w a0 15 13).bind fun v115 =>
      (gR w a1 14 28).bind fun v116 =>
      (aN w 0 v116 ((a2 + 11) + (4 * a4))).bind fun v117 =>
      (gR w a1 14 28).bind fun v118 =>
      (aN w 0 v118 ((a2 + 12) + (4 * a4))).bind fun v119 =>
      (gO w v115 13).bind fun o120 =>
      (fX13_tables X w v115 v114 v117 (4 + v119)).bind fun q121 =>
      fX15_scanned_142 X (fX15_scanned_64 X  m) FU a0 a1 a2 (a3 ||| ((1 : Int32) <<< (v114 &&& 31))) a4 v114 0 q121.2
    )
def fX15_scanned_61 (X : px_X)  (a0 : Nat) (a1 : Nat) (a2 : Int32) (a3 : Int32) (w : px_W) : Option (Int32 × px_W) :=
  fX15_scanned_64 X  FU a0 a1 a2 a3 0 w
def fX15_scanned_55 (X : px_X) (k31 : Nat → Nat → Int32 → Int32 → Int32 → px_W → Option (Int32 × px_W)) (a0 : Nat) (a1 : Nat) (a2 : Int32) (a3 : Int32) (a4 : Int32) (w : px_W) : Option (Int32 × px_W) :=
  k31 a0 a1 a2 a3 (a4 + 1) w
def fX15_scanned_31 (X : px_X)  : Nat → Nat → Nat → Int32 → Int32 → Int32 → px_W → Option (Int32 × px_W)
  | 0, _, _, _, _, _, _ => none
  | m + 1, a0, a1, a2, a3, a4, w =>
    if 8 ≤ a4 then (
      fX15_scanned_61 X  a0 a1 a2 a3 w
    ) else (
      (gR w a1 14 23).bind fun v123 =>
      (aN w 4 v123 a4).bind fun v124 =>
      if v124 = 0 then (
        fX15_scanned_55 X (fX15_scanned_31 X  m) a0 a1 a2 a3 a4 w
      ) else (
        (gO w a0 15).bind fun o126 =>
        (fX15_lend X w a0 a1 a4).bind fun q127 =>
        fX15_scanned_55 X (fX15_scanned_31 X  m) a0 a1 a2 a3 a4 q127
      )
    )
def fX15_scanned (X : px_X) (w : px_W) (a0 : Nat) (a1 : Nat) (a2 : Int32) : Option (Int32 × px_W) :=
  (gI w a1 14 27).bind fun v128 =>
  (pV w a0 15 8 (.int (v128 - 1))).bind fun w129 =>
  (gR w129 a1 14 28).bind fun v130 =>
  (aN w129 0 v130 (a2 + 4)).bind fun v131 =>
  if v131 ≤ 9 then (
    fX15_scanned_31 X  FU a0 a1 a2 0 0 w129
  ) else (
    some (10, w129)
  )
def fX14_keepScan_203 (X : px_X)  (a0 : Nat) (a1 : Int32) (w : px_W) : Option (px_W) :=
  (gO w a0 14).bind fun o51 =>
  (fX14_readData X w a0 a1).bind fun q52 =>
  (gQ q52 a0 14 2).bind fun v53 =>
  if v53 = none then (
    some q52
  ) else (
    (gI q52 a0 14 4).bind fun v54 =>
    if v54 = 0 then (
      (gR q52 a0 14 2).bind fun v56 =>
      (gO q52 v56 15).bind fun o57 =>
      (fX15_scanned X q52 v56 a0 a1).bind fun q58 =>
      (pV q58.2 a0 14 3 (.int q58.1)).bind fun w59 =>
      some w59
    ) else (
      some q52
    )
  )
def fX14_keepScan_197 (X : px_X) (k93 : Nat → Int32 → Int32 → px_W → Option (px_W)) (a0 : Nat) (a1 : Int32) (a2 : Int32) (w : px_W) : Option (px_W) :=
  k93 a0 a1 (a2 + 1) w
def fX14_keepScan_163 (X : px_X) (k93 : Nat → Int32 → Int32 → px_W → Option (px_W)) : Nat → Nat → Int32 → Int32 → Int32 → px_W → Option (px_W)
  | 0, _, _, _, _, _ => none
  | m + 1, a0, a1, a2, a3, w =>
    (gI w a0 14 38).bind fun v61 =>
    if v61 < a3 then (
      fX14_keepScan_197 X k93 a0 a1 a2 w
    ) else (
      (gR w a0 14 29).bind fun v63 =>
      (gR w a0 14 31).bind fun v64 =>
      (aN w 0 v64 a2).bind fun v65 =>
      (gI w a0 14 40).bind fun v66 =>
      (sN id w 0 v63 ((64 * v65) + a3) v66).bind fun w67 =>
      fX14_keepScan_163 X k93 m a0 a1 a2 (a3 + 1) w67
    )
def fX14_keepScan_93 (X : px_X)  : Nat → Nat → Int32 → Int32 → px_W → Option (px_W)
  | 0, _, _, _, _ => none
  | m + 1, a0, a1, a2, w =>
    (gI w a0 14 30).bind fun v68 =>
    if v68 ≤ a2 then (
      fX14_keepScan_203 X  a0 a1 w
    ) else (
      (gR w a0 14 28).bind fun v70 =>
      (gR w a0 14 31).bind fun v71 =>
      (aN w 0 v71 a2).bind fun v72 =>
      (sN id w 0 v70 ((a1 + 10) + (4 * a2)) v72).bind fun w73 =>
      (gR w73 a0 14 28).bind fun v74 =>
      (gR w73 a0 14 32).bind fun v75 =>
      (aN w73 0 v75 a2).bind fun v76 =>
      (sN id w73 0 v74 ((a1 + 11) + (4 * a2)) v76).bind fun w77 =>
      (gR w77 a0 14 28).bind fun v78 =>
      (gR w77 a0 14 33).bind fun v79 =>
      (aN w77 0 v79 a2).bind fun v80 =>
      (sN id w77 0 v78 ((a1 + 12) + (4 * a2)) v80).bind fun w81 =>
      (gI w81 a0 14 37).bind fun v82 =>
      fX14_keepScan_163 X (fX14_keepScan_93 X  m) FU a0 a1 a2 v82 w81
    )
def fX14_keepScan (X : px_X) (w : px_W) (a0 : Nat) : Option (px_W) :=
  (gI w a0 14 27).bind fun v83 =>
  (gR w a0 14 28).bind fun v84 =>
  (gI w a0 14 30).bind fun v85 =>
  (sN id w 0 v84 (30 * v83) v85).bind fun w86 =>
  (gR w86 a0 14 28).bind fun v87 =>
  (gI w86 a0 14 37).bind fun v88 =>
  (sN id w86 0 v87 ((30 * v83) + 1) v88).bind fun w89 =>
  (gR w89 a0 14 28).bind fun v90 =>
  (gI w89 a0 14 38).bind fun v91 =>
  (sN id w89 0 v90 ((30 * v83) + 2) v91).bind fun w92 =>
  (gR w92 a0 14 28).bind fun v93 =>
  (gI w92 a0 14 39).bind fun v94 =>
  (sN id w92 0 v93 ((30 * v83) + 3) v94).bind fun w95 =>
  (gR w95 a0 14 28).bind fun v96 =>
  (gI w95 a0 14 40).bind fun v97 =>
  (sN id w95 0 v96 ((30 * v83) + 4) v97).bind fun w98 =>
  (gR w98 a0 14 28).bind fun v99 =>
  (gI w98 a0 14 6).bind fun v100 =>
  (sN id w98 0 v99 ((30 * v83) + 5) v100).bind fun w101 =>
  (gR w101 a0 14 28).bind fun v102 =>
  (gI w101 a0 14 20).bind fun v103 =>
  (sN id w101 0 v102 ((30 * v83) + 8) v103).bind fun w104 =>
  fX14_keepScan_93 X  FU a0 (30 * v83) 0 w104
def fX14_isSent_44 (X : px_X) (k15 : Nat → Int32 → Int32 → px_W → Option (Int32 × px_W)) (a0 : Nat) (a2 : Int32) (s0 : Int32) (w : px_W) : Option (Int32 × px_W) :=
  k15 a0 s0 (a2 + 1) w
def fX14_isSent_43 (X : px_X) (k15 : Nat → Int32 → Int32 → px_W → Option (Int32 × px_W)) (a0 : Nat) (a2 : Int32) (w : px_W) : Option (Int32 × px_W) :=
  fX14_isSent_44 X k15 a0 a2 0 w
def fX14_isSent_15 (X : px_X)  : Nat → Nat → Int32 → Int32 → px_W → Option (Int32 × px_W)
  | 0, _, _, _, _ => none
  | m + 1, a0, a1, a2, w =>
    (gI w a0 14 15).bind fun v5 =>
    if v5 ≤ a2 then (
      zR a1 w
    ) else (
      if a1 = 0 then (
        fX14_isSent_43 X (fX14_isSent_15 X  m) a0 a2 w
      ) else (
        (gR w a0 14 29).bind fun v8 =>
        (aN w 0 v8 (64 * a2)).bind fun v9 =>
        if v9 < 0 then (
          fX14_isSent_43 X (fX14_isSent_15 X  m) a0 a2 w
        ) else (
          fX14_isSent_44 X (fX14_isSent_15 X  m) a0 a2 1 w
        )
      )
    )
def fX14_isSent_12 (X : px_X)  (a0 : Nat) (s0 : Int32) (w : px_W) : Option (Int32 × px_W) :=
  fX14_isSent_15 X  FU a0 s0 0 w
def fX14_isSent (X : px_X) (w : px_W) (a0 : Nat) : Option (Int32 × px_W) :=
  (gI w a0 14 15).bind fun v11 =>
  if v11 ≤ 0 then (
    fX14_isSent_12 X  a0 0 w
  ) else (
    fX14_isSent_12 X  a0 1 w
  )
def fX14_segment_161 (X : px_X)  (a0 : Nat) (a1 : Int32) (w : px_W) : Option (Int32 × px_W) :=
  (gO w a0 14).bind fun o32 =>
  (fX14_close X w a0 a1).bind fun q33 =>
  if a1 = 218 then (
    (gI q33 a0 14 4).bind fun v35 =>
    if v35 = 0 then (
      (gO q33 a0 14).bind fun o37 =>
      (fX14_keepScan X q33 a0).bind fun q38 =>
      (gI q38 a0 14 14).bind fun v39 =>
      if v39 = 0 then (
        (gI q38 a0 14 27).bind fun v41 =>
        if v41 = 1 then (
          some (1, q38)
        ) else (
          some (0, q38)
        )
      ) else (
        some (0, q38)
      )
    ) else (
      some (0, q33)
    )
  ) else (
    some (0, q33)
  )
def fX14_segment_69 (X : px_X)  (a0 : Nat) (a1 : Int32) (s0 : Int32) (s1 : Nat) (w : px_W) : Option (Int32 × px_W) :=
  (pV w s1 14 20 (.int s0)).bind fun w43 =>
  fX14_segment_161 X  a0 a1 w43
def fX14_segment_89 (X : px_X)  (a0 : Nat) (a1 : Int32) (w : px_W) : Option (Int32 × px_W) :=
  (gO w a0 14).bind fun o44 =>
  (fX14_readFrame X w a0 a1).bind fun q45 =>
  fX14_segment_161 X  a0 a1 q45
def fX14_segment_146 (X : px_X)  (a0 : Nat) (a1 : Int32) (a2 : Int32) (s0 : Int32) (s1 : Nat) (w : px_W) : Option (Int32 × px_W) :=
  (gO w s1 14).bind fun o46 =>
  (fX14_must X w s1 s0).bind fun q47 =>
  (pV q47 a0 14 14 (.int a2)).bind fun w48 =>
  fX14_segment_161 X  a0 a1 w48
def fX14_segment_141 (X : px_X)  (a0 : Nat) (a1 : Int32) (a2 : Int32) (s0 : Nat) (w : px_W) : Option (Int32 × px_W) :=
  fX14_segment_146 X  a0 a1 a2 1 s0 w
def fX14_segment_145 (X : px_X)  (a0 : Nat) (a1 : Int32) (a2 : Int32) (s0 : Nat) (w : px_W) : Option (Int32 × px_W) :=
  fX14_segment_146 X  a0 a1 a2 0 s0 w
def fX14_segment (X : px_X) (w : px_W) (a0 : Nat) (a1 : Int32) : Option (Int32 × px_W) :=
  (gO w a0 14).bind fun o49 =>
  (fX14_begun X w a0).bind fun q50 =>
  (gI q50 a0 14 4).bind fun v51 =>
  if v51 ≤ 0 then (
    if a1 = 219 then (
      (gO q50 a0 14).bind fun o77 =>
      (fX14_readQuantisers X q50 a0).bind fun q78 =>
      fX14_segment_161 X  a0 a1 q78
    ) else (
      if a1 = 196 then (
        (gO q50 a0 14).bind fun o75 =>
        (fX14_readWords X q50 a0).bind fun q76 =>
        fX14_segment_161 X  a0 a1 q76
      ) else (
        if a1 = 221 then (
          (gO q50 a0 14).bind fun o70 =>
          (fX14_two X q50 a0).bind fun q71 =>
          (gI q71.2 a0 14 4).bind fun v72 =>
          if v72 = 0 then (
            fX14_segment_69 X  a0 a1 q71.1 a0 q71.2
          ) else (
            (gI q71.2 a0 14 20).bind fun v74 =>
            fX14_segment_69 X  a0 a1 v74 a0 q71.2
          )
        ) else (
          if a1 = 192 then (
            fX14_segment_89 X  a0 a1 q50
          ) else (
            if a1 = 194 then (
              fX14_segment_89 X  a0 a1 q50
            ) else (
              if a1 = 218 then (
                (gO q50 a0 14).bind fun o68 =>
                (fX14_readScan X q50 a0).bind fun q69 =>
                fX14_segment_161 X  a0 a1 q69
              ) else (
                if a1 = 220 then (
                  (gO q50 a0 14).bind fun o62 =>
                  (fX14_two X q50 a0).bind fun q63 =>
                  (gI q63.2 a0 14 4).bind fun v64 =>
                  if 0 < v64 then (
                    fX14_segment_141 X  a0 a1 q63.1 a0 q63.2
                  ) else (
                    if q63.1 ≤ 0 then (
                      fX14_segment_145 X  a0 a1 q63.1 a0 q63.2
                    ) else (
                      if 64 < q63.1 then (
                        fX14_segment_145 X  a0 a1 q63.1 a0 q63.2
                      ) else (
                        fX14_segment_141 X  a0 a1 q63.1 a0 q63.2
                      )
                    )
                  )
                ) else (
                  (gO q50 a0 14).bind fun o60 =>
                  (fX14_any X q50 a0).bind fun q61 =>
                  fX14_segment_161 X  a0 a1 q61
                )
              )
            )
          )
        )
      )
    )
  ) else (
    some (0, q50)
  )
def fX14_readFile_280 (X : px_X) (k56 : Nat → Int32 → Int32 → px_W → Option (px_W)) (a0 : Nat) (a2 : Int32) (a3 : Int32) (w : px_W) : Option (px_W) :=
  k56 a0 a2 a3 w
def fX14_readFile_266 (X : px_X) (k56 : Nat → Int32 → Int32 → px_W → Option (px_W)) (a0 : Nat) (a2 : Int32) (a3 : Int32) (a4 : Int32) (w : px_W) : Option (px_W) :=
  (gI w a0 14 4).bind fun v29 =>
  if v29 = 0 then (
    (gO w a0 14).bind fun o31 =>
    (fX14_segment X w a0 a4).bind fun q32 =>
    fX14_readFile_280 X k56 a0 q32.1 a3 q32.2
  ) else (
    fX14_readFile_280 X k56 a0 a2 a3 w
  )
def fX14_readFile_238 (X : px_X) (k56 : Nat → Int32 → Int32 → px_W → Option (px_W)) (a0 : Nat) (a2 : Int32) (a3 : Int32) (a4 : Int32) (w : px_W) : Option (px_W) :=
  (gI w a0 14 4).bind fun v33 =>
  if v33 = 0 then (
    if a4 = 217 then (
      (gI w a0 14 6).bind fun v36 =>
      (pV w a0 14 9 (.int v36)).bind fun w37 =>
      fX14_readFile_280 X k56 a0 a2 0 w37
    ) else (
      fX14_readFile_266 X k56 a0 a2 a3 a4 w
    )
  ) else (
    fX14_readFile_266 X k56 a0 a2 a3 a4 w
  )
def fX14_readFile_229 (X : px_X) (k56 : Nat → Int32 → Int32 → px_W → Option (px_W)) (a0 : Nat) (a2 : Int32) (a3 : Int32) (a4 : Int32) (a5 : Int32) (w : px_W) : Option (px_W) :=
  (gO w a0 14).bind fun o38 =>
  (fX14_wrong X w a0 4 a5).bind fun q39 =>
  fX14_readFile_238 X k56 a0 a2 a3 a4 q39.2
def fX14_readFile_199 (X : px_X) (k56 : Nat → Int32 → Int32 → px_W → Option (px_W)) (a0 : Nat) (a2 : Int32) (a3 : Int32) (a4 : Int32) (a5 : Int32) (a6 : Int32) (s0 : Int32) (w : px_W) : Option (px_W) :=
  (gI w a0 14 4).bind fun v40 =>
  if v40 = 0 then (
    if a6 = 0 then (
      if s0 = 0 then (
        fX14_readFile_229 X k56 a0 a2 a3 a4 a5 w
      ) else (
        fX14_readFile_238 X k56 a0 a2 a3 a4 w
      )
    ) else (
      if a4 = 220 then (
        fX14_readFile_238 X k56 a0 a2 a3 a4 w
      ) else (
        fX14_readFile_229 X k56 a0 a2 a3 a4 a5 w
      )
    )
  ) else (
    fX14_readFile_238 X k56 a0 a2 a3 a4 w
  )
def fX14_readFile_194 (X : px_X) (k56 : Nat → Int32 → Int32 → px_W → Option (px_W)) (a0 : Nat) (a2 : Int32) (a3 : Int32) (a4 : Int32) (a5 : Int32) (a6 : Int32) (w : px_W) : Option (px_W) :=
  fX14_readFile_199 X k56 a0 a2 a3 a4 a5 a6 1 w
def fX14_readFile_198 (X : px_X) (k56 : Nat → Int32 → Int32 → px_W → Option (px_W)) (a0 : Nat) (a2 : Int32) (a3 : Int32) (a4 : Int32) (a5 : Int32) (a6 : Int32) (w : px_W) : Option (px_W) :=
  fX14_readFile_199 X k56 a0 a2 a3 a4 a5 a6 0 w
def fX14_readFile_179 (X : px_X) (k56 : Nat → Int32 → Int32 → px_W → Option (px_W)) (a0 : Nat) (a2 : Int32) (a3 : Int32) (a4 : Int32) (a5 : Int32) (a6 : Int32) (w : px_W) : Option (px_W) :=
  if a4 = 218 then (
    (gI w a0 14 12).bind fun v46 =>
    if v46 ≤ 0 then (
      fX14_readFile_198 X k56 a0 a2 a3 a4 a5 a6 w
    ) else (
      fX14_readFile_194 X k56 a0 a2 a3 a4 a5 a6 w
    )
  ) else (
    fX14_readFile_198 X k56 a0 a2 a3 a4 a5 a6 w
  )
def fX14_readFile_172 (X : px_X) (k56 : Nat → Int32 → Int32 → px_W → Option (px_W)) (a0 : Nat) (a2 : Int32) (a3 : Int32) (a4 : Int32) (a5 : Int32) (a6 : Int32) (w : px_W) : Option (px_W) :=
  (gI w a0 14 12).bind fun v48 =>
  if v48 = 0 then (
    fX14_readFile_194 X k56 a0 a2 a3 a4 a5 a6 w
  ) else (
    fX14_readFile_179 X k56 a0 a2 a3 a4 a5 a6 w
  )
def fX14_readFile_124 (X : px_X) (k56 : Nat → Int32 → Int32 → px_W → Option (px_W)) (a0 : Nat) (a2 : Int32) (a3 : Int32) (a4 : Int32) (a5 : Int32) (a6 : Int32) (w : px_W) : Option (px_W) :=
  if a4 = 254 then (
    fX14_readFile_194 X k56 a0 a2 a3 a4 a5 a6 w
  ) else (
    if a4 = 219 then (
      fX14_readFile_194 X k56 a0 a2 a3 a4 a5 a6 w
    ) else (
      if a4 = 196 then (
        fX14_readFile_194 X k56 a0 a2 a3 a4 a5 a6 w
      ) else (
        if a4 = 221 then (
          fX14_readFile_194 X k56 a0 a2 a3 a4 a5 a6 w
        ) else (
          if a4 = 192 then (
            fX14_readFile_172 X k56 a0 a2 a3 a4 a5 a6 w
          ) else (
            if a4 = 194 then (
              fX14_readFile_172 X k56 a0 a2 a3 a4 a5 a6 w
            ) else (
              fX14_readFile_179 X k56 a0 a2 a3 a4 a5 a6 w
            )
          )
        )
      )
    )
  )
def fX14_readFile_108 (X : px_X) (k56 : Nat → Int32 → Int32 → px_W → Option (px_W)) (a0 : Nat) (a2 : Int32) (a3 : Int32) (a4 : Int32) (a5 : Int32) (a6 : Int32) (w : px_W) : Option (px_W) :=
  if a4 < 224 then (
    fX14_readFile_124 X k56 a0 a2 a3 a4 a5 a6 w
  ) else (
    if a4 ≤ 239 then (
      fX14_readFile_194 X k56 a0 a2 a3 a4 a5 a6 w
    ) else (
      fX14_readFile_124 X k56 a0 a2 a3 a4 a5 a6 w
    )
  )
def fX14_readFile_56 (X : px_X)  : Nat → Nat → Int32 → Int32 → px_W → Option (px_W)
  | 0, _, _, _, _ => none
  | m + 1, a0, a2, a3, w =>
    if a3 = 0 then (
      some w
    ) else (
      (gI w a0 14 4).bind fun v59 =>
      if v59 = 0 then (
        (gI w a0 14 3).bind fun v61 =>
        if v61 = 0 then (
          (gO w a0 14).bind fun o63 =>
          (fX14_marker X w a0).bind fun q64 =>
          (gI q64.2 a0 14 6).bind fun v65 =>
          if q64.1 = 217 then (
            (gO q64.2 a0 14).bind fun o67 =>
            (fX14_isSent X q64.2 a0).bind fun q68 =>
            if q68.1 = 0 then (
              fX14_readFile_108 X (fX14_readFile_56 X  m) a0 0 a3 q64.1 (v65 - 1) a2 q68.2
            ) else (
              fX14_readFile_194 X (fX14_readFile_56 X  m) a0 0 a3 q64.1 (v65 - 1) a2 q68.2
            )
          ) else (
            fX14_readFile_108 X (fX14_readFile_56 X  m) a0 0 a3 q64.1 (v65 - 1) a2 q64.2
          )
        ) else (
          some w
        )
      ) else (
        some w
      )
    )
def fX14_readFile_52 (X : px_X)  (a0 : Nat) (w : px_W) : Option (px_W) :=
  fX14_readFile_56 X  FU a0 0 1 w
def fX14_readFile_26 (X : px_X)  (a0 : Nat) (w : px_W) : Option (px_W) :=
  (gO w a0 14).bind fun o70 =>
  (fX14_next X w a0).bind fun q71 =>
  (gI q71.2 a0 14 4).bind fun v72 =>
  if v72 = 0 then (
    if q71.1 = 216 then (
      fX14_readFile_52 X  a0 q71.2
    ) else (
      (gO q71.2 a0 14).bind fun o75 =>
      (fX14_wrong X q71.2 a0 2 0).bind fun q76 =>
      fX14_readFile_52 X  a0 q76.2
    )
  ) else (
    fX14_readFile_52 X  a0 q71.2
  )
def fX14_readFile (X : px_X) (w : px_W) (a0 : Nat) : Option (px_W) :=
  (gO w a0 14).bind fun o77 =>
  (fX14_next X w a0).bind fun q78 =>
  (gI q78.2 a0 14 4).bind fun v79 =>
  if v79 = 0 then (
    if q78.1 = 255 then (
      fX14_readFile_26 X  a0 q78.2
    ) else (
      (gO q78.2 a0 14).bind fun o82 =>
      (fX14_wrong X q78.2 a0 2 0).bind fun q83 =>
      fX14_readFile_26 X  a0 q83.2
    )
  ) else (
    fX14_readFile_26 X  a0 q78.2
  )
def fX14_readAll_39 (X : px_X)  (a0 : Nat) (w : px_W) : Option (Int32 × px_W) :=
  (gI w a0 14 4).bind fun v13 =>
  some (v13, w)
def fX14_readAll (X : px_X) (w : px_W) (a0 : Nat) : Option (Int32 × px_W) :=
  (pV w a0 14 4 (.int 0)).bind fun w14 =>
  (pV w14 a0 14 5 (.int ((-1)))).bind fun w15 =>
  (gO w15 a0 14).bind fun o16 =>
  (fX14_forget X w15 a0).bind fun q17 =>
  (pV q17 a0 14 6 (.int 0)).bind fun w18 =>
  (pV w18 a0 14 7 (.int ((-1)))).bind fun w19 =>
  (gO w19 a0 14).bind fun o20 =>
  (fX14_readFile X w19 a0).bind fun q21 =>
  (gI q21 a0 14 4).bind fun v22 =>
  if v22 ≤ 0 then (
    fX14_readAll_39 X  a0 q21
  ) else (
    (gO q21 a0 14).bind fun o24 =>
    (fX14_forget X q21 a0).bind fun q25 =>
    fX14_readAll_39 X  a0 q25
  )
def fX15_init_343 (X : px_X)  : Nat → Nat → Int32 → px_W → Option (px_W)
  | 0, _, _, _ => none
  | m + 1, a0, a2, w =>
    if 4 ≤ a2 then (
      some w
    ) else (
      (gR w a0 15 40).bind fun v73 =>
      (sN id w 0 v73 a2 1).bind fun w74 =>
      (gR w74 a0 15 41).bind fun v75 =>
      (sN id w74 0 v75 a2 1).bind fun w76 =>
      fX15_init_343 X  m a0 (a2 + 1) w76
    )
def fX15_init_341 (X : px_X)  (a0 : Nat) (w : px_W) : Option (px_W) :=
  fX15_init_343 X  FU a0 0 w
def fX15_init_329 (X : px_X) (k247 : Nat → Int32 → Int32 → px_W → Option (px_W)) (k255 : Nat → Int32 → Int32 → Int32 → px_W → Option (px_W)) (a0 : Nat) (a1 : Int32) (a2 : Int32) (a3 : Int32) (w : px_W) : Option (px_W) :=
  k255 a0 a1 a2 (a3 + 1) w
def fX15_init_274 (X : px_X) (k247 : Nat → Int32 → Int32 → px_W → Option (px_W)) (k255 : Nat → Int32 → Int32 → Int32 → px_W → Option (px_W)) (a0 : Nat) (a1 : Int32) (a2 : Int32) (a3 : Int32) (s0 : Int32) (w : px_W) : Option (px_W) :=
  if 8 ≤ s0 then (
    fX15_init_329 X k247 k255 a0 a1 a2 a3 w
  ) else (
    if 8 ≤ (a2 - s0) then (
      fX15_init_329 X k247 k255 a0 a1 a2 a3 w
    ) else (
      (gR w a0 15 36).bind fun v79 =>
      (sN id w 0 v79 a1 (a2 - s0)).bind fun w80 =>
      (gR w80 a0 15 37).bind fun v81 =>
      (sN id w80 0 v81 a1 s0).bind fun w82 =>
      (gR w82 a0 15 38).bind fun v83 =>
      (sN id w82 0 v83 ((8 * (a2 - s0)) + s0) a1).bind fun w84 =>
      fX15_init_329 X k247 k255 a0 (a1 + 1) a2 a3 w84
    )
  )
def fX15_init_335 (X : px_X) (k247 : Nat → Int32 → Int32 → px_W → Option (px_W)) (a0 : Nat) (a1 : Int32) (a2 : Int32) (w : px_W) : Option (px_W) :=
  k247 a0 a1 (a2 + 1) w
def fX15_init_255 (X : px_X) (k247 : Nat → Int32 → Int32 → px_W → Option (px_W)) : Nat → Nat → Int32 → Int32 → Int32 → px_W → Option (px_W)
  | 0, _, _, _, _, _ => none
  | m + 1, a0, a1, a2, a3, w =>
    if a2 < a3 then (
      fX15_init_335 X k247 a0 a1 a2 w
    ) else (
      (rI a2 2).bind fun v86 =>
      if v86 = 1 then (
        fX15_init_274 X k247 (fX15_init_255 X k247 m) a0 a1 a2 a3 (a2 - a3) w
      ) else (
        fX15_init_274 X k247 (fX15_init_255 X k247 m) a0 a1 a2 a3 a3 w
      )
    )
def fX15_init_247 (X : px_X)  : Nat → Nat → Int32 → Int32 → px_W → Option (px_W)
  | 0, _, _, _, _ => none
  | m + 1, a0, a1, a2, w =>
    if 15 ≤ a2 then (
      fX15_init_341 X  a0 w
    ) else (
      fX15_init_255 X (fX15_init_247 X  m) FU a0 a1 a2 0 w
    )
def fX15_init (X : px_X) (w : px_W) (a0 : Nat) : Option (px_W) :=
  (nA w 1 16384 (.inl (fun _ => 0))).bind fun q89 =>
  (pV q89.2 a0 15 0 (.ref q89.1)).bind fun w90 =>
  (nA w90 1 16384 (.inl (fun _ => 0))).bind fun q91 =>
  (pV q91.2 a0 15 2 (.ref q91.1)).bind fun w92 =>
  (nA w92 1 16384 (.inl (fun _ => 0))).bind fun q93 =>
  (pV q93.2 a0 15 4 (.ref q93.1)).bind fun w94 =>
  (pV w94 a0 15 8 (.int ((-1)))).bind fun w95 =>
  (nO w95 14 41 [.null, .int 0, .null, .int 0, .int 0, .int 0, .int 0, .int 0, .int 0, .int 0, .int 0, .null, .int 0, .int 0, .int 0, .int 0, .null, .null, .null, .null, .int 0, .null, .null, .null, .null, .null, .null, .int 0, .null, .null, .int 0, .null, .null, .null, .null, .null, .int 0, .int 0, .int 0, .int 0, .int 0]).bind fun q96 =>
  (fX14_init X q96.2 q96.1).bind fun q97 =>
  (pV q97 a0 15 12 (.ref q96.1)).bind fun w98 =>
  (nO w98 13 48 [.int 0, .int 0, .int 0, .null, .null, .null, .null, .null, .null, .null, .int 0, .int 0, .null, .null, .null, .null, .int 0, .null, .null, .null, .null, .null, .int 0, .int 0, .int 0, .int 0, .int 0, .int 0, .null, .int 0, .null, .int 0, .int 0, .int 0, .int 0, .int 0, .null, .null, .int 0, .null, .int 0, .null, .int 0, .int 0, .int 0, .int 0, .int 0, .null]).bind fun q99 =>
  (fX13_init X q99.2 q99.1).bind fun q100 =>
  (pV q100 a0 15 13 (.ref q99.1)).bind fun w101 =>
  (nO w101 12 9 [.null, .null, .int 0, .null, .int 0, .null, .null, .null, .null]).bind fun q102 =>
  (fX12_init X q102.2 q102.1).bind fun q103 =>
  (pV q103 a0 15 14 (.ref q102.1)).bind fun w104 =>
  (nA w104 0 256 (.inl (fun _ => 0))).bind fun q105 =>
  (pV q105.2 a0 15 15 (.ref q105.1)).bind fun w106 =>
  (nA w106 4 4 (.inl (fun _ => 0))).bind fun q107 =>
  (pV q107.2 a0 15 16 (.ref q107.1)).bind fun w108 =>
  (nA w108 0 4 (.inl (fun _ => 0))).bind fun q109 =>
  (pV q109.2 a0 15 21 (.ref q109.1)).bind fun w110 =>
  (nA w110 0 4 (.inl (fun _ => 0))).bind fun q111 =>
  (pV q111.2 a0 15 22 (.ref q111.1)).bind fun w112 =>
  (nA w112 0 4 (.inl (fun _ => 0))).bind fun q113 =>
  (pV q113.2 a0 15 23 (.ref q113.1)).bind fun w114 =>
  (nA w114 0 4 (.inl (fun _ => 0))).bind fun q115 =>
  (pV q115.2 a0 15 24 (.ref q115.1)).bind fun w116 =>
  (nA w116 0 4 (.inl (fun _ => 0))).bind fun q117 =>
  (pV q117.2 a0 15 25 (.ref q117.1)).bind fun w118 =>
  (nA w118 0 256 (.inl (fun _ => 0))).bind fun q119 =>
  (pV q119.2 a0 15 30 (.ref q119.1)).bind fun w120 =>
  (nA w120 2 12288 (.inl (fun _ => 0))).bind fun q121 =>
  (pV q121.2 a0 15 31 (.ref q121.1)).bind fun w122 =>
  (nA w122 2 12288 (.inl (fun _ => 0))).bind fun q123 =>
  (pV q123.2 a0 15 32 (.ref q123.1)).bind fun w124 =>
  (nA w124 0 4 (.inl (fun _ => 0))).bind fun q125 =>
  (pV q125.2 a0 15 33 (.ref q125.1)).bind fun w126 =>
  (nA w126 0 4 (.inl (fun _ => 0))).bind fun q127 =>
  (pV q127.2 a0 15 34 (.ref q127.1)).bind fun w128 =>
  (nA w128 0 256 (.inl (fun _ => 0))).bind fun q129 =>
  (pV q129.2 a0 15 35 (.ref q129.1)).bind fun w130 =>
  (nA w130 0 64 (.inl (fun _ => 0))).bind fun q131 =>
  (pV q131.2 a0 15 36 (.ref q131.1)).bind fun w132 =>
  (nA w132 0 64 (.inl (fun _ => 0))).bind fun q133 =>
  (pV q133.2 a0 15 37 (.ref q133.1)).bind fun w134 =>
  (nA w134 0 64 (.inl (fun _ => 0))).bind fun q135 =>
  (pV q135.2 a0 15 38 (.ref q135.1)).bind fun w136 =>
  (nA w136 0 4096 (.inl (fun _ => 0))).bind fun q137 =>
  (pV q137.2 a0 15 39 (.ref q137.1)).bind fun w138 =>
  (nA w138 0 4 (.inl (fun _ => 0))).bind fun q139 =>
  (pV q139.2 a0 15 40 (.ref q139.1)).bind fun w140 =>
  (nA w140 0 4 (.inl (fun _ => 0))).bind fun q141 =>
  (pV q141.2 a0 15 41 (.ref q141.1)).bind fun w142 =>
  (nA w142 0 4356 (.inl (fun _ => 0))).bind fun q143 =>
  (pV q143.2 a0 15 42 (.ref q143.1)).bind fun w144 =>
  (nA w144 0 4356 (.inl (fun _ => 0))).bind fun q145 =>
  (pV q145.2 a0 15 43 (.ref q145.1)).bind fun w146 =>
  (nA w146 3 64 (.inr (.inl (fun _ => 0)))).bind fun q147 =>
  (pV q147.2 a0 15 46 (.ref q147.1)).bind fun w148 =>
  fX15_init_247 X  FU a0 0 0 w148
def fX15_up (X : px_X) (w : px_W) (a0 : Int32) (a1 : Int32) : Option (Int32 × px_W) :=
  (dI ((a0 + a1) - 1) a1).bind fun v2 =>
  some (v2, w)
def fX15_canBe_14 (X : px_X)  (a1 : Int32) (s0 : Int32) (s1 : Int32) (w : px_W) : Option (Int32 × px_W) :=
  if s1 < s0 then (
    some (0, w)
  ) else (
    if 1023 < a1 then (
      some (0, w)
    ) else (
      some (1, w)
    )
  )
def fX15_canBe (X : px_X) (w : px_W) (a0 : Int32) (a1 : Int32) : Option (Int32 × px_W) :=
  if a0 = 0 then (
    fX15_canBe_14 X  a1 ((-1024)) a1 w
  ) else (
    fX15_canBe_14 X  a1 ((-1023)) a1 w
  )
def fX15_giveInput_30 (X : px_X)  : Nat → Nat → Int64 → Int32 → px_W → Option (Int32 × px_W)
  | 0, _, _, _, _ => none
  | m + 1, a0, a1, a4, w =>
    if a4 < 0 then (
      some (1, w)
    ) else (
      (gR w a0 15 0).bind fun v8 =>
      (gI w a0 15 1).bind fun v9 =>
      (sN (vp_nar .byte) w 1 v8 v9 (((a1 >>> ((8 * a4).toInt64 &&& 63)).toInt32).toInt8.toInt32)).bind fun w10 =>
      (gI w10 a0 15 1).bind fun v11 =>
      (pV w10 a0 15 1 (.int (v11 + 1))).bind fun w12 =>
      fX15_giveInput_30 X  m a0 a1 (a4 + (-1)) w12
    )
def fX15_giveInput (X : px_X) (w : px_W) (a0 : Nat) (a1 : Int64) (a3 : Int32) : Option (Int32 × px_W) :=
  if a3 < 1 then (
    some (0, w)
  ) else (
    if 8 < a3 then (
      some (0, w)
    ) else (
      (gI w a0 15 1).bind fun v15 =>
      if (v15 + a3) ≤ 16384 then (
        fX15_giveInput_30 X  FU a0 a1 (a3 - 1) w
      ) else (
        some (0, w)
      )
    )
  )
def fX15_wipeInput (X : px_X) (w : px_W) (a0 : Nat) : Option (px_W) :=
  (pV w a0 15 1 (.int 0)).bind fun w2 =>
  some w2
def fX15_takeOutput_10 (X : px_X)  : Nat → Nat → Int32 → px_W → Option (px_W)
  | 0, _, _, _ => none
  | m + 1, a0, a1, w =>
    (gI w a0 15 3).bind fun v8 =>
    if v8 ≤ a1 then (
      some w
    ) else (
      (gR w a0 15 0).bind fun v10 =>
      (gR w a0 15 2).bind fun v11 =>
      (aN w 1 v11 a1).bind fun v12 =>
      (sN (vp_nar .byte) w 1 v10 a1 v12).bind fun w13 =>
      fX15_takeOutput_10 X  m a0 (a1 + 1) w13
    )
def fX15_takeOutput (X : px_X) (w : px_W) (a0 : Nat) : Option (px_W) :=
  (gI w a0 15 3).bind fun v14 =>
  (pV w a0 15 1 (.int v14)).bind fun w15 =>
  fX15_takeOutput_10 X  FU a0 0 w15
def fX15_layOut_126 (X : px_X)  : Nat → Nat → Int32 → Int32 → px_W → Option (px_W)
  | 0, _, _, _, _ => none
  | m + 1, a0, a1, a2, w =>
    (gI w a0 15 20).bind fun v43 =>
    if v43 ≤ a2 then (
      some w
    ) else (
      (gR w a0 15 23).bind fun v45 =>
      (gI w a0 15 28).bind fun v46 =>
      (gR w a0 15 21).bind fun v47 =>
      (aN w 0 v47 a2).bind fun v48 =>
      (sN id w 0 v45 a2 (v46 * v48)).bind fun w49 =>
      (gR w49 a0 15 24).bind fun v50 =>
      (gI w49 a0 15 29).bind fun v51 =>
      (gR w49 a0 15 22).bind fun v52 =>
      (aN w49 0 v52 a2).bind fun v53 =>
      (sN id w49 0 v50 a2 (v51 * v53)).bind fun w54 =>
      (gR w54 a0 15 25).bind fun v55 =>
      (sN id w54 0 v55 a2 a1).bind fun w56 =>
      (gR w56 a0 15 23).bind fun v57 =>
      (aN w56 0 v57 a2).bind fun v58 =>
      (gR w56 a0 15 24).bind fun v59 =>
      (aN w56 0 v59 a2).bind fun v60 =>
      fX15_layOut_126 X  m a0 (a1 + (v58 * v60)) (a2 + 1) w56
    )
def fX15_layOut_86 (X : px_X)  (a0 : Nat) (w : px_W) : Option (px_W) :=
  (gI w a0 15 18).bind fun v61 =>
  (gI w a0 15 26).bind fun v62 =>
  (fX15_up X w v61 (8 * v62)).bind fun q63 =>
  (pV q63.2 a0 15 28 (.int q63.1)).bind fun w64 =>
  (gI w64 a0 15 19).bind fun v65 =>
  (gI w64 a0 15 27).bind fun v66 =>
  (fX15_up X w64 v65 (8 * v66)).bind fun q67 =>
  (pV q67.2 a0 15 29 (.int q67.1)).bind fun w68 =>
  fX15_layOut_126 X  FU a0 0 0 w68
def fX15_layOut_77 (X : px_X) (k12 : Nat → Int32 → px_W → Option (px_W)) (a0 : Nat) (a1 : Int32) (s0 : Int32) (s1 : Nat) (w : px_W) : Option (px_W) :=
  (pV w s1 15 27 (.int s0)).bind fun w69 =>
  k12 a0 (a1 + 1) w69
def fX15_layOut_47 (X : px_X) (k12 : Nat → Int32 → px_W → Option (px_W)) (a0 : Nat) (a1 : Int32) (s0 : Int32) (s1 : Nat) (w : px_W) : Option (px_W) :=
  (pV w s1 15 26 (.int s0)).bind fun w70 =>
  (gR w70 a0 15 22).bind fun v71 =>
  (aN w70 0 v71 a1).bind fun v72 =>
  (gI w70 a0 15 27).bind fun v73 =>
  if v72 ≤ v73 then (
    (gI w70 a0 15 27).bind fun v75 =>
    fX15_layOut_77 X k12 a0 a1 v75 a0 w70
  ) else (
    (gR w70 a0 15 22).bind fun v76 =>
    (aN w70 0 v76 a1).bind fun v77 =>
    fX15_layOut_77 X k12 a0 a1 v77 a0 w70
  )
def fX15_layOut_12 (X : px_X)  : Nat → Nat → Int32 → px_W → Option (px_W)
  | 0, _, _, _ => none
  | m + 1, a0, a1, w =>
    (gI w a0 15 20).bind fun v78 =>
    if v78 ≤ a1 then (
      fX15_layOut_86 X  a0 w
    ) else (
      (gR w a0 15 21).bind fun v80 =>
      (aN w 0 v80 a1).bind fun v81 =>
      (gI w a0 15 26).bind fun v82 =>
      if v81 ≤ v82 then (
        (gI w a0 15 26).bind fun v84 =>
        fX15_layOut_47 X (fX15_layOut_12 X  m) a0 a1 v84 a0 w
      ) else (
        (gR w a0 15 21).bind fun v85 =>
        (aN w 0 v85 a1).bind fun v86 =>
        fX15_layOut_47 X (fX15_layOut_12 X  m) a0 a1 v86 a0 w
      )
    )
def fX15_layOut (X : px_X) (w : px_W) (a0 : Nat) : Option (px_W) :=
  (pV w a0 15 26 (.int 1)).bind fun w87 =>
  (pV w87 a0 15 27 (.int 1)).bind fun w88 =>
  fX15_layOut_12 X  FU a0 0 w88
def fX15_blocks_4 (X : px_X)  : Nat → Nat → Int32 → Int32 → px_W → Option (Int32 × px_W)
  | 0, _, _, _, _ => none
  | m + 1, a0, a1, a2, w =>
    (gI w a0 15 20).bind fun v6 =>
    if v6 ≤ a2 then (
      some (a1, w)
    ) else (
      (gR w a0 15 23).bind fun v8 =>
      (aN w 0 v8 a2).bind fun v9 =>
      (gR w a0 15 24).bind fun v10 =>
      (aN w 0 v10 a2).bind fun v11 =>
      fX15_blocks_4 X  m a0 (a1 + (v9 * v11)) (a2 + 1) w
    )
def fX15_blocks (X : px_X) (w : px_W) (a0 : Nat) : Option (Int32 × px_W) :=
  fX15_blocks_4 X  FU a0 0 0 w
def fX15_shape_4 (X : px_X)  : Nat → Nat → Int32 → Int32 → px_W → Option (Int32 × px_W)
  | 0, _, _, _, _ => none
  | m + 1, a0, a1, a2, w =>
    (gI w a0 15 20).bind fun v6 =>
    if v6 ≤ a2 then (
      some (a1, w)
    ) else (
      (gR w a0 15 21).bind fun v8 =>
      (aN w 0 v8 a2).bind fun v9 =>
      (gR w a0 15 22).bind fun v10 =>
      (aN w 0 v10 a2).bind fun v11 =>
      fX15_shape_4 X  m a0 (a1 ||| (((v9 - 1) <<< ((2 * a2) &&& 31)) ||| ((v11 - 1) <<< (((2 * a2) + 1) &&& 31)))) (a2 + 1) w
    )
def fX15_shape (X : px_X) (w : px_W) (a0 : Nat) : Option (Int32 × px_W) :=
  fX15_shape_4 X  FU a0 0 0 w
def fX15_openInput_411 (X : px_X)  (a0 : Nat) (a4 : Int32) (a5 : Int32) (w : px_W) : Option (Int32 × px_W) :=
  (pV w a0 15 9 (.int a4)).bind fun w88 =>
  (pV w88 a0 15 10 (.int a5)).bind fun w89 =>
  (gI w89 a0 15 11).bind fun v90 =>
  (pV w89 a0 15 11 (.int (v90 + 1))).bind fun w91 =>
  some (0, w91)
def fX15_openInput_383 (X : px_X)  : Nat → Nat → Int32 → Int32 → Int32 → px_W → Option (Int32 × px_W)
  | 0, _, _, _, _, _ => none
  | m + 1, a0, a4, a5, a7, w =>
    if 256 ≤ a7 then (
      fX15_openInput_411 X  a0 a4 a5 w
    ) else (
      (gR w a0 15 30).bind fun v93 =>
      (gR w a0 15 15).bind fun v94 =>
      (aN w 0 v94 a7).bind fun v95 =>
      (sN id w 0 v93 a7 v95).bind fun w96 =>
      fX15_openInput_383 X  m a0 a4 a5 (a7 + 1) w96
    )
def fX15_openInput_380 (X : px_X)  (a0 : Nat) (a4 : Int32) (a5 : Int32) (w : px_W) : Option (Int32 × px_W) :=
  fX15_openInput_383 X  FU a0 a4 a5 0 w
def fX15_openInput_349 (X : px_X)  : Nat → Nat → Int32 → Int32 → Int32 → px_W → Option (Int32 × px_W)
  | 0, _, _, _, _, _ => none
  | m + 1, a0, a4, a5, a7, w =>
    if 12288 ≤ a7 then (
      fX15_openInput_380 X  a0 a4 a5 w
    ) else (
      (gR w a0 15 31).bind fun v98 =>
      (gR w a0 15 13).bind fun v99 =>
      (gR w v99 13 12).bind fun v100 =>
      (aN w 2 v100 a7).bind fun v101 =>
      (sN (vp_nar .short) w 2 v98 a7 v101).bind fun w102 =>
      fX15_openInput_349 X  m a0 a4 a5 (a7 + 1) w102
    )
def fX15_openInput_342 (X : px_X)  (a0 : Nat) (a4 : Int32) (a5 : Int32) (w : px_W) : Option (Int32 × px_W) :=
  (gO w a0 15).bind fun o103 =>
  (fX15_layOut X w a0).bind fun q104 =>
  fX15_openInput_349 X  FU a0 a4 a5 0 q104
def fX15_openInput_296 (X : px_X)  : Nat → Nat → Int32 → Int32 → Int32 → Int32 → px_W → Option (Int32 × px_W)
  | 0, _, _, _, _, _, _ => none
  | m + 1, a0, a1, a4, a5, a7, w =>
    if a1 ≤ a7 then (
      fX15_openInput_342 X  a0 a4 a5 w
    ) else (
      (gR w a0 15 21).bind fun v106 =>
      (gR w a0 15 12).bind fun v107 =>
      (gR w v107 14 17).bind fun v108 =>
      (aN w 0 v108 a7).bind fun v109 =>
      (sN id w 0 v106 a7 v109).bind fun w110 =>
      (gR w110 a0 15 22).bind fun v111 =>
      (gR w110 a0 15 12).bind fun v112 =>
      (gR w110 v112 14 18).bind fun v113 =>
      (aN w110 0 v113 a7).bind fun v114 =>
      (sN id w110 0 v111 a7 v114).bind fun w115 =>
      fX15_openInput_296 X  m a0 a1 a4 a5 (a7 + 1) w115
    )
def fX15_openInput_173 (X : px_X)  (a0 : Nat) (a1 : Int32) (a2 : Int32) (a3 : Int32) (w : px_W) : Option (Int32 × px_W) :=
  (gR w a0 15 13).bind fun v116 =>
  (gR w a0 15 12).bind fun v117 =>
  (gI w v117 14 13).bind fun v118 =>
  (gO w v116 13).bind fun o119 =>
  (fX13_frame X w v116 v118 a2 a1 a3).bind fun q120 =>
  if q120.1 = 0 then (
    (pV q120.2 a0 15 7 (.int 9)).bind fun w144 =>
    (gI w144 a0 15 7).bind fun v145 =>
    some (v145, w144)
  ) else (
    (gR q120.2 a0 15 12).bind fun v122 =>
    (gI q120.2 v122 14 27).bind fun v123 =>
    (gR q120.2 a0 15 12).bind fun v124 =>
    (gI q120.2 v124 14 10).bind fun v125 =>
    (gR q120.2 a0 15 12).bind fun v126 =>
    (pV q120.2 v126 14 2 (.ref a0)).bind fun w127 =>
    (gR w127 a0 15 12).bind fun v128 =>
    (gO w127 v128 14).bind fun o129 =>
    (fX14_readAll X w127 v128).bind fun q130 =>
    (gR q130.2 a0 15 12).bind fun v131 =>
    (gI q130.2 v131 14 3).bind fun v132 =>
    (pV q130.2 a0 15 7 (.int v132)).bind fun w133 =>
    (gI w133 a0 15 7).bind fun v134 =>
    if v134 ≤ 0 then (
      (pV w133 a0 15 8 (.int ((-1)))).bind fun w136 =>
      (pZ w136 a0 15 17 1).bind fun w137 =>
      (gR w137 a0 15 12).bind fun v138 =>
      (gI w137 v138 14 13).bind fun v139 =>
      (pV w137 a0 15 18 (.int v139)).bind fun w140 =>
      (pV w140 a0 15 19 (.int a2)).bind fun w141 =>
      (pV w141 a0 15 20 (.int a1)).bind fun w142 =>
      fX15_openInput_296 X  FU a0 a1 v123 v125 0 w142
    ) else (
      (gI w133 a0 15 7).bind fun v143 =>
      some (v143, w133)
    )
  )
def fX15_openInput_113 (X : px_X)  : Nat → Nat → Int32 → Int32 → Int32 → Int32 → px_W → Option (Int32 × px_W)
  | 0, _, _, _, _, _, _ => none
  | m + 1, a0, a1, a2, a3, a4, w =>
    if a1 ≤ a4 then (
      fX15_openInput_173 X  a0 a1 a2 a3 w
    ) else (
      (gR w a0 15 12).bind fun v147 =>
      (gR w v147 14 17).bind fun v148 =>
      (aN w 0 v148 a4).bind fun v149 =>
      (gR w a0 15 12).bind fun v150 =>
      (gR w v150 14 18).bind fun v151 =>
      (aN w 0 v151 a4).bind fun v152 =>
      (gR w a0 15 16).bind fun v153 =>
      (sN (vp_nar .boolean) w 4 v153 a4 0).bind fun w154 =>
      fX15_openInput_113 X  m a0 a1 a2 (a3 ||| (((v149 - 1) <<< ((2 * a4) &&& 31)) ||| ((v152 - 1) <<< (((2 * a4) + 1) &&& 31)))) (a4 + 1) w154
    )
def fX15_openInput_42 (X : px_X)  (a0 : Nat) (w : px_W) : Option (Int32 × px_W) :=
  (gR w a0 15 12).bind fun v155 =>
  (pV w v155 14 2 (.null)).bind fun w156 =>
  (gR w156 a0 15 12).bind fun v157 =>
  (pV w156 v157 14 3 (.int 0)).bind fun w158 =>
  (gR w158 a0 15 12).bind fun v159 =>
  (gO w158 v159 14).bind fun o160 =>
  (fX14_readAll X w158 v159).bind fun q161 =>
  (pV q161.2 a0 15 7 (.int q161.1)).bind fun w162 =>
  (gR w162 a0 15 12).bind fun v163 =>
  (gI w162 v163 14 5).bind fun v164 =>
  (pV w162 a0 15 8 (.int v164)).bind fun w165 =>
  (gI w165 a0 15 7).bind fun v166 =>
  if v166 ≤ 0 then (
    (gR w165 a0 15 12).bind fun v168 =>
    (gI w165 v168 14 15).bind fun v169 =>
    (gR w165 a0 15 12).bind fun v170 =>
    (gI w165 v170 14 14).bind fun v171 =>
    fX15_openInput_113 X  FU a0 v169 v171 0 0 w165
  ) else (
    (gI w165 a0 15 7).bind fun v172 =>
    some (v172, w165)
  )
def fX15_openInput_13 (X : px_X)  : Nat → Nat → Int32 → px_W → Option (Int32 × px_W)
  | 0, _, _, _ => none
  | m + 1, a0, a1, w =>
    (gI w a0 15 1).bind fun v173 =>
    if v173 ≤ a1 then (
      fX15_openInput_42 X  a0 w
    ) else (
      (gR w a0 15 12).bind fun v175 =>
      (gR w v175 14 0).bind fun v176 =>
      (gR w a0 15 0).bind fun v177 =>
      (aN w 1 v177 a1).bind fun v178 =>
      (sN (vp_nar .byte) w 1 v176 a1 v178).bind fun w179 =>
      fX15_openInput_13 X  m a0 (a1 + 1) w179
    )
def fX15_openInput (X : px_X) (w : px_W) (a0 : Nat) : Option (Int32 × px_W) :=
  (gR w a0 15 12).bind fun v180 =>
  (gI w a0 15 1).bind fun v181 =>
  (pV w v180 14 1 (.int v181)).bind fun w182 =>
  fX15_openInput_13 X  FU a0 0 w182
def fX15_put (X : px_X) (w : px_W) (a0 : Nat) (a1 : Int32) : Option (px_W) :=
  (gI w a0 15 5).bind fun v8 =>
  if v8 = 16384 then (
    (pZ w a0 15 6 1).bind fun w15 =>
    some w15
  ) else (
    (gR w a0 15 4).bind fun v10 =>
    (gI w a0 15 5).bind fun v11 =>
    (sN (vp_nar .byte) w 1 v10 v11 a1.toInt8.toInt32).bind fun w12 =>
    (gI w12 a0 15 5).bind fun v13 =>
    (pV w12 a0 15 5 (.int (v13 + 1))).bind fun w14 =>
    some w14
  )
def fX15_two (X : px_X) (w : px_W) (a0 : Nat) (a1 : Int32) : Option (px_W) :=
  (gO w a0 15).bind fun o5 =>
  (fX15_put X w a0 (a1 >>> (8 &&& 31))).bind fun q6 =>
  (gO q6 a0 15).bind fun o7 =>
  (fX15_put X q6 a0 a1).bind fun q8 =>
  some q8
def fX15_begin (X : px_X) (w : px_W) (a0 : Nat) (a1 : Int32) (a2 : Int32) : Option (px_W) :=
  (gO w a0 15).bind fun o7 =>
  (fX15_put X w a0 255).bind fun q8 =>
  (gO q8 a0 15).bind fun o9 =>
  (fX15_put X q8 a0 a1).bind fun q10 =>
  (gO q10 a0 15).bind fun o11 =>
  (fX15_two X q10 a0 (a2 + 2)).bind fun q12 =>
  some q12
def fX15_make_158 (X : px_X)  (a0 : Nat) (a1 : Int32) (w : px_W) : Option (px_W) :=
  (gR w a0 15 13).bind fun v39 =>
  (gO w v39 13).bind fun o40 =>
  (fX13_make X w v39 a1).bind fun q41 =>
  some q41.2
def fX15_make_123 (X : px_X)  : Nat → Nat → Int32 → Int32 → px_W → Option (px_W)
  | 0, _, _, _, _ => none
  | m + 1, a0, a1, a2, w =>
    (gR w a0 15 14).bind fun v42 =>
    (gI w v42 12 2).bind fun v43 =>
    if v43 ≤ a2 then (
      fX15_make_158 X  a0 a1 w
    ) else (
      (gR w a0 15 13).bind fun v45 =>
      (gR w v45 13 15).bind fun v46 =>
      (gR w a0 15 14).bind fun v47 =>
      (gR w v47 12 1).bind fun v48 =>
      (aN w 0 v48 a2).bind fun v49 =>
      (sN id w 0 v46 a2 v49).bind fun w50 =>
      fX15_make_123 X  m a0 a1 (a2 + 1) w50
    )
def fX15_make_107 (X : px_X)  (a0 : Nat) (a1 : Int32) (w : px_W) : Option (px_W) :=
  (gR w a0 15 13).bind fun v51 =>
  (gR w a0 15 14).bind fun v52 =>
  (gI w v52 12 2).bind fun v53 =>
  (pV w v51 13 16 (.int v53)).bind fun w54 =>
  fX15_make_123 X  FU a0 a1 0 w54
def fX15_make_77 (X : px_X)  : Nat → Nat → Int32 → Int32 → px_W → Option (px_W)
  | 0, _, _, _, _ => none
  | m + 1, a0, a1, a2, w =>
    if 17 ≤ a2 then (
      fX15_make_107 X  a0 a1 w
    ) else (
      (gR w a0 15 13).bind fun v56 =>
      (gR w v56 13 14).bind fun v57 =>
      (gR w a0 15 14).bind fun v58 =>
      (gR w v58 12 0).bind fun v59 =>
      (aN w 0 v59 a2).bind fun v60 =>
      (sN id w 0 v57 a2 v60).bind fun w61 =>
      fX15_make_77 X  m a0 a1 (a2 + 1) w61
    )
def fX15_make_68 (X : px_X)  (a0 : Nat) (a1 : Int32) (w : px_W) : Option (px_W) :=
  (gR w a0 15 14).bind fun v62 =>
  (gO w v62 12).bind fun o63 =>
  (fX12_best X w v62).bind fun q64 =>
  fX15_make_77 X  FU a0 a1 1 q64
def fX15_make_10 (X : px_X)  : Nat → Nat → Int32 → Int32 → px_W → Option (px_W)
  | 0, _, _, _, _ => none
  | m + 1, a0, a1, a2, w =>
    if 256 ≤ a2 then (
      fX15_make_68 X  a0 a1 w
    ) else (
      (gR w a0 15 14).bind fun v66 =>
      (gR w v66 12 3).bind fun v67 =>
      (gR w a0 15 13).bind fun v68 =>
      (gR w v68 13 36).bind fun v69 =>
      (aN w 0 v69 ((256 * a1) + a2)).bind fun v70 =>
      (sN id w 0 v67 a2 v70).bind fun w71 =>
      (gR w71 a0 15 14).bind fun v72 =>
      (gI w71 v72 12 4).bind fun v73 =>
      (gR w71 a0 15 14).bind fun v74 =>
      (gR w71 v74 12 3).bind fun v75 =>
      (aN w71 0 v75 a2).bind fun v76 =>
      (pV w71 v72 12 4 (.int (v73 + v76))).bind fun w77 =>
      fX15_make_10 X  m a0 a1 (a2 + 1) w77
    )
def fX15_make (X : px_X) (w : px_W) (a0 : Nat) (a1 : Int32) : Option (px_W) :=
  (gR w a0 15 14).bind fun v78 =>
  (pV w v78 12 4 (.int 0)).bind fun w79 =>
  fX15_make_10 X  FU a0 a1 0 w79
def fX15_putTable_51 (X : px_X)  : Nat → Nat → Int32 → px_W → Option (px_W)
  | 0, _, _, _ => none
  | m + 1, a0, a2, w =>
    (gR w a0 15 14).bind fun v17 =>
    (gI w v17 12 2).bind fun v18 =>
    if v18 ≤ a2 then (
      some w
    ) else (
      (gR w a0 15 14).bind fun v20 =>
      (gR w v20 12 1).bind fun v21 =>
      (aN w 0 v21 a2).bind fun v22 =>
      (gO w a0 15).bind fun o23 =>
      (fX15_put X w a0 v22).bind fun q24 =>
      fX15_putTable_51 X  m a0 (a2 + 1) q24
    )
def fX15_putTable_49 (X : px_X)  (a0 : Nat) (w : px_W) : Option (px_W) :=
  fX15_putTable_51 X  FU a0 0 w
def fX15_putTable_24 (X : px_X)  : Nat → Nat → Int32 → px_W → Option (px_W)
  | 0, _, _, _ => none
  | m + 1, a0, a2, w =>
    if 17 ≤ a2 then (
      fX15_putTable_49 X  a0 w
    ) else (
      (gR w a0 15 14).bind fun v26 =>
      (gR w v26 12 0).bind fun v27 =>
      (aN w 0 v27 a2).bind fun v28 =>
      (gO w a0 15).bind fun o29 =>
      (fX15_put X w a0 v28).bind fun q30 =>
      fX15_putTable_24 X  m a0 (a2 + 1) q30
    )
def fX15_putTable_19 (X : px_X)  (a0 : Nat) (s0 : Int32) (s1 : Nat) (w : px_W) : Option (px_W) :=
  (gO w s1 15).bind fun o31 =>
  (fX15_put X w s1 s0).bind fun q32 =>
  fX15_putTable_24 X  FU a0 1 q32
def fX15_putTable (X : px_X) (w : px_W) (a0 : Nat) (a1 : Int32) : Option (px_W) :=
  (gO w a0 15).bind fun o33 =>
  (fX15_make X w a0 a1).bind fun q34 =>
  if 4 ≤ a1 then (
    fX15_putTable_19 X  a0 (12 + a1) a0 q34
  ) else (
    fX15_putTable_19 X  a0 a1 a0 q34
  )
def fX15_distinct_35 (X : px_X) (k4 : Nat → Int32 → Int32 → Int32 → px_W → Option (Int32 × px_W)) (a0 : Nat) (a1 : Int32) (a3 : Int32) (s0 : Int32) (s1 : Int32) (w : px_W) : Option (Int32 × px_W) :=
  k4 a0 a1 (s1 + s0) (a3 + 1) w
def fX15_distinct_4 (X : px_X)  : Nat → Nat → Int32 → Int32 → Int32 → px_W → Option (Int32 × px_W)
  | 0, _, _, _, _, _ => none
  | m + 1, a0, a1, a2, a3, w =>
    if 256 ≤ a3 then (
      some (a2, w)
    ) else (
      (gR w a0 15 13).bind fun v5 =>
      (gR w v5 13 36).bind fun v6 =>
      (aN w 0 v6 ((256 * a1) + a3)).bind fun v7 =>
      if v7 ≤ 0 then (
        fX15_distinct_35 X (fX15_distinct_4 X  m) a0 a1 a3 0 a2 w
      ) else (
        fX15_distinct_35 X (fX15_distinct_4 X  m) a0 a1 a3 1 a2 w
      )
    )
def fX15_distinct (X : px_X) (w : px_W) (a0 : Nat) (a1 : Int32) : Option (Int32 × px_W) :=
  fX15_distinct_4 X  FU a0 a1 0 0 w
def fX15_saveScan_214 (X : px_X) (k171 : Nat → Int32 → Int32 → Int32 → Int32 → Int32 → Int32 → Int32 → Int32 → px_W → Option (px_W)) (a0 : Nat) (a1 : Int32) (a2 : Int32) (a3 : Int32) (a4 : Int32) (a5 : Int32) (a8 : Int32) (a10 : Int32) (a11 : Int32) (w : px_W) : Option (px_W) :=
  k171 a0 a1 a2 a3 a4 a5 a8 a10 (a11 + 1) w
def fX15_saveScan_208 (X : px_X) (k171 : Nat → Int32 → Int32 → Int32 → Int32 → Int32 → Int32 → Int32 → Int32 → px_W → Option (px_W)) (a0 : Nat) (a1 : Int32) (a2 : Int32) (a3 : Int32) (a4 : Int32) (a5 : Int32) (a8 : Int32) (a10 : Int32) (a11 : Int32) (w : px_W) : Option (px_W) :=
  (gO w a0 15).bind fun o42 =>
  (fX15_putTable X w a0 a11).bind fun q43 =>
  fX15_saveScan_214 X k171 a0 a1 a2 a3 a4 a5 a8 a10 a11 q43
def fX15_saveScan_339 (X : px_X)  : Nat → Nat → Int32 → Int32 → px_W → Option (px_W)
  | 0, _, _, _, _ => none
  | m + 1, a0, a11, a12, w =>
    if a11 ≤ a12 then (
      some w
    ) else (
      (gR w a0 15 13).bind fun v45 =>
      (gR w v45 13 28).bind fun v46 =>
      (aN w 1 v46 a12).bind fun v47 =>
      (gO w a0 15).bind fun o48 =>
      (fX15_put X w a0 v47).bind fun q49 =>
      fX15_saveScan_339 X  m a0 a11 (a12 + 1) q49
    )
def fX15_saveScan_333 (X : px_X)  (a0 : Nat) (a11 : Int32) (s0 : Int32) (s1 : Nat) (w : px_W) : Option (px_W) :=
  (pZ w s1 15 6 s0).bind fun w50 =>
  fX15_saveScan_339 X  FU a0 a11 0 w50
def fX15_saveScan_328 (X : px_X)  (a0 : Nat) (a11 : Int32) (s0 : Nat) (w : px_W) : Option (px_W) :=
  fX15_saveScan_333 X  a0 a11 1 s0 w
def fX15_saveScan_284 (X : px_X)  (a0 : Nat) (a2 : Int32) (a3 : Int32) (a4 : Int32) (a5 : Int32) (w : px_W) : Option (px_W) :=
  (gO w a0 15).bind fun o51 =>
  (fX15_put X w a0 a2).bind fun q52 =>
  (gO q52 a0 15).bind fun o53 =>
  (fX15_put X q52 a0 a3).bind fun q54 =>
  (gO q54 a0 15).bind fun o55 =>
  (fX15_put X q54 a0 ((16 * a4) + a5)).bind fun q56 =>
  (gR q56 a0 15 13).bind fun v57 =>
  (gO q56 v57 13).bind fun o58 =>
  (fX13_write X q56 v57).bind fun q59 =>
  (gI q59.2 a0 15 6).bind fun v60 =>
  if v60 = 0 then (
    if 0 ≤ q59.1 then (
      fX15_saveScan_333 X  a0 q59.1 0 a0 q59.2
    ) else (
      fX15_saveScan_328 X  a0 q59.1 a0 q59.2
    )
  ) else (
    fX15_saveScan_328 X  a0 q59.1 a0 q59.2
  )
def fX15_saveScan_278 (X : px_X) (k242 : Nat → Int32 → Int32 → Int32 → Int32 → Int32 → Int32 → px_W → Option (px_W)) (a0 : Nat) (a1 : Int32) (a2 : Int32) (a3 : Int32) (a4 : Int32) (a5 : Int32) (a11 : Int32) (w : px_W) : Option (px_W) :=
  k242 a0 a1 a2 a3 a4 a5 (a11 + 1) w
def fX15_saveScan_242 (X : px_X)  : Nat → Nat → Int32 → Int32 → Int32 → Int32 → Int32 → Int32 → px_W → Option (px_W)
  | 0, _, _, _, _, _, _, _, _ => none
  | m + 1, a0, a1, a2, a3, a4, a5, a11, w =>
    (gI w a0 15 20).bind fun v63 =>
    if v63 ≤ a11 then (
      fX15_saveScan_284 X  a0 a2 a3 a4 a5 w
    ) else (
      if ((a1 >>> (a11 &&& 31)) &&& 1) = 1 then (
        (gO w a0 15).bind fun o66 =>
        (fX15_put X w a0 (a11 + 1)).bind fun q67 =>
        (gO q67 a0 15).bind fun o68 =>
        (fX15_put X q67 a0 (17 * a11)).bind fun q69 =>
        fX15_saveScan_278 X (fX15_saveScan_242 X  m) a0 a1 a2 a3 a4 a5 a11 q69
      ) else (
        fX15_saveScan_278 X (fX15_saveScan_242 X  m) a0 a1 a2 a3 a4 a5 a11 w
      )
    )
