noncomputable def f_X0_init (w0 : MW) (v0 : Nat) : Option MW :=
  (nwC w0.length w0 [.ref v0, .ref v0] (.inl (.int, 60, .inl (fun _ => 0)))).bind fun w1 =>
  (pV w1 0 v0 0 (.ref w0.length)).bind fun w2 =>
  (pV w2 0 v0 1 (.int (0 : Int32))).bind fun w3 =>
  (pV w3 0 v0 2 (.int (-1 : Int32))).bind fun w4 =>
  some w4
def f_X0_empty (w : MW) (v0 : Nat) : Option MW :=
  (pV w 0 v0 1 (.int (0 : Int32))).bind fun w1 =>
  (pV w1 0 v0 2 (.int (-1 : Int32))).bind fun w2 =>
  some w2
def f_X0_keyAt (w : MW) (v0 : Nat) (v1 : Int32) : Option Int32 :=
  if v1 < 0 then
    some (-1 : Int32)
  else
    (gI w 0 v0 1).bind fun x1 =>
    if x1 ≤ v1 then
      some (-1 : Int32)
    else
      (gR w 0 v0 0).bind fun x2 =>
      (aI w .int x2 v1).bind fun x3 =>
      some (x3 >>> ((1 : Int32) &&& 31))
def f_X0_markAt (w : MW) (v0 : Nat) (v1 : Int32) : Option Int32 :=
  if v1 < 0 then
    some (0 : Int32)
  else
    (gI w 0 v0 1).bind fun x1 =>
    if x1 ≤ v1 then
      some (0 : Int32)
    else
      (gR w 0 v0 0).bind fun x2 =>
      (aI w .int x2 v1).bind fun x3 =>
      some (x3 &&& (1 : Int32))
def f_X0_below_2 (fu : Nat) (w : MW) : Nat → Nat → Int32 → Int32 → Option Int32
  | 0, _, _, _ => none
  | n + 1, v0, v1, v2 =>
    (gI w 0 v0 1).bind fun x2 =>
    if x2 ≤ v2 then
      some v2
    else
      (gR w 0 v0 0).bind fun x3 =>
      (aI w .int x3 v2).bind fun x4 =>
      if v1 ≤ (x4 >>> ((1 : Int32) &&& 31)) then
        some v2
      else
        bnd (v2 + 1) fun x5 =>
        (f_X0_below_2 fu w n) v0 v1 x5
def f_X0_below (fu : Nat) (w : MW) (v0 : Nat) (v1 : Int32) : Option Int32 :=
  bnd (0 : Int32) fun x1 =>
  f_X0_below_2 fu w fu v0 v1 x1
def f_X0_notAbove_2 (fu : Nat) (w : MW) : Nat → Nat → Int32 → Int32 → Option Int32
  | 0, _, _, _ => none
  | n + 1, v0, v1, v2 =>
    (gI w 0 v0 1).bind fun x2 =>
    if x2 ≤ v2 then
      some v2
    else
      (gR w 0 v0 0).bind fun x3 =>
      (aI w .int x3 v2).bind fun x4 =>
      if v1 < (x4 >>> ((1 : Int32) &&& 31)) then
        some v2
      else
        bnd (v2 + 1) fun x5 =>
        (f_X0_notAbove_2 fu w n) v0 v1 x5
def f_X0_notAbove (fu : Nat) (w : MW) (v0 : Nat) (v1 : Int32) : Option Int32 :=
  bnd (0 : Int32) fun x1 =>
  f_X0_notAbove_2 fu w fu v0 v1 x1
def f_X0_rankOf (fu : Nat) (w : MW) (v0 : Nat) (v1 : Int32) : Option Int32 :=
  (cl w 0 v0 (f_X0_below fu w v0 v1)).bind fun q1 =>
  bnd q1 fun x4 =>
  (gI w 0 v0 1).bind fun x5 =>
  if x5 ≤ x4 then
    some (-1 : Int32)
  else
    (gR w 0 v0 0).bind fun x6 =>
    (aI w .int x6 x4).bind fun x7 =>
    if (x7 >>> ((1 : Int32) &&& 31)) = v1 then
      some x4
    else
      some (-1 : Int32)
def f_X0_howManyBetween (fu : Nat) (w : MW) (v0 : Nat) (v1 : Int32) (v2 : Int32) : Option Int32 :=
  (cl w 0 v0 (f_X0_notAbove fu w v0 v2)).bind fun q1 =>
  (cl w 0 v0 (f_X0_below fu w v0 v1)).bind fun q4 =>
  some (imax (0 : Int32) (q1 - q4))
def f_X0_markedBetween_16 (fu : Nat) (w : MW) : Nat → Nat → Int32 → Int32 → Int32 → Option Int32
  | 0, _, _, _, _ => none
  | n + 1, v0, v3, v4, v5 =>
    if v3 ≤ v5 then
      some v4
    else
      (cl w 0 v0 (f_X0_markAt w v0 v5)).bind fun q10 =>
      bnd (v4 + q10) fun x13 =>
      bnd (v5 + 1) fun x14 =>
      (f_X0_markedBetween_16 fu w n) v0 v3 x13 x14
def f_X0_markedBetween (fu : Nat) (w : MW) (v0 : Nat) (v1 : Int32) (v2 : Int32) : Option Int32 :=
  (cl w 0 v0 (f_X0_notAbove fu w v0 v2)).bind fun q1 =>
  bnd q1 fun x4 =>
  bnd (0 : Int32) fun x5 =>
  (cl w 0 v0 (f_X0_below fu w v0 v1)).bind fun q6 =>
  bnd q6 fun x9 =>
  f_X0_markedBetween_16 fu w fu v0 x4 x5 x9
def f_X0_leastDifference_40 (fu : Nat) (w : MW) (lr4 : Nat → Int32 → Int32 → Option Int32) (v0 : Nat) (v2 : Int32) (s0 : Int32) : Option Int32 :=
  bnd s0 fun x11 =>
  bnd (v2 + 1) fun x12 =>
  lr4 v0 x11 x12
def f_X0_leastDifference_4 (fu : Nat) (w : MW) : Nat → Nat → Int32 → Int32 → Option Int32
  | 0, _, _, _ => none
  | n + 1, v0, v1, v2 =>
    (gI w 0 v0 1).bind fun x3 =>
    if x3 ≤ v2 then
      some v1
    else
      (cl w 0 v0 (f_X0_keyAt w v0 v2)).bind fun q4 =>
      (cl w 0 v0 (f_X0_keyAt w v0 (v2 - (1 : Int32)))).bind fun q7 =>
      bnd (q4 - q7) fun x10 =>
      if v1 = (-1 : Int32) then
        f_X0_leastDifference_40 fu w (f_X0_leastDifference_4 fu w n) v0 v2 x10
      else
        f_X0_leastDifference_40 fu w (f_X0_leastDifference_4 fu w n) v0 v2 (imin v1 x10)
def f_X0_leastDifference (fu : Nat) (w : MW) (v0 : Nat) : Option Int32 :=
  bnd (-1 : Int32) fun x1 =>
  bnd (1 : Int32) fun x2 =>
  f_X0_leastDifference_4 fu w fu v0 x1 x2
def f_X0_stretches_36 (fu : Nat) (w : MW) (lr4 : Nat → Int32 → Int32 → Option Int32) (v0 : Nat) (v1 : Int32) (v2 : Int32) : Option Int32 :=
  bnd (v2 + 1) fun x5 =>
  lr4 v0 v1 x5
def f_X0_stretches_33 (fu : Nat) (w : MW) (lr4 : Nat → Int32 → Int32 → Option Int32) (v0 : Nat) (v1 : Int32) (v2 : Int32) : Option Int32 :=
  bnd (v1 + 1) fun x4 =>
  f_X0_stretches_36 fu w lr4 v0 x4 v2
def f_X0_stretches_4 (fu : Nat) (w : MW) : Nat → Nat → Int32 → Int32 → Option Int32
  | 0, _, _, _ => none
  | n + 1, v0, v1, v2 =>
    (gI w 0 v0 1).bind fun x3 =>
    if x3 ≤ v2 then
      some v1
    else
      if v2 = 0 then
        f_X0_stretches_33 fu w (f_X0_stretches_4 fu w n) v0 v1 v2
      else
        (cl w 0 v0 (f_X0_keyAt w v0 v2)).bind fun q6 =>
        (cl w 0 v0 (f_X0_keyAt w v0 (v2 - (1 : Int32)))).bind fun q9 =>
        if (q6 - q9) ≤ (1 : Int32) then
          f_X0_stretches_36 fu w (f_X0_stretches_4 fu w n) v0 v1 v2
        else
          f_X0_stretches_33 fu w (f_X0_stretches_4 fu w n) v0 v1 v2
def f_X0_stretches (fu : Nat) (w : MW) (v0 : Nat) : Option Int32 :=
  bnd (0 : Int32) fun x1 =>
  bnd (0 : Int32) fun x2 =>
  f_X0_stretches_4 fu w fu v0 x1 x2
def f_X0_sum_4 (fu : Nat) (w : MW) : Nat → Nat → Int32 → Int32 → Option Int32
  | 0, _, _, _ => none
  | n + 1, v0, v1, v2 =>
    (gI w 0 v0 1).bind fun x3 =>
    if x3 ≤ v2 then
      some v1
    else
      (cl w 0 v0 (f_X0_keyAt w v0 v2)).bind fun q4 =>
      bnd (v1 + q4) fun x7 =>
      bnd (v2 + 1) fun x8 =>
      (f_X0_sum_4 fu w n) v0 x7 x8
def f_X0_sum (fu : Nat) (w : MW) (v0 : Nat) : Option Int32 :=
  bnd (0 : Int32) fun x1 =>
  bnd (0 : Int32) fun x2 =>
  f_X0_sum_4 fu w fu v0 x1 x2
def f_X0_lastToldWith_41 (fu : Nat) (w : MW) (v1 : Int32) (v2 : Int32) : Option Int32 :=
  if (2 : Int32) ≤ (v2 - v1) then
    some v2
  else
    some v1
def f_X0_lastToldWith_6 (fu : Nat) (w : MW) : Nat → Nat → Int32 → Int32 → Option Int32
  | 0, _, _, _ => none
  | n + 1, v0, v1, v2 =>
    (gI w 0 v0 1).bind fun x2 =>
    if x2 ≤ (v2 + (1 : Int32)) then
      f_X0_lastToldWith_41 fu w v1 v2
    else
      (gR w 0 v0 0).bind fun x3 =>
      (aI w .int x3 (v2 + (1 : Int32))).bind fun x4 =>
      (gR w 0 v0 0).bind fun x5 =>
      (aI w .int x5 v2).bind fun x6 =>
      if (x4 - x6) = (2 : Int32) then
        bnd (v2 + 1) fun x7 =>
        (f_X0_lastToldWith_6 fu w n) v0 v1 x7
      else
        f_X0_lastToldWith_41 fu w v1 v2
def f_X0_lastToldWith (fu : Nat) (w : MW) (v0 : Nat) (v1 : Int32) : Option Int32 :=
  bnd (imax v1 (0 : Int32)) fun x1 =>
  f_X0_lastToldWith_6 fu w fu v0 v1 x1
def f_X0_openGap (w : MW) (v0 : Nat) (v1 : Int32) (v2 : Int32) : Option (Int32 × MW) :=
  if v1 < 0 then
    some ((0 : Int32), w)
  else
    (gI w 0 v0 1).bind fun x1 =>
    if x1 < v1 then
      some ((0 : Int32), w)
    else
      if v2 < 0 then
        some ((0 : Int32), w)
      else
        (gI w 0 v0 1).bind fun x2 =>
        if v2 ≤ ((60 : Int32) - x2) then
          (gR w 0 v0 0).bind fun x3 =>
          (gR w 0 v0 0).bind fun x4 =>
          (gI w 0 v0 1).bind fun x5 =>
          (cpI w .int x3 v1 x4 (v1 + v2) (x5 - v1)).bind fun w6 =>
          (gI w6 0 v0 1).bind fun x7 =>
          (pV w6 0 v0 1 (.int (x7 + v2))).bind fun w8 =>
          (pV w8 0 v0 2 (.int (-1 : Int32))).bind fun w9 =>
          some ((1 : Int32), w9)
        else
          some ((0 : Int32), w)
def f_X0_closeGap (w : MW) (v0 : Nat) (v1 : Int32) (v2 : Int32) : Option MW :=
  if v1 < 0 then
    some w
  else
    if v2 < 0 then
      some w
    else
      (gI w 0 v0 1).bind fun x1 =>
      if (x1 - v1) < v2 then
        some w
      else
        (gR w 0 v0 0).bind fun x2 =>
        (gR w 0 v0 0).bind fun x3 =>
        (gI w 0 v0 1).bind fun x4 =>
        (cpI w .int x2 (v1 + v2) x3 v1 ((x4 - v1) - v2)).bind fun w5 =>
        (gI w5 0 v0 1).bind fun x6 =>
        (pV w5 0 v0 1 (.int (x6 - v2))).bind fun w7 =>
        (pV w7 0 v0 2 (.int (-1 : Int32))).bind fun w8 =>
        some w8
def f_X0_insert (fu : Nat) (w : MW) (v0 : Nat) (v1 : Int32) : Option (Int32 × MW) :=
  (cl w 0 v0 (f_X0_below fu w v0 v1)).bind fun q1 =>
  bnd q1 fun x4 =>
  (cl w 0 v0 (f_X0_openGap w v0 x4 (1 : Int32))).bind fun q5 =>
  if q5.1 = 0 then
    some (x4, q5.2)
  else
    (gR q5.2 0 v0 0).bind fun x8 =>
    (sI q5.2 .int x8 x4 (v1 * (2 : Int32))).bind fun w9 =>
    some (x4, w9)
def f_X0_giveStretch (fu : Nat) (w : MW) (v0 : Nat) (v1 : Int32) (v2 : Int32) (v3 : Nat) : Option MW :=
  if v1 < 0 then
    some w
  else
    if v2 < (1 : Int32) then
      some w
    else
      (gI w 0 v0 1).bind fun x1 =>
      if v2 ≤ (x1 - v1) then
        (gR w 0 v0 0).bind fun x2 =>
        (aI w .int x2 v1).bind fun x3 =>
        (cl w 0 v3 (f_X0_below fu w v3 (x3 >>> ((1 : Int32) &&& 31)))).bind fun q4 =>
        bnd q4 fun x7 =>
        (cl w 0 v3 (f_X0_openGap w v3 x7 v2)).bind fun q8 =>
        if q8.1 = 0 then
          some q8.2
        else
          (gR q8.2 0 v0 0).bind fun x11 =>
          (gR q8.2 0 v3 0).bind fun x12 =>
          (cpI q8.2 .int x11 v1 x12 x7 v2).bind fun w13 =>
          (cl w13 0 v0 (f_X0_closeGap w13 v0 v1 v2)).bind fun q14 =>
          some q14
      else
        some w
def f_J6_compare_7cf53 (v0 : Int32) (v1 : Int32) : Int32 :=
  if v1 ≤ v0 then
    if v0 = v1 then
      (0 : Int32)
    else
      (1 : Int32)
  else
    (-1 : Int32)
def f_X0_absorb_122 (fu : Nat) (w : MW) (v0 : Nat) (v1 : Nat) (v2 : Int32) : Option MW :=
  (pV w 0 v0 1 (.int (imin v2 (60 : Int32)))).bind fun w7 =>
  (cl w7 0 v1 (f_X0_empty w7 v1)).bind fun q8 =>
  some q8
def f_X0_absorb_94 (fu : Nat) (lr25 : MW → Nat → Nat → Int32 → Int32 → Int32 → Int32 → Option MW) (w : MW) (v0 : Nat) (v1 : Nat) (v2 : Int32) (v3 : Int32) (v4 : Int32) (v5 : Int32) (v7 : Int32) : Option MW :=
  (gR w 0 v0 0).bind fun x20 =>
  (sI w .int x20 v5 v7).bind fun w21 =>
  bnd (v5 + (-1)) fun x22 =>
  lr25 w21 v0 v1 v2 v3 v4 x22
def f_X0_absorb_69 (fu : Nat) (lr25 : MW → Nat → Nat → Int32 → Int32 → Int32 → Int32 → Option MW) (w : MW) (v0 : Nat) (v1 : Nat) (v2 : Int32) (v3 : Int32) (v4 : Int32) (v5 : Int32) (v6 : Int32) (v7 : Int32) : Option MW :=
  if 0 < v6 then
    f_X0_absorb_94 fu lr25 w v0 v1 v2 v3 v4 v5 v7
  else
    if v4 < 0 then
      f_X0_absorb_94 fu lr25 w v0 v1 v2 v3 v4 v5 v7
    else
      (gR w 0 v1 0).bind fun x23 =>
      (aI w .int x23 v4).bind fun x24 =>
      bnd (v7 ||| x24) fun x25 =>
      bnd (v4 + (-1)) fun x26 =>
      f_X0_absorb_94 fu lr25 w v0 v1 v2 v3 x26 v5 x25
def f_X0_absorb_25 (fu : Nat) : Nat → MW → Nat → Nat → Int32 → Int32 → Int32 → Int32 → Option MW
  | 0, _, _, _, _, _, _, _ => none
  | n + 1, w, v0, v1, v2, v3, v4, v5 =>
    if v5 < 0 then
      (gI w 0 v0 1).bind fun x6 =>
      if v2 = x6 then
        f_X0_absorb_122 fu w v0 v1 v2
      else
        (pV w 0 v0 2 (.int (-1 : Int32))).bind fun w11 =>
        f_X0_absorb_122 fu w11 v0 v1 v2
    else
      (cl w 0 v0 (f_X0_keyAt w v0 v3)).bind fun q12 =>
      (cl w 0 v1 (f_X0_keyAt w v1 v4)).bind fun q15 =>
      bnd (f_J6_compare_7cf53 q12 q15) fun x18 =>
      bnd (0 : Int32) fun x19 =>
      if x18 < 0 then
        f_X0_absorb_69 fu (f_X0_absorb_25 fu n) w v0 v1 v2 v3 v4 v5 x18 x19
      else
        if v3 < 0 then
          f_X0_absorb_69 fu (f_X0_absorb_25 fu n) w v0 v1 v2 v3 v4 v5 x18 x19
        else
          (gR w 0 v0 0).bind fun x27 =>
          (aI w .int x27 v3).bind fun x28 =>
          bnd x28 fun x29 =>
          bnd (v3 + (-1)) fun x30 =>
          f_X0_absorb_69 fu (f_X0_absorb_25 fu n) w v0 v1 v2 x30 v4 v5 x18 x29
def f_X0_absorb (fu : Nat) (w : MW) (v0 : Nat) (v1 : Nat) (v2 : Int32) : Option MW :=
  (gI w 0 v0 1).bind fun x1 =>
  bnd (x1 - (1 : Int32)) fun x2 =>
  (gI w 0 v1 1).bind fun x3 =>
  bnd (x3 - (1 : Int32)) fun x4 =>
  bnd ((imin v2 (60 : Int32)) - (1 : Int32)) fun x5 =>
  f_X0_absorb_25 fu fu w v0 v1 v2 x2 x4 x5
def f_X0_shiftAll_2 (fu : Nat) : Nat → MW → Nat → Int32 → Int32 → Option MW
  | 0, _, _, _, _ => none
  | n + 1, w, v0, v1, v2 =>
    (gI w 0 v0 1).bind fun x2 =>
    if x2 ≤ v2 then
      (gI w 0 v0 2).bind fun x3 =>
      if x3 = (-1 : Int32) then
        some w
      else
        (gI w 0 v0 2).bind fun x4 =>
        (pV w 0 v0 2 (.int (x4 + v1))).bind fun w5 =>
        some w5
    else
      (gR w 0 v0 0).bind fun x6 =>
      (aI w .int x6 v2).bind fun x7 =>
      (sI w .int x6 v2 (x7 + (v1 * (2 : Int32)))).bind fun w8 =>
      bnd (v2 + 1) fun x9 =>
      (f_X0_shiftAll_2 fu n) w8 v0 v1 x9
def f_X0_shiftAll (fu : Nat) (w : MW) (v0 : Nat) (v1 : Int32) : Option MW :=
  bnd (0 : Int32) fun x1 =>
  f_X0_shiftAll_2 fu fu w v0 v1 x1
def f_X0_markBetween_51 (fu : Nat) (lr17 : MW → Nat → Int32 → Int32 → Int32 → Int32 → Option (Int32 × MW)) (w : MW) (v0 : Nat) (v3 : Int32) (v4 : Int32) (v5 : Int32) (v6 : Int32) : Option (Int32 × MW) :=
  bnd (v6 + 1) fun x12 =>
  lr17 w v0 v3 v4 v5 x12
def f_X0_markBetween_17 (fu : Nat) : Nat → MW → Nat → Int32 → Int32 → Int32 → Int32 → Option (Int32 × MW)
  | 0, _, _, _, _, _, _ => none
  | n + 1, w, v0, v3, v4, v5, v6 =>
    if v4 ≤ v6 then
      some (v5, w)
    else
      (gR w 0 v0 0).bind fun x10 =>
      (aI w .int x10 v6).bind fun x11 =>
      if (x11 &&& (1 : Int32)) = v3 then
        f_X0_markBetween_51 fu (f_X0_markBetween_17 fu n) w v0 v3 v4 v5 v6
      else
        (gR w 0 v0 0).bind fun x13 =>
        (aI w .int x13 v6).bind fun x14 =>
        (sI w .int x13 v6 (x14 ^^^ (1 : Int32))).bind fun w15 =>
        bnd (v5 + 1) fun x16 =>
        f_X0_markBetween_51 fu (f_X0_markBetween_17 fu n) w15 v0 v3 v4 x16 v6
def f_X0_markBetween (fu : Nat) (w : MW) (v0 : Nat) (v1 : Int32) (v2 : Int32) (v3 : Int32) : Option (Int32 × MW) :=
  (cl w 0 v0 (f_X0_notAbove fu w v0 v2)).bind fun q1 =>
  bnd q1 fun x4 =>
  bnd (0 : Int32) fun x5 =>
  (cl w 0 v0 (f_X0_below fu w v0 v1)).bind fun q6 =>
  bnd q6 fun x9 =>
  f_X0_markBetween_17 fu fu w v0 v3 x4 x5 x9
noncomputable def f_X6_init (w0 : MW) (v0 : Nat) : Option MW :=
  (nwC w0.length w0 [.ref v0, .ref v0] (.inl (.int, 240, .inl (fun _ => 0)))).bind fun w1 =>
  (pV w1 6 v0 0 (.ref w0.length)).bind fun w2 =>
  (nwC w0.length w2 [.ref v0, .ref v0] (.inl (.int, 8, .inl (fun _ => 0)))).bind fun w3 =>
  (pV w3 6 v0 1 (.ref w2.length)).bind fun w4 =>
  (nwC w0.length w4 [.ref v0, .ref v0] (.inl (.int, 8, .inl (fun _ => 0)))).bind fun w5 =>
  (pV w5 6 v0 2 (.ref w4.length)).bind fun w6 =>
  some w6
def f_X4_init (w : MW) (v0 : Nat) (v1 : Nat) : Option MW :=
  (pV w 4 v0 0 (.ref v1)).bind fun w1 =>
  (pV w1 4 v0 1 (.int (0 : Int32))).bind fun w2 =>
  some w2
noncomputable def f_X1_init (w0 : MW) (v0 : Nat) : Option MW :=
  (nwC w0.length w0 [.ref v0, .ref v0] (.inr (6, [.null, .null, .null]))).bind fun w1 =>
  (clA w0.length w1 6 w0.length [.ref v0, .ref w0.length, .ref v0] (f_X6_init w1 w0.length)).bind fun q2 =>
  (pV q2 1 v0 0 (.ref w0.length)).bind fun w5 =>
  (nwC w0.length w5 [.ref v0, .ref v0] (.inr (4, [.null, .int 0]))).bind fun w6 =>
  (nwC w0.length w6 [.ref v0, .ref w5.length, .ref w5.length, .ref v0] (.inl (.byte, 800, .inl (fun _ => 0)))).bind fun w7 =>
  (cl w7 4 w5.length (f_X4_init w7 w5.length w6.length)).bind fun q8 =>
  (pV q8 1 v0 1 (.ref w5.length)).bind fun w11 =>
  (nwC w0.length w11 [.ref v0, .ref v0] (.inr (4, [.null, .int 0]))).bind fun w12 =>
  (nwC w0.length w12 [.ref v0, .ref w11.length, .ref w11.length, .ref v0] (.inl (.byte, 360, .inl (fun _ => 0)))).bind fun w13 =>
  (cl w13 4 w11.length (f_X4_init w13 w11.length w12.length)).bind fun q14 =>
  (pV q14 1 v0 2 (.ref w11.length)).bind fun w17 =>
  (pV w17 1 v0 3 (.int (0 : Int32))).bind fun w18 =>
  (pV w18 1 v0 4 (.int (0 : Int32))).bind fun w19 =>
  (pV w19 1 v0 5 (.int (-1 : Int32))).bind fun w20 =>
  some w20
noncomputable def f_X2_init (w0 : MW) (v0 : Nat) (v1 : Nat) : Option MW :=
  (nwC w0.length w0 [.ref v0, .ref v1, .ref v0] (.inl (.int, 8, .inl (fun _ => 0)))).bind fun w1 =>
  (pV w1 2 v0 1 (.ref w0.length)).bind fun w2 =>
  (pV w2 2 v0 0 (.ref v1)).bind fun w3 =>
  some w3
def f_X2_begin_2 (fu : Nat) : Nat → MW → Nat → Int32 → Option MW
  | 0, _, _, _ => none
  | n + 1, w, v0, v1 =>
    if (8 : Int32) ≤ v1 then
      some w
    else
      (gR w 2 v0 1).bind fun x2 =>
      (sI w .int x2 v1 (0 : Int32)).bind fun w3 =>
      bnd (v1 + 1) fun x4 =>
      (f_X2_begin_2 fu n) w3 v0 x4
def f_X2_begin (fu : Nat) (w : MW) (v0 : Nat) : Option MW :=
  bnd (0 : Int32) fun x1 =>
  f_X2_begin_2 fu fu w v0 x1
def f_X2_next_66 (fu : Nat) (w : MW) (v0 : Nat) (v1 : Int32) (v2 : Int32) : Option (Int32 × MW) :=
  if v2 = (-1 : Int32) then
    some (v1, w)
  else
    (gR w 2 v0 1).bind fun x4 =>
    (aI w .int x4 v2).bind fun x5 =>
    (sI w .int x4 v2 (x5 + (1 : Int32))).bind fun w6 =>
    some (v1, w6)
def f_X2_next_60 (fu : Nat) (lr6 : MW → Nat → Int32 → Int32 → Int32 → Option (Int32 × MW)) (w : MW) (v0 : Nat) (v1 : Int32) (v2 : Int32) (v3 : Int32) : Option (Int32 × MW) :=
  bnd (v3 + 1) fun x17 =>
  lr6 w v0 v1 v2 x17
def f_X2_next_55 (fu : Nat) (lr6 : MW → Nat → Int32 → Int32 → Int32 → Option (Int32 × MW)) (w : MW) (v0 : Nat) (v3 : Int32) (v4 : Int32) : Option (Int32 × MW) :=
  bnd v4 fun x18 =>
  bnd v3 fun x19 =>
  f_X2_next_60 fu lr6 w v0 x18 x19 v3
def f_X2_next_6 (fu : Nat) : Nat → MW → Nat → Int32 → Int32 → Int32 → Option (Int32 × MW)
  | 0, _, _, _, _, _ => none
  | n + 1, w, v0, v1, v2, v3 =>
    if (8 : Int32) ≤ v3 then
      f_X2_next_66 fu w v0 v1 v2
    else
      (gR w 2 v0 0).bind fun x7 =>
      (aL w (.object RX0) x7).bind fun x8 =>
      if x8 ≤ v3 then
        f_X2_next_66 fu w v0 v1 v2
      else
        (gR w 2 v0 0).bind fun x9 =>
        (aRn w (.object RX0) x9 v3).bind fun x10 =>
        (gR w 2 v0 1).bind fun x11 =>
        (aI w .int x11 v3).bind fun x12 =>
        (cl w 0 x10 (f_X0_keyAt w x10 x12)).bind fun q13 =>
        bnd q13 fun x16 =>
        if x16 = (-1 : Int32) then
          f_X2_next_60 fu (f_X2_next_6 fu n) w v0 v1 v2 v3
        else
          if v1 = (-1 : Int32) then
            f_X2_next_55 fu (f_X2_next_6 fu n) w v0 v3 x16
          else
            if v1 ≤ x16 then
              f_X2_next_60 fu (f_X2_next_6 fu n) w v0 v1 v2 v3
            else
              f_X2_next_55 fu (f_X2_next_6 fu n) w v0 v3 x16
def f_X2_next (fu : Nat) (w : MW) (v0 : Nat) : Option (Int32 × MW) :=
  bnd (-1 : Int32) fun x1 =>
  bnd (-1 : Int32) fun x2 =>
  bnd (0 : Int32) fun x3 =>
  f_X2_next_6 fu fu w v0 x1 x2 x3
noncomputable def f_X3_init (w0 : MW) (v0 : Nat) : Option MW :=
  (nwC w0.length w0 [.ref v0, .ref v0] (.inl (.object RX6, 13, .inr (.inr (.inr (.inr (fun _ => none))))))).bind fun w1 =>
  (pV w1 3 v0 0 (.ref w0.length)).bind fun w2 =>
  (pV w2 3 v0 1 (.int (0 : Int32))).bind fun w3 =>
  (pV w3 3 v0 2 (.int (0 : Int32))).bind fun w4 =>
  (gR w4 3 v0 0).bind fun x5 =>
  (nwC w0.length w4 [.int (0 : Int32), .ref v0, .int (0 : Int32), .ref x5] (.inr (6, [.null, .null, .null]))).bind fun w6 =>
  (clA w0.length w6 6 w4.length [.int (0 : Int32), .ref v0, .ref w4.length, .int (0 : Int32), .ref x5] (f_X6_init w6 w4.length)).bind fun q7 =>
  (sR q7 RX6 6 x5 (0 : Int32) w4.length).bind fun w10 =>
  (gR w10 3 v0 0).bind fun x11 =>
  (nwC w0.length w10 [.int (1 : Int32), .ref v0, .int (1 : Int32), .ref x11] (.inr (6, [.null, .null, .null]))).bind fun w12 =>
  (clA w0.length w12 6 w10.length [.int (1 : Int32), .ref v0, .ref w10.length, .int (1 : Int32), .ref x11] (f_X6_init w12 w10.length)).bind fun q13 =>
  (sR q13 RX6 6 x11 (1 : Int32) w10.length).bind fun w16 =>
  (gR w16 3 v0 0).bind fun x17 =>
  (nwC w0.length w16 [.int (2 : Int32), .ref v0, .int (2 : Int32), .ref x17] (.inr (6, [.null, .null, .null]))).bind fun w18 =>
  (clA w0.length w18 6 w16.length [.int (2 : Int32), .ref v0, .ref w16.length, .int (2 : Int32), .ref x17] (f_X6_init w18 w16.length)).bind fun q19 =>
  (sR q19 RX6 6 x17 (2 : Int32) w16.length).bind fun w22 =>
  (gR w22 3 v0 0).bind fun x23 =>
  (nwC w0.length w22 [.int (3 : Int32), .ref v0, .int (3 : Int32), .ref x23] (.inr (6, [.null, .null, .null]))).bind fun w24 =>
  (clA w0.length w24 6 w22.length [.int (3 : Int32), .ref v0, .ref w22.length, .int (3 : Int32), .ref x23] (f_X6_init w24 w22.length)).bind fun q25 =>
  (sR q25 RX6 6 x23 (3 : Int32) w22.length).bind fun w28 =>
  (gR w28 3 v0 0).bind fun x29 =>
  (nwC w0.length w28 [.int (4 : Int32), .ref v0, .int (4 : Int32), .ref x29] (.inr (6, [.null, .null, .null]))).bind fun w30 =>
  (clA w0.length w30 6 w28.length [.int (4 : Int32), .ref v0, .ref w28.length, .int (4 : Int32), .ref x29] (f_X6_init w30 w28.length)).bind fun q31 =>
  (sR q31 RX6 6 x29 (4 : Int32) w28.length).bind fun w34 =>
  (gR w34 3 v0 0).bind fun x35 =>
  (nwC w0.length w34 [.int (5 : Int32), .ref v0, .int (5 : Int32), .ref x35] (.inr (6, [.null, .null, .null]))).bind fun w36 =>
  (clA w0.length w36 6 w34.length [.int (5 : Int32), .ref v0, .ref w34.length, .int (5 : Int32), .ref x35] (f_X6_init w36 w34.length)).bind fun q37 =>
  (sR q37 RX6 6 x35 (5 : Int32) w34.length).bind fun w40 =>
  (gR w40 3 v0 0).bind fun x41 =>
  (nwC w0.length w40 [.int (6 : Int32), .ref v0, .int (6 : Int32), .ref x41] (.inr (6, [.null, .null, .null]))).bind fun w42 =>
  (clA w0.length w42 6 w40.length [.int (6 : Int32), .ref v0, .ref w40.length, .int (6 : Int32), .ref x41] (f_X6_init w42 w40.length)).bind fun q43 =>
  (sR q43 RX6 6 x41 (6 : Int32) w40.length).bind fun w46 =>
  (gR w46 3 v0 0).bind fun x47 =>
  (nwC w0.length w46 [.int (7 : Int32), .ref v0, .int (7 : Int32), .ref x47] (.inr (6, [.null, .null, .null]))).bind fun w48 =>
  (clA w0.length w48 6 w46.length [.int (7 : Int32), .ref v0, .ref w46.length, .int (7 : Int32), .ref x47] (f_X6_init w48 w46.length)).bind fun q49 =>
  (sR q49 RX6 6 x47 (7 : Int32) w46.length).bind fun w52 =>
  (gR w52 3 v0 0).bind fun x53 =>
  (nwC w0.length w52 [.int (8 : Int32), .ref v0, .int (8 : Int32), .ref x53] (.inr (6, [.null, .null, .null]))).bind fun w54 =>
  (clA w0.length w54 6 w52.length [.int (8 : Int32), .ref v0, .ref w52.length, .int (8 : Int32), .ref x53] (f_X6_init w54 w52.length)).bind fun q55 =>
  (sR q55 RX6 6 x53 (8 : Int32) w52.length).bind fun w58 =>
  (gR w58 3 v0 0).bind fun x59 =>
  (nwC w0.length w58 [.int (9 : Int32), .ref v0, .int (9 : Int32), .ref x59] (.inr (6, [.null, .null, .null]))).bind fun w60 =>
  (clA w0.length w60 6 w58.length [.int (9 : Int32), .ref v0, .ref w58.length, .int (9 : Int32), .ref x59] (f_X6_init w60 w58.length)).bind fun q61 =>
  (sR q61 RX6 6 x59 (9 : Int32) w58.length).bind fun w64 =>
  (gR w64 3 v0 0).bind fun x65 =>
  (nwC w0.length w64 [.int (10 : Int32), .ref v0, .int (10 : Int32), .ref x65] (.inr (6, [.null, .null, .null]))).bind fun w66 =>
  (clA w0.length w66 6 w64.length [.int (10 : Int32), .ref v0, .ref w64.length, .int (10 : Int32), .ref x65] (f_X6_init w66 w64.length)).bind fun q67 =>
  (sR q67 RX6 6 x65 (10 : Int32) w64.length).bind fun w70 =>
  (gR w70 3 v0 0).bind fun x71 =>
  (nwC w0.length w70 [.int (11 : Int32), .ref v0, .int (11 : Int32), .ref x71] (.inr (6, [.null, .null, .null]))).bind fun w72 =>
  (clA w0.length w72 6 w70.length [.int (11 : Int32), .ref v0, .ref w70.length, .int (11 : Int32), .ref x71] (f_X6_init w72 w70.length)).bind fun q73 =>
  (sR q73 RX6 6 x71 (11 : Int32) w70.length).bind fun w76 =>
  (gR w76 3 v0 0).bind fun x77 =>
  (nwC w0.length w76 [.int (12 : Int32), .ref v0, .int (12 : Int32), .ref x77] (.inr (6, [.null, .null, .null]))).bind fun w78 =>
  (clA w0.length w78 6 w76.length [.int (12 : Int32), .ref v0, .ref w76.length, .int (12 : Int32), .ref x77] (f_X6_init w78 w76.length)).bind fun q79 =>
  (sR q79 RX6 6 x77 (12 : Int32) w76.length).bind fun w82 =>
  some w82
def f_X6_take_4 (fu : Nat) : Nat → MW → Nat → Nat → Int32 → Int32 → Option MW
  | 0, _, _, _, _, _ => none
  | n + 1, w, v0, v1, v2, v3 =>
    if (8 : Int32) ≤ v3 then
      some w
    else
      (gR w 7 v1 0).bind fun x3 =>
      (aRn w (.object RX0) x3 v3).bind fun x4 =>
      (gI w 0 x4 1).bind fun x5 =>
      bnd (imin x5 ((240 : Int32) - v2)) fun x6 =>
      (gR w 0 x4 0).bind fun x7 =>
      (gR w 6 v0 0).bind fun x8 =>
      (cpI w .int x7 (0 : Int32) x8 v2 x6).bind fun w9 =>
      (gR w9 6 v0 1).bind fun x10 =>
      (sI w9 .int x10 v3 x6).bind fun w11 =>
      (gR w11 6 v0 2).bind fun x12 =>
      (gI w11 0 x4 2).bind fun x13 =>
      (sI w11 .int x12 v3 x13).bind fun w14 =>
      bnd (v2 + x6) fun x15 =>
      bnd (v3 + 1) fun x16 =>
      (f_X6_take_4 fu n) w14 v0 v1 x15 x16
def f_X6_take (fu : Nat) (w : MW) (v0 : Nat) (v1 : Nat) : Option MW :=
  bnd (0 : Int32) fun x1 =>
  bnd (0 : Int32) fun x2 =>
  f_X6_take_4 fu fu w v0 v1 x1 x2
def f_X3_prepare (fu : Nat) (w : MW) (v0 : Nat) (v1 : Nat) : Option MW :=
  (gR w 3 v0 0).bind fun x1 =>
  (gI w 3 v0 1).bind fun x2 =>
  (aRn w (.object RX6) x1 x2).bind fun x3 =>
  (cl w 6 x3 (f_X6_take fu w x3 v1)).bind fun q4 =>
  some q4
def f_X3_settle_26 (w : MW) (v0 : Nat) (v1 : Int32) (s0 : Nat) (s1 : Int32) : Option (Int32 × MW) :=
  (pV w 3 s0 1 (.int s1)).bind fun w2 =>
  (gI w2 3 v0 2).bind fun x3 =>
  (pV w2 3 v0 2 (.int (imin (x3 + (1 : Int32)) (12 : Int32)))).bind fun w4 =>
  some (v1, w4)
def f_X3_settle (w : MW) (v0 : Nat) (v1 : Int32) : Option (Int32 × MW) :=
  if v1 < 0 then
    some (v1, w)
  else
    (gI w 3 v0 1).bind fun x1 =>
    if (13 : Int32) ≤ (x1 + (1 : Int32)) then
      f_X3_settle_26 w v0 v1 v0 (0 : Int32)
    else
      (gI w 3 v0 1).bind fun x5 =>
      f_X3_settle_26 w v0 v1 v0 (x5 + (1 : Int32))
def f_X6_give_4 (fu : Nat) : Nat → MW → Nat → Nat → Int32 → Int32 → Option MW
  | 0, _, _, _, _, _ => none
  | n + 1, w, v0, v1, v2, v3 =>
    if (8 : Int32) ≤ v3 then
      some w
    else
      (gR w 7 v1 0).bind fun x3 =>
      (aRn w (.object RX0) x3 v3).bind fun x4 =>
      (gR w 6 v0 1).bind fun x5 =>
      (aI w .int x5 v3).bind fun x6 =>
      bnd (imin x6 ((240 : Int32) - v2)) fun x7 =>
      (gR w 6 v0 0).bind fun x8 =>
      (gR w 0 x4 0).bind fun x9 =>
      (cpI w .int x8 v2 x9 (0 : Int32) x7).bind fun w10 =>
      (pV w10 0 x4 1 (.int x7)).bind fun w11 =>
      (gR w11 6 v0 2).bind fun x12 =>
      (aI w11 .int x12 v3).bind fun x13 =>
      (pV w11 0 x4 2 (.int x13)).bind fun w14 =>
      bnd (v2 + x7) fun x15 =>
      bnd (v3 + 1) fun x16 =>
      (f_X6_give_4 fu n) w14 v0 v1 x15 x16
def f_X6_give (fu : Nat) (w : MW) (v0 : Nat) (v1 : Nat) : Option MW :=
  bnd (0 : Int32) fun x1 =>
  bnd (0 : Int32) fun x2 =>
  f_X6_give_4 fu fu w v0 v1 x1 x2
def f_X3_stepBack_19 (fu : Nat) (w : MW) (v0 : Nat) (v1 : Nat) (s0 : Nat) (s1 : Int32) : Option MW :=
  (pV w 3 s0 1 (.int s1)).bind fun w2 =>
  (gI w2 3 v0 2).bind fun x3 =>
  (pV w2 3 v0 2 (.int (x3 - (1 : Int32)))).bind fun w4 =>
  (gR w4 3 v0 0).bind fun x5 =>
  (gI w4 3 v0 1).bind fun x6 =>
  (aRn w4 (.object RX6) x5 x6).bind fun x7 =>
  (cl w4 6 x7 (f_X6_give fu w4 x7 v1)).bind fun q8 =>
  some q8
def f_X3_stepBack (fu : Nat) (w : MW) (v0 : Nat) (v1 : Nat) : Option MW :=
  (gI w 3 v0 1).bind fun x1 =>
  if x1 ≤ 0 then
    f_X3_stepBack_19 fu w v0 v1 v0 (12 : Int32)
  else
    (gI w 3 v0 1).bind fun x11 =>
    f_X3_stepBack_19 fu w v0 v1 v0 (x11 - (1 : Int32))
def f_X3_forget (w : MW) (v0 : Nat) : Option MW :=
  (pV w 3 v0 2 (.int (0 : Int32))).bind fun w1 =>
  some w1
def f_X4_byteAt (w : MW) (v0 : Nat) (v1 : Int32) : Option Int32 :=
  if v1 < 0 then
    some (-1 : Int32)
  else
    (gI w 4 v0 1).bind fun x1 =>
    if x1 ≤ v1 then
      some (-1 : Int32)
    else
      (gR w 4 v0 0).bind fun x2 =>
      (aL w .byte x2).bind fun x3 =>
      if x3 ≤ v1 then
        some (-1 : Int32)
      else
        (gR w 4 v0 0).bind fun x4 =>
        (aI w .byte x4 v1).bind fun x5 =>
        some (x5 &&& (255 : Int32))
def f_X4_add (w : MW) (v0 : Nat) (v1 : Int32) : Option MW :=
  (gI w 4 v0 1).bind fun x1 =>
  if x1 < 0 then
    some w
  else
    (gI w 4 v0 1).bind fun x2 =>
    (gR w 4 v0 0).bind fun x3 =>
    (aL w .byte x3).bind fun x4 =>
    if x4 ≤ x2 then
      some w
    else
      (gR w 4 v0 0).bind fun x5 =>
      (gI w 4 v0 1).bind fun x6 =>
      (sI w .byte x5 x6 (vp_nar .byte v1.toInt8.toInt32)).bind fun w7 =>
      (gI w7 4 v0 1).bind fun x8 =>
      (pV w7 4 v0 1 (.int (x8 + (1 : Int32)))).bind fun w9 =>
      some w9
def f_X4_addFour (w : MW) (v0 : Nat) (v1 : Int32) : Option MW :=
  (cl w 4 v0 (f_X4_add w v0 (ush v1 (24 : Int32)))).bind fun q1 =>
  (cl q1 4 v0 (f_X4_add q1 v0 (ush v1 (16 : Int32)))).bind fun q4 =>
  (cl q4 4 v0 (f_X4_add q4 v0 (ush v1 (8 : Int32)))).bind fun q7 =>
  (cl q7 4 v0 (f_X4_add q7 v0 v1)).bind fun q10 =>
  some q10
def f_X4_addNumber_51 (fu : Nat) (lr6 : MW → Nat → Int32 → Int32 → Int32 → Option MW) (w : MW) (v0 : Nat) (v1 : Int32) (v2 : Int32) (v3 : Int32) : Option MW :=
  bnd (v3 / (10 : Int32)) fun x6 =>
  lr6 w v0 v1 v2 x6
def f_X4_addNumber_37 (fu : Nat) (lr6 : MW → Nat → Int32 → Int32 → Int32 → Option MW) (w : MW) (v0 : Nat) (v1 : Int32) (v3 : Int32) (v4 : Int32) (s0 : Int32) : Option MW :=
  bnd s0 fun x5 =>
  if x5 = 0 then
    f_X4_addNumber_51 fu lr6 w v0 v1 x5 v3
  else
    (cl w 4 v0 (f_X4_add w v0 ((48 : Int32) + v4))).bind fun q7 =>
    f_X4_addNumber_51 fu lr6 q7 v0 v1 x5 v3
def f_X4_addNumber_6 (fu : Nat) : Nat → MW → Nat → Int32 → Int32 → Int32 → Option MW
  | 0, _, _, _, _, _ => none
  | n + 1, w, v0, v1, v2, v3 =>
    if v3 ≤ 0 then
      some w
    else
      (dv v1 v3).bind fun x3 =>
      bnd (x3 - x3 / (10 : Int32) * (10 : Int32)) fun x4 =>
      if v2 = 0 then
        if 0 < x4 then
          f_X4_addNumber_37 fu (f_X4_addNumber_6 fu n) w v0 v1 v3 x4 (1 : Int32)
        else
          if v3 = (1 : Int32) then
            f_X4_addNumber_37 fu (f_X4_addNumber_6 fu n) w v0 v1 v3 x4 (1 : Int32)
          else
            f_X4_addNumber_37 fu (f_X4_addNumber_6 fu n) w v0 v1 v3 x4 (0 : Int32)
      else
        f_X4_addNumber_37 fu (f_X4_addNumber_6 fu n) w v0 v1 v3 x4 (1 : Int32)
def f_X4_addNumber (fu : Nat) (w : MW) (v0 : Nat) (v1 : Int32) : Option MW :=
  bnd (0 : Int32) fun x1 =>
  bnd (1000 : Int32) fun x2 =>
  f_X4_addNumber_6 fu fu w v0 v1 x1 x2
def f_X4_copy (w : MW) (v0 : Nat) (v1 : Nat) : Option MW :=
  (gI w 4 v1 1).bind fun x1 =>
  (gR w 4 v0 0).bind fun x2 =>
  (aL w .byte x2).bind fun x3 =>
  (pV w 4 v0 1 (.int (imin x1 x3))).bind fun w4 =>
  (gR w4 4 v1 0).bind fun x5 =>
  (gR w4 4 v0 0).bind fun x6 =>
  (gI w4 4 v0 1).bind fun x7 =>
  (cpI w4 .byte x5 (0 : Int32) x6 (0 : Int32) x7).bind fun w8 =>
  some w8
noncomputable def f_X5_init (w0 : MW) (v0 : Nat) (v1 : Nat) (v2 : Nat) : Option MW :=
  (nwC w0.length w0 [.ref v0, .ref v1, .ref v2, .ref v0] (.inl (.int, 4, .inl (fun _ => 0)))).bind fun w1 =>
  (pV w1 5 v0 2 (.ref w0.length)).bind fun w2 =>
  (pV w2 5 v0 0 (.ref v1)).bind fun w3 =>
  (pV w3 5 v0 1 (.ref v2)).bind fun w4 =>
  some w4
def f_X5_isBlank (v0 : Int32) : Int32 :=
  if v0 = (32 : Int32) then
    (1 : Int32)
  else
    if v0 = (10 : Int32) then
      (1 : Int32)
    else
      (0 : Int32)
def f_X5_isLetter (v0 : Int32) : Int32 :=
  if v0 < (97 : Int32) then
    (0 : Int32)
  else
    if (122 : Int32) < v0 then
      (0 : Int32)
    else
      (1 : Int32)
def f_X5_readWord_5 (fu : Nat) : Nat → MW → Nat → Option MW
  | 0, _, _ => none
  | n + 1, w, v0 =>
    (gI w 5 v0 3).bind fun x2 =>
    (gR w 5 v0 0).bind fun x3 =>
    (gI w 4 x3 1).bind fun x4 =>
    if x4 ≤ x2 then
      some w
    else
      (gR w 5 v0 0).bind fun x5 =>
      (gI w 5 v0 3).bind fun x6 =>
      (cl w 4 x5 (f_X4_byteAt w x5 x6)).bind fun q7 =>
      if (f_X5_isLetter q7) = 0 then
        some w
      else
        (gI w 5 v0 3).bind fun x10 =>
        (pV w 5 v0 3 (.int (x10 + (1 : Int32)))).bind fun w11 =>
        (f_X5_readWord_5 fu n) w11 v0
def f_X5_readWord (fu : Nat) (w : MW) (v0 : Nat) : Option MW :=
  (pV w 5 v0 4 (.int (2 : Int32))).bind fun w1 =>
  f_X5_readWord_5 fu fu w1 v0
def f_X5_isDigit (v0 : Int32) : Int32 :=
  if v0 < (48 : Int32) then
    (0 : Int32)
  else
    if (57 : Int32) < v0 then
      (0 : Int32)
    else
      (1 : Int32)
def f_X5_readNumber_94 (fu : Nat) (w : MW) (s0 : Nat) (s1 : Int32) : Option MW :=
  (pV w 5 s0 4 (.int s1)).bind fun w7 =>
  some w7
def f_X5_readNumber_75 (fu : Nat) (w : MW) (v0 : Nat) : Option MW :=
  (gI w 5 v0 3).bind fun x5 =>
  (gI w 5 v0 5).bind fun x6 =>
  if (x5 - x6) ≤ (4 : Int32) then
    f_X5_readNumber_94 fu w v0 (3 : Int32)
  else
    f_X5_readNumber_94 fu w v0 (1 : Int32)
def f_X5_readNumber_5 (fu : Nat) : Nat → MW → Nat → Option MW
  | 0, _, _ => none
  | n + 1, w, v0 =>
    (gI w 5 v0 3).bind fun x2 =>
    (gR w 5 v0 0).bind fun x3 =>
    (gI w 4 x3 1).bind fun x4 =>
    if x4 ≤ x2 then
      f_X5_readNumber_75 fu w v0
    else
      (gR w 5 v0 0).bind fun x8 =>
      (gI w 5 v0 3).bind fun x9 =>
      (cl w 4 x8 (f_X4_byteAt w x8 x9)).bind fun q10 =>
      if (f_X5_isDigit q10) = 0 then
        f_X5_readNumber_75 fu w v0
      else
        (gI w 5 v0 6).bind fun x13 =>
        (gR w 5 v0 0).bind fun x14 =>
        (gI w 5 v0 3).bind fun x15 =>
        (cl w 4 x14 (f_X4_byteAt w x14 x15)).bind fun q16 =>
        (pV w 5 v0 6 (.int (((x13 * (10 : Int32)) + q16) - (48 : Int32)))).bind fun w19 =>
        (gI w19 5 v0 3).bind fun x20 =>
        (pV w19 5 v0 3 (.int (x20 + (1 : Int32)))).bind fun w21 =>
        (f_X5_readNumber_5 fu n) w21 v0
def f_X5_readNumber (fu : Nat) (w : MW) (v0 : Nat) : Option MW :=
  (pV w 5 v0 6 (.int (0 : Int32))).bind fun w1 =>
  f_X5_readNumber_5 fu fu w1 v0
def f_X5_advance_123 (fu : Nat) (w : MW) (v0 : Nat) (s0 : Nat) (s1 : Int32) : Option MW :=
  (pV w 5 s0 4 (.int s1)).bind fun w12 =>
  (gI w12 5 v0 3).bind fun x13 =>
  (pV w12 5 v0 3 (.int (x13 + (1 : Int32)))).bind fun w14 =>
  some w14
def f_X5_advance_44 (fu : Nat) (w : MW) (v0 : Nat) : Option MW :=
  (gI w 5 v0 3).bind fun x4 =>
  (pV w 5 v0 5 (.int x4)).bind fun w5 =>
  (gR w5 5 v0 0).bind fun x6 =>
  (gI w5 5 v0 3).bind fun x7 =>
  (cl w5 4 x6 (f_X4_byteAt w5 x6 x7)).bind fun q8 =>
  bnd q8 fun x11 =>
  if x11 = (-1 : Int32) then
    (pV w5 5 v0 4 (.int (0 : Int32))).bind fun w21 =>
    some w21
  else
    if (f_X5_isLetter x11) = 0 then
      if (f_X5_isDigit x11) = 0 then
        if x11 = (45 : Int32) then
          f_X5_advance_123 fu w5 v0 v0 x11
        else
          if x11 = (59 : Int32) then
            f_X5_advance_123 fu w5 v0 v0 x11
          else
            f_X5_advance_123 fu w5 v0 v0 (1 : Int32)
      else
        (cl w5 5 v0 (f_X5_readNumber fu w5 v0)).bind fun q15 =>
        some q15
    else
      (cl w5 5 v0 (f_X5_readWord fu w5 v0)).bind fun q18 =>
      some q18
def f_X5_advance_0 (fu : Nat) : Nat → MW → Nat → Option MW
  | 0, _, _ => none
  | n + 1, w, v0 =>
    (gI w 5 v0 3).bind fun x1 =>
    (gR w 5 v0 0).bind fun x2 =>
    (gI w 4 x2 1).bind fun x3 =>
    if x3 ≤ x1 then
      f_X5_advance_44 fu w v0
    else
      (gR w 5 v0 0).bind fun x22 =>
      (gI w 5 v0 3).bind fun x23 =>
      (cl w 4 x22 (f_X4_byteAt w x22 x23)).bind fun q24 =>
      if (f_X5_isBlank q24) = 0 then
        f_X5_advance_44 fu w v0
      else
        (gI w 5 v0 3).bind fun x27 =>
        (pV w 5 v0 3 (.int (x27 + (1 : Int32)))).bind fun w28 =>
        (f_X5_advance_0 fu n) w28 v0
def f_X5_advance (fu : Nat) (w : MW) (v0 : Nat) : Option MW :=
  f_X5_advance_0 fu fu w v0
def f_X5_spells_62 (fu : Nat) (w : MW) (lr24 : Nat → Nat → Int32 → Int32 → Option Int32) (v0 : Nat) (v1 : Nat) (v3 : Int32) (s0 : Int32) : Option Int32 :=
  bnd s0 fun x15 =>
  bnd (v3 + 1) fun x16 =>
  lr24 v0 v1 x15 x16
def f_X5_spells_24 (fu : Nat) (w : MW) : Nat → Nat → Nat → Int32 → Int32 → Option Int32
  | 0, _, _, _, _ => none
  | n + 1, v0, v1, v2, v3 =>
    (stL v1).bind fun x6 =>
    if x6 ≤ v3 then
      (zr .boolean v2).bind fun x7 =>
      some x7
    else
      if v2 = 0 then
        (zr .boolean v2).bind fun x8 =>
        some x8
      else
        (gR w 5 v0 0).bind fun x9 =>
        (gI w 5 v0 5).bind fun x10 =>
        (cl w 4 x9 (f_X4_byteAt w x9 (x10 + v3))).bind fun q11 =>
        (stC v1 v3).bind fun x14 =>
        if q11 = x14 then
          f_X5_spells_62 fu w (f_X5_spells_24 fu w n) v0 v1 v3 (1 : Int32)
        else
          f_X5_spells_62 fu w (f_X5_spells_24 fu w n) v0 v1 v3 (0 : Int32)
def f_X5_spells (fu : Nat) (w : MW) (v0 : Nat) (v1 : Nat) : Option Int32 :=
  (gI w 5 v0 3).bind fun x1 =>
  (gI w 5 v0 5).bind fun x2 =>
  (stL v1).bind fun x3 =>
  if (x1 - x2) = x3 then
    bnd (1 : Int32) fun x17 =>
    bnd (0 : Int32) fun x18 =>
    f_X5_spells_24 fu w fu v0 v1 x17 x18
  else
    bnd (0 : Int32) fun x4 =>
    bnd (0 : Int32) fun x5 =>
    f_X5_spells_24 fu w fu v0 v1 x4 x5
def f_X5_lineHere (fu : Nat) (w : MW) (v0 : Nat) : Option Int32 :=
  (cl w 5 v0 (f_X5_spells fu w v0 10000)).bind fun q1 =>
  if q1 = 0 then
    (cl w 5 v0 (f_X5_spells fu w v0 10001)).bind fun q4 =>
    if q4 = 0 then
      (cl w 5 v0 (f_X5_spells fu w v0 10002)).bind fun q7 =>
      if q7 = 0 then
        (cl w 5 v0 (f_X5_spells fu w v0 10003)).bind fun q10 =>
        if q10 = 0 then
          (cl w 5 v0 (f_X5_spells fu w v0 10004)).bind fun q13 =>
          if q13 = 0 then
            (cl w 5 v0 (f_X5_spells fu w v0 10005)).bind fun q16 =>
            if q16 = 0 then
              (cl w 5 v0 (f_X5_spells fu w v0 10006)).bind fun q19 =>
              if q19 = 0 then
                some (-1 : Int32)
              else
                some (6 : Int32)
            else
              some (5 : Int32)
          else
            some (4 : Int32)
        else
          some (3 : Int32)
      else
        some (2 : Int32)
    else
      some (1 : Int32)
  else
    some (0 : Int32)
def f_X5_fail (w : MW) (v0 : Nat) (v1 : Int32) (v2 : Int32) : Option MW :=
  (gI w 5 v0 7).bind fun x1 =>
  if x1 = 0 then
    (pV w 5 v0 7 (.int v1)).bind fun w2 =>
    (pV w2 5 v0 8 (.int v2)).bind fun w3 =>
    some w3
  else
    some w
def f_X5_shapeOf (v0 : Int32) : Nat :=
  if v0 = 0 then
    10007
  else if v0 = 1 then
    10008
  else if v0 = 2 then
    10009
  else if v0 = 3 then
    10012
  else if v0 = 4 then
    10012
  else if v0 = 5 then
    10010
  else if v0 = 6 then
    10011
  else 
    10012
def f_X5_takeNumber_37 (fu : Nat) (w : MW) (v0 : Nat) : Option (Int32 × MW) :=
  (gI w 5 v0 7).bind fun x3 =>
  if x3 = 0 then
    (gI w 5 v0 6).bind fun x4 =>
    bnd x4 fun x5 =>
    (cl w 5 v0 (f_X5_advance fu w v0)).bind fun q6 =>
    some (x5, q6)
  else
    some ((0 : Int32), w)
def f_X5_takeNumber (fu : Nat) (w : MW) (v0 : Nat) (v1 : Int32) : Option (Int32 × MW) :=
  (gI w 5 v0 4).bind fun x1 =>
  if x1 = (3 : Int32) then
    (gI w 5 v0 6).bind fun x2 =>
    if x2 ≤ v1 then
      f_X5_takeNumber_37 fu w v0
    else
      (gI w 5 v0 5).bind fun x9 =>
      (cl w 5 v0 (f_X5_fail w v0 (2 : Int32) x9)).bind fun q10 =>
      f_X5_takeNumber_37 fu q10 v0
  else
    (gI w 5 v0 5).bind fun x13 =>
    (cl w 5 v0 (f_X5_fail w v0 (1 : Int32) x13)).bind fun q14 =>
    f_X5_takeNumber_37 fu q14 v0
def f_X5_takeArgument_44 (fu : Nat) (w : MW) (v2 : Int32) (s0 : Nat) (s1 : Int32) : Option (Int32 × MW) :=
  (cl w 5 s0 (f_X5_takeNumber fu w s0 s1)).bind fun q2 =>
  bnd q2.1 fun x5 =>
  if v2 = 0 then
    some (x5, q2.2)
  else
    some ((-x5), q2.2)
def f_X5_takeArgument_29 (fu : Nat) (w : MW) (v0 : Nat) (v1 : Int32) (v2 : Int32) : Option (Int32 × MW) :=
  if v1 = (115 : Int32) then
    f_X5_takeArgument_44 fu w v2 v0 (7 : Int32)
  else
    f_X5_takeArgument_44 fu w v2 v0 (9999 : Int32)
def f_X5_takeArgument_20 (fu : Nat) (w : MW) (v0 : Nat) (v1 : Int32) (s0 : Int32) : Option (Int32 × MW) :=
  bnd s0 fun x1 =>
  if x1 = 0 then
    f_X5_takeArgument_29 fu w v0 v1 x1
  else
    (cl w 5 v0 (f_X5_advance fu w v0)).bind fun q6 =>
    f_X5_takeArgument_29 fu q6 v0 v1 x1
def f_X5_takeArgument (fu : Nat) (w : MW) (v0 : Nat) (v1 : Int32) : Option (Int32 × MW) :=
  if v1 = (98 : Int32) then
    (gI w 5 v0 4).bind fun x9 =>
    if x9 = (45 : Int32) then
      f_X5_takeArgument_20 fu w v0 v1 (1 : Int32)
    else
      f_X5_takeArgument_20 fu w v0 v1 (0 : Int32)
  else
    f_X5_takeArgument_20 fu w v0 v1 (0 : Int32)
def f_X7_heapAt (w : MW) (v0 : Nat) (v1 : Int32) : Option (Option Nat) :=
  if v1 < 0 then
    some none
  else
    if (8 : Int32) ≤ v1 then
      some none
    else
      (gR w 7 v0 0).bind fun x1 =>
      (aRn w (.object RX0) x1 v1).bind fun x2 =>
      some (some x2)
def f_X10_isKey (v0 : Int32) : Int32 :=
  if v0 < 0 then
    (0 : Int32)
  else
    if (9999 : Int32) < v0 then
      (0 : Int32)
    else
      (1 : Int32)
def f_X7_total_4 (fu : Nat) (w : MW) : Nat → Nat → Int32 → Int32 → Option Int32
  | 0, _, _, _ => none
  | n + 1, v0, v1, v2 =>
    if (8 : Int32) ≤ v2 then
      some v1
    else
      (gR w 7 v0 0).bind fun x3 =>
      (aRn w (.object RX0) x3 v2).bind fun x4 =>
      (gI w 0 x4 1).bind fun x5 =>
      bnd (v1 + x5) fun x6 =>
      bnd (v2 + 1) fun x7 =>
      (f_X7_total_4 fu w n) v0 x6 x7
def f_X7_total (fu : Nat) (w : MW) (v0 : Nat) : Option Int32 :=
  bnd (0 : Int32) fun x1 =>
  bnd (0 : Int32) fun x2 =>
  f_X7_total_4 fu w fu v0 x1 x2
def f_X7_putKey (fu : Nat) (w : MW) (v0 : Nat) (v1 : Int32) (v2 : Int32) : Option (Int32 × MW) :=
  (cl w 7 v0 (f_X7_heapAt w v0 v1)).bind fun q1 =>
  match q1 with
  | none =>
    some ((-1 : Int32), w)
  | some b4 =>
    if (f_X10_isKey v2) = 0 then
      some ((-1 : Int32), w)
    else
      (cl w 0 b4 (f_X0_rankOf fu w b4 v2)).bind fun q5 =>
      if q5 = (-1 : Int32) then
        (gI w 0 b4 1).bind fun x8 =>
        if (60 : Int32) ≤ x8 then
          some ((-4 : Int32), w)
        else
          (cl w 7 v0 (f_X7_total fu w v0)).bind fun q9 =>
          if q9 < (240 : Int32) then
            (cl w 0 b4 (f_X0_insert fu w b4 v2)).bind fun q12 =>
            some (q12.1, q12.2)
          else
            some ((-4 : Int32), w)
      else
        some ((-2 : Int32), w)
def f_X5_putItem_95 (fu : Nat) (lr60 : MW → Nat → Int32 → Int32 → Int32 → Int32 → Option MW) (w : MW) (v0 : Nat) (v1 : Int32) (v2 : Int32) (v4 : Int32) (v5 : Int32) : Option MW :=
  bnd (v5 + 1) fun x15 =>
  lr60 w v0 v1 v2 v4 x15
def f_X5_putItem_60 (fu : Nat) : Nat → MW → Nat → Int32 → Int32 → Int32 → Int32 → Option MW
  | 0, _, _, _, _, _, _ => none
  | n + 1, w, v0, v1, v2, v4, v5 =>
    if v4 < v5 then
      some w
    else
      (gI w 5 v0 7).bind fun x10 =>
      if x10 = 0 then
        (gR w 5 v0 1).bind fun x11 =>
        (cl w 7 x11 (f_X7_putKey fu w x11 v1 v5)).bind fun q12 =>
        if q12.1 = (-4 : Int32) then
          (cl q12.2 5 v0 (f_X5_fail q12.2 v0 (3 : Int32) v2)).bind fun q16 =>
          f_X5_putItem_95 fu (f_X5_putItem_60 fu n) q16 v0 v1 v2 v4 v5
        else
          f_X5_putItem_95 fu (f_X5_putItem_60 fu n) q12.2 v0 v1 v2 v4 v5
      else
        some w
def f_X5_putItem (fu : Nat) (w : MW) (v0 : Nat) (v1 : Int32) : Option MW :=
  (gI w 5 v0 5).bind fun x1 =>
  bnd x1 fun x2 =>
  (cl w 5 v0 (f_X5_takeNumber fu w v0 (9999 : Int32))).bind fun q3 =>
  bnd q3.1 fun x6 =>
  bnd x6 fun x7 =>
  (gI q3.2 5 v0 4).bind fun x8 =>
  if x8 = (45 : Int32) then
    (cl q3.2 5 v0 (f_X5_advance fu q3.2 v0)).bind fun q19 =>
    (gI q19 5 v0 5).bind fun x22 =>
    bnd x22 fun x23 =>
    (cl q19 5 v0 (f_X5_takeNumber fu q19 v0 (9999 : Int32))).bind fun q24 =>
    bnd q24.1 fun x27 =>
    if x6 ≤ x27 then
      bnd x6 fun x28 =>
      f_X5_putItem_60 fu fu q24.2 v0 v1 x2 x27 x28
    else
      (cl q24.2 5 v0 (f_X5_fail q24.2 v0 (2 : Int32) x23)).bind fun q29 =>
      bnd x6 fun x32 =>
      f_X5_putItem_60 fu fu q29 v0 v1 x2 x27 x32
  else
    bnd x6 fun x9 =>
    f_X5_putItem_60 fu fu q3.2 v0 v1 x2 x7 x9
def f_X7_markStretch_42 (fu : Nat) (w : MW) (s0 : Nat) (s1 : Int32) (s2 : Int32) (s3 : Int32) : Option (Int32 × MW) :=
  (cl w 0 s0 (f_X0_markBetween fu w s0 s1 s2 s3)).bind fun q5 =>
  bnd q5.1 fun x8 =>
  if x8 = 0 then
    some ((-2 : Int32), q5.2)
  else
    some (x8, q5.2)
def f_X7_markStretch (fu : Nat) (w : MW) (v0 : Nat) (v1 : Int32) (v2 : Int32) (v3 : Int32) (v4 : Int32) : Option (Int32 × MW) :=
  (cl w 7 v0 (f_X7_heapAt w v0 v1)).bind fun q1 =>
  match q1 with
  | none =>
    some ((-1 : Int32), w)
  | some b4 =>
    if (f_X10_isKey v2) = 0 then
      some ((-1 : Int32), w)
    else
      if (f_X10_isKey v3) = 0 then
        some ((-1 : Int32), w)
      else
        if v4 = 0 then
          f_X7_markStretch_42 fu w b4 v2 v3 (0 : Int32)
        else
          f_X7_markStretch_42 fu w b4 v2 v3 (1 : Int32)
def f_X7_cutAbove (fu : Nat) (w : MW) (v0 : Nat) (v1 : Int32) (v2 : Int32) (v3 : Int32) : Option (Int32 × MW) :=
  (cl w 7 v0 (f_X7_heapAt w v0 v1)).bind fun q1 =>
  match q1 with
  | none =>
    (cl w 7 v0 (f_X7_heapAt w v0 v3)).bind fun q5 =>
    match q5 with
    | none =>
      some ((-1 : Int32), w)
    | some b8 =>
      some ((-1 : Int32), w)
  | some b4 =>
    (cl w 7 v0 (f_X7_heapAt w v0 v3)).bind fun q9 =>
    match q9 with
    | none =>
      some ((-1 : Int32), w)
    | some b12 =>
      if v1 = v3 then
        some ((-1 : Int32), w)
      else
        if (f_X10_isKey v2) = 0 then
          some ((-1 : Int32), w)
        else
          (cl w 0 b4 (f_X0_notAbove fu w b4 v2)).bind fun q13 =>
          bnd q13 fun x16 =>
          (gI w 0 b4 1).bind fun x17 =>
          bnd (x17 - x16) fun x18 =>
          if x18 = 0 then
            some ((-2 : Int32), w)
          else
            (gI w 0 b12 1).bind fun x19 =>
            if x19 ≤ 0 then
              (cl w 0 b4 (f_X0_giveStretch fu w b4 x16 x18 b12)).bind fun q20 =>
              some (x18, q20)
            else
              some ((-3 : Int32), w)
def f_X7_whyNotJoin_38 (w : MW) (v1 : Nat) (v2 : Nat) : Option Int32 :=
  (gI w 0 v1 1).bind fun x3 =>
  (gI w 0 v2 1).bind fun x4 =>
  if (x3 + x4) ≤ (60 : Int32) then
    some (0 : Int32)
  else
    some (-4 : Int32)
def f_X7_whyNotJoin (w : MW) (v0 : Nat) (v1 : Nat) (v2 : Nat) : Option Int32 :=
  (gI w 0 v2 1).bind fun x1 =>
  if x1 = 0 then
    some (-2 : Int32)
  else
    (gI w 0 v1 1).bind fun x2 =>
    if x2 ≤ 0 then
      f_X7_whyNotJoin_38 w v1 v2
    else
      (gI w 0 v1 1).bind fun x5 =>
      (cl w 0 v1 (f_X0_keyAt w v1 (x5 - (1 : Int32)))).bind fun q6 =>
      (cl w 0 v2 (f_X0_keyAt w v2 (0 : Int32))).bind fun q9 =>
      if q6 < q9 then
        f_X7_whyNotJoin_38 w v1 v2
      else
        some (-3 : Int32)
def f_X7_joinTo (fu : Nat) (w : MW) (v0 : Nat) (v1 : Int32) (v2 : Int32) : Option (Int32 × MW) :=
  (cl w 7 v0 (f_X7_heapAt w v0 v1)).bind fun q1 =>
  match q1 with
  | none =>
    (cl w 7 v0 (f_X7_heapAt w v0 v2)).bind fun q5 =>
    match q5 with
    | none =>
      some ((-1 : Int32), w)
    | some b8 =>
      some ((-1 : Int32), w)
  | some b4 =>
    (cl w 7 v0 (f_X7_heapAt w v0 v2)).bind fun q9 =>
    match q9 with
    | none =>
      some ((-1 : Int32), w)
    | some b12 =>
      if v1 = v2 then
        some ((-1 : Int32), w)
      else
        (cl w 7 v0 (f_X7_whyNotJoin w v0 b4 b12)).bind fun q13 =>
        bnd q13 fun x16 =>
        if x16 = 0 then
          (gI w 0 b12 1).bind fun x17 =>
          (cl w 0 b12 (f_X0_giveStretch fu w b12 (0 : Int32) x17 b4)).bind fun q18 =>
          (gI q18 0 b4 1).bind fun x21 =>
          some (x21, q18)
        else
          some (x16, w)
def f_X9_endRun_40 (fu : Nat) : Nat → MW → Nat → Int32 → Option MW
  | 0, _, _, _ => none
  | n + 1, w, v0, v2 =>
    if v2 ≤ (1 : Int32) then
      some w
    else
      (gI w 9 v0 2).bind fun x8 =>
      (pV w 9 v0 2 (.int (x8 + (1 : Int32)))).bind fun w9 =>
      bnd (v2 >>> ((1 : Int32) &&& 31)) fun x10 =>
      (f_X9_endRun_40 fu n) w9 v0 x10
def f_X9_endRun (fu : Nat) (w : MW) (v0 : Nat) (v1 : Int32) : Option MW :=
  if (1 : Int32) ≤ v1 then
    (gI w 9 v0 0).bind fun x1 =>
    (pV w 9 v0 0 (.int (x1 + (1 : Int32)))).bind fun w2 =>
    (gI w2 9 v0 3).bind fun x3 =>
    (pV w2 9 v0 3 (.int (imax x3 v1))).bind fun w4 =>
    (gI w4 9 v0 2).bind fun x5 =>
    (pV w4 9 v0 2 (.int (x5 + (1 : Int32)))).bind fun w6 =>
    bnd v1 fun x7 =>
    f_X9_endRun_40 fu fu w6 v0 x7
  else
    some w
def f_X9_weave_201 (fu : Nat) (lr47 : MW → Nat → Nat → Nat → Int32 → Int32 → Int32 → Int32 → Int32 → Option MW) (w : MW) (v0 : Nat) (v1 : Nat) (v2 : Nat) (v3 : Int32) (v4 : Int32) (v5 : Int32) (v6 : Int32) (s0 : Int32) (s1 : Int32) : Option MW :=
  bnd (s0 - s1) fun x32 =>
  lr47 w v0 v1 v2 v3 v4 v5 v6 x32
def f_X9_weave_186 (fu : Nat) (lr47 : MW → Nat → Nat → Nat → Int32 → Int32 → Int32 → Int32 → Int32 → Option MW) (w : MW) (v0 : Nat) (v1 : Nat) (v2 : Nat) (v3 : Int32) (v5 : Int32) (v6 : Int32) (v7 : Int32) (v8 : Int32) (s0 : Int32) (s1 : Int32) : Option MW :=
  bnd (s0 + s1) fun x31 =>
  if v8 = 0 then
    f_X9_weave_201 fu lr47 w v0 v1 v2 v3 x31 v5 v6 v7 (2 : Int32)
  else
    f_X9_weave_201 fu lr47 w v0 v1 v2 v3 x31 v5 v6 v7 (1 : Int32)
def f_X9_weave_172 (fu : Nat) (lr47 : MW → Nat → Nat → Nat → Int32 → Int32 → Int32 → Int32 → Int32 → Option MW) (w : MW) (v0 : Nat) (v1 : Nat) (v2 : Nat) (v4 : Int32) (v5 : Int32) (v6 : Int32) (v7 : Int32) (v8 : Int32) (s0 : Int32) (s1 : Int32) : Option MW :=
  bnd (s0 + s1) fun x30 =>
  if v8 < 0 then
    f_X9_weave_186 fu lr47 w v0 v1 v2 x30 v5 v6 v7 v8 v4 (0 : Int32)
  else
    f_X9_weave_186 fu lr47 w v0 v1 v2 x30 v5 v6 v7 v8 v4 (1 : Int32)
def f_X9_weave_157 (fu : Nat) (lr47 : MW → Nat → Nat → Nat → Int32 → Int32 → Int32 → Int32 → Int32 → Option MW) (w : MW) (v0 : Nat) (v1 : Nat) (v2 : Nat) (v3 : Int32) (v4 : Int32) (v5 : Int32) (v6 : Int32) (v7 : Int32) (v8 : Int32) (s0 : Nat) (s1 : Int32) (s2 : Int32) : Option MW :=
  (pV w 9 s0 1 (.int (s1 + s2))).bind fun w29 =>
  if 0 < v8 then
    f_X9_weave_172 fu lr47 w29 v0 v1 v2 v4 v5 v6 v7 v8 v3 (0 : Int32)
  else
    f_X9_weave_172 fu lr47 w29 v0 v1 v2 v4 v5 v6 v7 v8 v3 (1 : Int32)
def f_X9_weave_129 (fu : Nat) (lr47 : MW → Nat → Nat → Nat → Int32 → Int32 → Int32 → Int32 → Int32 → Option MW) (w : MW) (v0 : Nat) (v1 : Nat) (v2 : Nat) (v3 : Int32) (v4 : Int32) (v5 : Int32) (v6 : Int32) (v7 : Int32) (v8 : Int32) : Option MW :=
  bnd (v5 + 1) fun x25 =>
  (gI w 9 v0 4).bind fun x26 =>
  (pV w 9 v0 4 (.int (x26 + (1 : Int32)))).bind fun w27 =>
  (gI w27 9 v0 1).bind fun x28 =>
  if v8 = 0 then
    f_X9_weave_157 fu lr47 w27 v0 v1 v2 v3 v4 x25 v6 v7 v8 v0 x28 (1 : Int32)
  else
    f_X9_weave_157 fu lr47 w27 v0 v1 v2 v3 v4 x25 v6 v7 v8 v0 x28 (0 : Int32)
def f_X9_weave_105 (fu : Nat) (lr47 : MW → Nat → Nat → Nat → Int32 → Int32 → Int32 → Int32 → Int32 → Option MW) (w : MW) (v0 : Nat) (v1 : Nat) (v2 : Nat) (v3 : Int32) (v4 : Int32) (v5 : Int32) (v6 : Int32) (v7 : Int32) (v8 : Int32) (s0 : Int32) (s1 : Int32) : Option MW :=
  if s0 = s1 then
    f_X9_weave_129 fu lr47 w v0 v1 v2 v3 v4 v5 v6 v7 v8
  else
    (cl w 9 v0 (f_X9_endRun fu w v0 v5)).bind fun q33 =>
    bnd (0 : Int32) fun x36 =>
    if 0 < v8 then
      bnd (0 : Int32) fun x37 =>
      f_X9_weave_129 fu lr47 q33 v0 v1 v2 v3 v4 x36 x37 v7 v8
    else
      bnd (1 : Int32) fun x38 =>
      f_X9_weave_129 fu lr47 q33 v0 v1 v2 v3 v4 x36 x38 v7 v8
def f_X9_weave_91 (fu : Nat) (lr47 : MW → Nat → Nat → Nat → Int32 → Int32 → Int32 → Int32 → Int32 → Option MW) (w : MW) (v0 : Nat) (v1 : Nat) (v2 : Nat) (v3 : Int32) (v4 : Int32) (v5 : Int32) (v6 : Int32) (v7 : Int32) (s0 : Int32) : Option MW :=
  bnd s0 fun x24 =>
  if 0 < x24 then
    f_X9_weave_105 fu lr47 w v0 v1 v2 v3 v4 v5 v6 v7 x24 v6 (0 : Int32)
  else
    f_X9_weave_105 fu lr47 w v0 v1 v2 v3 v4 v5 v6 v7 x24 v6 (1 : Int32)
def f_X9_weave_47 (fu : Nat) : Nat → MW → Nat → Nat → Nat → Int32 → Int32 → Int32 → Int32 → Int32 → Option MW
  | 0, _, _, _, _, _, _, _, _, _ => none
  | n + 1, w, v0, v1, v2, v3, v4, v5, v6, v7 =>
    if v7 ≤ 0 then
      (cl w 9 v0 (f_X9_endRun fu w v0 v5)).bind fun q13 =>
      some q13
    else
      (gI w 0 v1 1).bind fun x16 =>
      if v3 < x16 then
        (gI w 0 v2 1).bind fun x17 =>
        if v4 < x17 then
          (cl w 0 v1 (f_X0_keyAt w v1 v3)).bind fun q18 =>
          (cl w 0 v2 (f_X0_keyAt w v2 v4)).bind fun q21 =>
          f_X9_weave_91 fu (f_X9_weave_47 fu n) w v0 v1 v2 v3 v4 v5 v6 v7 (f_J6_compare_7cf53 q18 q21)
        else
          f_X9_weave_91 fu (f_X9_weave_47 fu n) w v0 v1 v2 v3 v4 v5 v6 v7 (-1 : Int32)
      else
        f_X9_weave_91 fu (f_X9_weave_47 fu n) w v0 v1 v2 v3 v4 v5 v6 v7 (1 : Int32)
def f_X9_weave (fu : Nat) (w : MW) (v0 : Nat) (v1 : Nat) (v2 : Nat) : Option MW :=
  (pV w 9 v0 0 (.int (0 : Int32))).bind fun w1 =>
  (pV w1 9 v0 1 (.int (0 : Int32))).bind fun w2 =>
  (pV w2 9 v0 2 (.int (0 : Int32))).bind fun w3 =>
  (pV w3 9 v0 3 (.int (0 : Int32))).bind fun w4 =>
  (pV w4 9 v0 4 (.int (0 : Int32))).bind fun w5 =>
  bnd (0 : Int32) fun x6 =>
  bnd (0 : Int32) fun x7 =>
  bnd (0 : Int32) fun x8 =>
  bnd (1 : Int32) fun x9 =>
  (gI w5 0 v1 1).bind fun x10 =>
  (gI w5 0 v2 1).bind fun x11 =>
  bnd (x10 + x11) fun x12 =>
  f_X9_weave_47 fu fu w5 v0 v1 v2 x6 x7 x8 x9 x12
def f_X7_whyNotMelt (w : MW) (v0 : Nat) (v1 : Nat) (v2 : Nat) : Option Int32 :=
  (gI w 0 v1 1).bind fun x1 =>
  if x1 = 0 then
    some (-2 : Int32)
  else
    (gI w 9 v2 4).bind fun x2 =>
    if x2 ≤ (60 : Int32) then
      some (0 : Int32)
    else
      some (-4 : Int32)
def f_X7_meltTo (fu : Nat) (w : MW) (v0 : Nat) (v1 : Int32) (v2 : Int32) : Option (Int32 × MW) :=
  (cl w 7 v0 (f_X7_heapAt w v0 v1)).bind fun q1 =>
  match q1 with
  | none =>
    (cl w 7 v0 (f_X7_heapAt w v0 v2)).bind fun q5 =>
    match q5 with
    | none =>
      some ((-1 : Int32), w)
    | some b8 =>
      some ((-1 : Int32), w)
  | some b4 =>
    (cl w 7 v0 (f_X7_heapAt w v0 v2)).bind fun q9 =>
    match q9 with
    | none =>
      some ((-1 : Int32), w)
    | some b12 =>
      if v1 = v2 then
        some ((-1 : Int32), w)
      else
        (gR w 7 v0 2).bind fun x13 =>
        (cl w 9 x13 (f_X9_weave fu w x13 b4 b12)).bind fun q14 =>
        (gR q14 7 v0 2).bind fun x17 =>
        (cl q14 7 v0 (f_X7_whyNotMelt q14 v0 b12 x17)).bind fun q18 =>
        bnd q18 fun x21 =>
        if x21 = 0 then
          (gR q14 7 v0 2).bind fun x22 =>
          (gI q14 9 x22 4).bind fun x23 =>
          (cl q14 0 b4 (f_X0_absorb fu q14 b4 b12 x23)).bind fun q24 =>
          (gR q24 7 v0 2).bind fun x27 =>
          (gI q24 9 x27 2).bind fun x28 =>
          some (x28, q24)
        else
          some (x21, q14)
def f_X7_shiftBy (fu : Nat) (w : MW) (v0 : Nat) (v1 : Int32) (v2 : Int32) : Option (Int32 × MW) :=
  (cl w 7 v0 (f_X7_heapAt w v0 v1)).bind fun q1 =>
  match q1 with
  | none =>
    some ((-1 : Int32), w)
  | some b4 =>
    if v2 < (-9999 : Int32) then
      some ((-1 : Int32), w)
    else
      if v2 ≤ (9999 : Int32) then
        if v2 = 0 then
          some ((-2 : Int32), w)
        else
          (gI w 0 b4 1).bind fun x5 =>
          if x5 = 0 then
            some ((-2 : Int32), w)
          else
            (cl w 0 b4 (f_X0_keyAt w b4 (0 : Int32))).bind fun q6 =>
            if (f_X10_isKey (q6 + v2)) = 0 then
              some ((-3 : Int32), w)
            else
              (gI w 0 b4 1).bind fun x9 =>
              (cl w 0 b4 (f_X0_keyAt w b4 (x9 - (1 : Int32)))).bind fun q10 =>
              if (f_X10_isKey (q10 + v2)) = 0 then
                some ((-3 : Int32), w)
              else
                (cl w 0 b4 (f_X0_shiftAll fu w b4 v2)).bind fun q13 =>
                (gI q13 0 b4 1).bind fun x16 =>
                some (x16, q13)
      else
        some ((-1 : Int32), w)
def f_X7_moveStretch (fu : Nat) (w : MW) (v0 : Nat) (v1 : Int32) (v2 : Int32) (v3 : Int32) (v4 : Int32) : Option (Int32 × MW) :=
  (cl w 7 v0 (f_X7_heapAt w v0 v1)).bind fun q1 =>
  match q1 with
  | none =>
    (cl w 7 v0 (f_X7_heapAt w v0 v4)).bind fun q5 =>
    match q5 with
    | none =>
      some ((-1 : Int32), w)
    | some b8 =>
      some ((-1 : Int32), w)
  | some b4 =>
    (cl w 7 v0 (f_X7_heapAt w v0 v4)).bind fun q9 =>
    match q9 with
    | none =>
      some ((-1 : Int32), w)
    | some b12 =>
      if v1 = v4 then
        some ((-1 : Int32), w)
      else
        if (f_X10_isKey v2) = 0 then
          some ((-1 : Int32), w)
        else
          if (f_X10_isKey v3) = 0 then
            some ((-1 : Int32), w)
          else
            (cl w 0 b4 (f_X0_howManyBetween fu w b4 v2 v3)).bind fun q13 =>
            bnd q13 fun x16 =>
            if x16 = 0 then
              some ((-2 : Int32), w)
            else
              (cl w 0 b4 (f_X0_below fu w b4 v2)).bind fun q17 =>
              bnd q17 fun x20 =>
              (cl w 0 b4 (f_X0_keyAt w b4 x20)).bind fun q21 =>
              (cl w 0 b4 (f_X0_keyAt w b4 ((x20 + x16) - (1 : Int32)))).bind fun q24 =>
              (cl w 0 b12 (f_X0_howManyBetween fu w b12 q21 q24)).bind fun q27 =>
              if q27 ≤ 0 then
                (gI w 0 b12 1).bind fun x30 =>
                if (x30 + x16) ≤ (60 : Int32) then
                  (cl w 0 b4 (f_X0_giveStretch fu w b4 x20 x16 b12)).bind fun q31 =>
                  some (x16, q31)
                else
                  some ((-4 : Int32), w)
              else
                some ((-3 : Int32), w)
def f_X5_act (fu : Nat) (w : MW) (v0 : Nat) (v1 : Int32) : Option (Int32 × MW) :=
  if v1 = 1 then
    (gR w 5 v0 1).bind fun x2 =>
    (gR w 5 v0 2).bind fun x3 =>
    (aI w .int x3 (0 : Int32)).bind fun x4 =>
    (gR w 5 v0 2).bind fun x5 =>
    (aI w .int x5 (1 : Int32)).bind fun x6 =>
    (gR w 5 v0 2).bind fun x7 =>
    (aI w .int x7 (2 : Int32)).bind fun x8 =>
    (cl w 7 x2 (f_X7_markStretch fu w x2 x4 x6 x8 (1 : Int32))).bind fun q9 =>
    some (q9.1, q9.2)
  else if v1 = 2 then
    (gR w 5 v0 1).bind fun x13 =>
    (gR w 5 v0 2).bind fun x14 =>
    (aI w .int x14 (0 : Int32)).bind fun x15 =>
    (gR w 5 v0 2).bind fun x16 =>
    (aI w .int x16 (1 : Int32)).bind fun x17 =>
    (gR w 5 v0 2).bind fun x18 =>
    (aI w .int x18 (2 : Int32)).bind fun x19 =>
    (cl w 7 x13 (f_X7_cutAbove fu w x13 x15 x17 x19)).bind fun q20 =>
    some (q20.1, q20.2)
  else if v1 = 3 then
    (gR w 5 v0 1).bind fun x24 =>
    (gR w 5 v0 2).bind fun x25 =>
    (aI w .int x25 (0 : Int32)).bind fun x26 =>
    (gR w 5 v0 2).bind fun x27 =>
    (aI w .int x27 (1 : Int32)).bind fun x28 =>
    (cl w 7 x24 (f_X7_joinTo fu w x24 x26 x28)).bind fun q29 =>
    some (q29.1, q29.2)
  else if v1 = 4 then
    (gR w 5 v0 1).bind fun x33 =>
    (gR w 5 v0 2).bind fun x34 =>
    (aI w .int x34 (0 : Int32)).bind fun x35 =>
    (gR w 5 v0 2).bind fun x36 =>
    (aI w .int x36 (1 : Int32)).bind fun x37 =>
    (cl w 7 x33 (f_X7_meltTo fu w x33 x35 x37)).bind fun q38 =>
    some (q38.1, q38.2)
  else if v1 = 5 then
    (gR w 5 v0 1).bind fun x42 =>
    (gR w 5 v0 2).bind fun x43 =>
    (aI w .int x43 (0 : Int32)).bind fun x44 =>
    (gR w 5 v0 2).bind fun x45 =>
    (aI w .int x45 (1 : Int32)).bind fun x46 =>
    (cl w 7 x42 (f_X7_shiftBy fu w x42 x44 x46)).bind fun q47 =>
    some (q47.1, q47.2)
  else if v1 = 6 then
    (gR w 5 v0 1).bind fun x51 =>
    (gR w 5 v0 2).bind fun x52 =>
    (aI w .int x52 (0 : Int32)).bind fun x53 =>
    (gR w 5 v0 2).bind fun x54 =>
    (aI w .int x54 (1 : Int32)).bind fun x55 =>
    (gR w 5 v0 2).bind fun x56 =>
    (aI w .int x56 (2 : Int32)).bind fun x57 =>
    (gR w 5 v0 2).bind fun x58 =>
    (aI w .int x58 (3 : Int32)).bind fun x59 =>
    (cl w 7 x51 (f_X7_moveStretch fu w x51 x53 x55 x57 x59)).bind fun q60 =>
    some (q60.1, q60.2)
  else 
    some ((0 : Int32), w)
def f_X5_doLine_176 (fu : Nat) (w : MW) (v0 : Nat) : Option MW :=
  (cl w 5 v0 (f_X5_advance fu w v0)).bind fun q13 =>
  some q13
def f_X5_doLine_155 (fu : Nat) (w : MW) (v0 : Nat) (v1 : Int32) (v2 : Int32) : Option MW :=
  (gI w 5 v0 7).bind fun x12 =>
  if x12 = 0 then
    (cl w 5 v0 (f_X5_act fu w v0 v2)).bind fun q16 =>
    if 0 ≤ q16.1 then
      f_X5_doLine_176 fu q16.2 v0
    else
      (cl q16.2 5 v0 (f_X5_fail q16.2 v0 (4 : Int32) v1)).bind fun q19 =>
      f_X5_doLine_176 fu q19 v0
  else
    f_X5_doLine_176 fu w v0
def f_X5_doLine_137 (fu : Nat) (w : MW) (v0 : Nat) (v1 : Int32) (v2 : Int32) : Option MW :=
  (gI w 5 v0 4).bind fun x11 =>
  if x11 = (59 : Int32) then
    f_X5_doLine_155 fu w v0 v1 v2
  else
    (gI w 5 v0 5).bind fun x22 =>
    (cl w 5 v0 (f_X5_fail w v0 (1 : Int32) x22)).bind fun q23 =>
    f_X5_doLine_155 fu q23 v0 v1 v2
def f_X5_doLine_94 (fu : Nat) : Nat → MW → Nat → Int32 → Int32 → Int32 → Option MW
  | 0, _, _, _, _, _ => none
  | n + 1, w, v0, v1, v2, v4 =>
    if (800 : Int32) ≤ v4 then
      f_X5_doLine_137 fu w v0 v1 v2
    else
      if v2 = 0 then
        (gI w 5 v0 7).bind fun x26 =>
        if x26 = 0 then
          (gI w 5 v0 4).bind fun x27 =>
          if x27 = (3 : Int32) then
            (gR w 5 v0 2).bind fun x28 =>
            (aI w .int x28 (0 : Int32)).bind fun x29 =>
            (cl w 5 v0 (f_X5_putItem fu w v0 x29)).bind fun q30 =>
            bnd (v4 + 1) fun x33 =>
            (f_X5_doLine_94 fu n) q30 v0 v1 v2 x33
          else
            f_X5_doLine_137 fu w v0 v1 v2
        else
          f_X5_doLine_137 fu w v0 v1 v2
      else
        f_X5_doLine_137 fu w v0 v1 v2
def f_X5_doLine_49 (fu : Nat) : Nat → MW → Nat → Int32 → Int32 → Nat → Int32 → Option MW
  | 0, _, _, _, _, _, _ => none
  | n + 1, w, v0, v1, v2, v3, v4 =>
    (stL v3).bind fun x9 =>
    if x9 ≤ v4 then
      bnd (0 : Int32) fun x10 =>
      f_X5_doLine_94 fu fu w v0 v1 v2 x10
    else
      (gR w 5 v0 2).bind fun x34 =>
      (aL w .int x34).bind fun x35 =>
      if x35 ≤ v4 then
        bnd (0 : Int32) fun x36 =>
        f_X5_doLine_94 fu fu w v0 v1 v2 x36
      else
        (gR w 5 v0 2).bind fun x37 =>
        (stC v3 v4).bind fun x38 =>
        (cl w 5 v0 (f_X5_takeArgument fu w v0 x38)).bind fun q39 =>
        (sI q39.2 .int x37 v4 q39.1).bind fun w42 =>
        bnd (v4 + 1) fun x43 =>
        (f_X5_doLine_49 fu n) w42 v0 v1 v2 v3 x43
def f_X5_doLine_21 (fu : Nat) (w : MW) (v0 : Nat) (v1 : Int32) (s0 : Int32) : Option MW :=
  bnd s0 fun x4 =>
  if x4 = (-1 : Int32) then
    (gI w 5 v0 5).bind fun x44 =>
    (cl w 5 v0 (f_X5_fail w v0 (1 : Int32) x44)).bind fun q45 =>
    some q45
  else
    (cl w 5 v0 (f_X5_advance fu w v0)).bind fun q5 =>
    bnd (0 : Int32) fun x8 =>
    f_X5_doLine_49 fu fu q5 v0 v1 x4 (f_X5_shapeOf x4) x8
def f_X5_doLine (fu : Nat) (w : MW) (v0 : Nat) : Option MW :=
  (gI w 5 v0 5).bind fun x1 =>
  bnd x1 fun x2 =>
  (gI w 5 v0 4).bind fun x3 =>
  if x3 = (2 : Int32) then
    (cl w 5 v0 (f_X5_lineHere fu w v0)).bind fun q48 =>
    f_X5_doLine_21 fu w v0 x2 q48
  else
    f_X5_doLine_21 fu w v0 x2 (-1 : Int32)
def f_X5_perform_21 (fu : Nat) : Nat → MW → Nat → Int32 → Option MW
  | 0, _, _, _ => none
  | n + 1, w, v0, v1 =>
    if (800 : Int32) ≤ v1 then
      some w
    else
      (gI w 5 v0 7).bind fun x8 =>
      if x8 = 0 then
        (gI w 5 v0 4).bind fun x9 =>
        if x9 = 0 then
          some w
        else
          (cl w 5 v0 (f_X5_doLine fu w v0)).bind fun q10 =>
          bnd (v1 + 1) fun x13 =>
          (f_X5_perform_21 fu n) q10 v0 x13
      else
        some w
def f_X5_perform (fu : Nat) (w : MW) (v0 : Nat) : Option MW :=
  (pV w 5 v0 3 (.int (0 : Int32))).bind fun w1 =>
  (pV w1 5 v0 7 (.int (0 : Int32))).bind fun w2 =>
  (pV w2 5 v0 8 (.int (-1 : Int32))).bind fun w3 =>
  (cl w3 5 v0 (f_X5_advance fu w3 v0)).bind fun q4 =>
  bnd (0 : Int32) fun x7 =>
  f_X5_perform_21 fu fu q4 v0 x7
noncomputable def f_X8_init (w0 : MW) (v0 : Nat) : Option MW :=
  (nwC w0.length w0 [.ref v0, .ref v0] (.inl (.int, 61, .inl (fun _ => 0)))).bind fun w1 =>
  (pV w1 8 v0 0 (.ref w0.length)).bind fun w2 =>
  (nwC w0.length w2 [.ref v0, .ref v0] (.inl (.int, 61, .inl (fun _ => 0)))).bind fun w3 =>
  (pV w3 8 v0 1 (.ref w2.length)).bind fun w4 =>
  (nwC w0.length w4 [.ref v0, .ref v0] (.inl (.int, 61, .inl (fun _ => 0)))).bind fun w5 =>
  (pV w5 8 v0 2 (.ref w4.length)).bind fun w6 =>
  (nwC w0.length w6 [.ref v0, .ref v0] (.inl (.int, 61, .inl (fun _ => 0)))).bind fun w7 =>
  (pV w7 8 v0 3 (.ref w6.length)).bind fun w8 =>
  (nwC w0.length w8 [.ref v0, .ref v0] (.inl (.int, 61, .inl (fun _ => 0)))).bind fun w9 =>
  (pV w9 8 v0 4 (.ref w8.length)).bind fun w10 =>
  (nwC w0.length w10 [.ref v0, .ref v0] (.inl (.int, 61, .inl (fun _ => 0)))).bind fun w11 =>
  (pV w11 8 v0 5 (.ref w10.length)).bind fun w12 =>
  (nwC w0.length w12 [.ref v0, .ref v0] (.inl (.int, 61, .inl (fun _ => 0)))).bind fun w13 =>
  (pV w13 8 v0 6 (.ref w12.length)).bind fun w14 =>
  (pV w14 8 v0 7 (.int (0 : Int32))).bind fun w15 =>
  (pV w15 8 v0 8 (.int (-1 : Int32))).bind fun w16 =>
  some w16
def f_X9_init (w : MW) (v0 : Nat) : Option MW :=
  some w
noncomputable def f_X7_init (w0 : MW) (v0 : Nat) : Option MW :=
  (nwC w0.length w0 [.ref v0, .ref v0] (.inl (.object RX0, 8, .inr (.inr (.inr (.inr (fun _ => none))))))).bind fun w1 =>
  (pV w1 7 v0 0 (.ref w0.length)).bind fun w2 =>
  (nwC w0.length w2 [.ref v0, .ref v0] (.inr (8, [.null, .null, .null, .null, .null, .null, .null, .int 0, .int 0]))).bind fun w3 =>
  (clA w0.length w3 8 w2.length [.ref v0, .ref w2.length, .ref v0] (f_X8_init w3 w2.length)).bind fun q4 =>
  (pV q4 7 v0 1 (.ref w2.length)).bind fun w7 =>
  (nwC w0.length w7 [.ref v0, .ref v0] (.inr (9, [.int 0, .int 0, .int 0, .int 0, .int 0]))).bind fun w8 =>
  (cl w8 9 w7.length (f_X9_init w8 w7.length)).bind fun q9 =>
  (pV q9 7 v0 2 (.ref w7.length)).bind fun w12 =>
  (nwC w0.length w12 [.ref v0, .ref v0] (.inl (.int, 8, .inl (fun _ => 0)))).bind fun w13 =>
  (pV w13 7 v0 4 (.ref w12.length)).bind fun w14 =>
  (pV w14 7 v0 5 (.int (-1 : Int32))).bind fun w15 =>
  (pV w15 7 v0 6 (.int (-1 : Int32))).bind fun w16 =>
  (pV w16 7 v0 7 (.int (-1 : Int32))).bind fun w17 =>
  (gR w17 7 v0 0).bind fun x18 =>
  (nwC w0.length w17 [.int (0 : Int32), .ref v0, .int (0 : Int32), .ref x18] (.inr (0, [.null, .int 0, .int 0]))).bind fun w19 =>
  (clA w0.length w19 0 w17.length [.int (0 : Int32), .ref v0, .ref w17.length, .int (0 : Int32), .ref x18] (f_X0_init w19 w17.length)).bind fun q20 =>
  (sR q20 RX0 0 x18 (0 : Int32) w17.length).bind fun w23 =>
  (gR w23 7 v0 0).bind fun x24 =>
  (nwC w0.length w23 [.int (1 : Int32), .ref v0, .int (1 : Int32), .ref x24] (.inr (0, [.null, .int 0, .int 0]))).bind fun w25 =>
  (clA w0.length w25 0 w23.length [.int (1 : Int32), .ref v0, .ref w23.length, .int (1 : Int32), .ref x24] (f_X0_init w25 w23.length)).bind fun q26 =>
  (sR q26 RX0 0 x24 (1 : Int32) w23.length).bind fun w29 =>
  (gR w29 7 v0 0).bind fun x30 =>
  (nwC w0.length w29 [.int (2 : Int32), .ref v0, .int (2 : Int32), .ref x30] (.inr (0, [.null, .int 0, .int 0]))).bind fun w31 =>
  (clA w0.length w31 0 w29.length [.int (2 : Int32), .ref v0, .ref w29.length, .int (2 : Int32), .ref x30] (f_X0_init w31 w29.length)).bind fun q32 =>
  (sR q32 RX0 0 x30 (2 : Int32) w29.length).bind fun w35 =>
  (gR w35 7 v0 0).bind fun x36 =>
  (nwC w0.length w35 [.int (3 : Int32), .ref v0, .int (3 : Int32), .ref x36] (.inr (0, [.null, .int 0, .int 0]))).bind fun w37 =>
  (clA w0.length w37 0 w35.length [.int (3 : Int32), .ref v0, .ref w35.length, .int (3 : Int32), .ref x36] (f_X0_init w37 w35.length)).bind fun q38 =>
  (sR q38 RX0 0 x36 (3 : Int32) w35.length).bind fun w41 =>
  (gR w41 7 v0 0).bind fun x42 =>
  (nwC w0.length w41 [.int (4 : Int32), .ref v0, .int (4 : Int32), .ref x42] (.inr (0, [.null, .int 0, .int 0]))).bind fun w43 =>
  (clA w0.length w43 0 w41.length [.int (4 : Int32), .ref v0, .ref w41.length, .int (4 : Int32), .ref x42] (f_X0_init w43 w41.length)).bind fun q44 =>
  (sR q44 RX0 0 x42 (4 : Int32) w41.length).bind fun w47 =>
  (gR w47 7 v0 0).bind fun x48 =>
  (nwC w0.length w47 [.int (5 : Int32), .ref v0, .int (5 : Int32), .ref x48] (.inr (0, [.null, .int 0, .int 0]))).bind fun w49 =>
  (clA w0.length w49 0 w47.length [.int (5 : Int32), .ref v0, .ref w47.length, .int (5 : Int32), .ref x48] (f_X0_init w49 w47.length)).bind fun q50 =>
  (sR q50 RX0 0 x48 (5 : Int32) w47.length).bind fun w53 =>
  (gR w53 7 v0 0).bind fun x54 =>
  (nwC w0.length w53 [.int (6 : Int32), .ref v0, .int (6 : Int32), .ref x54] (.inr (0, [.null, .int 0, .int 0]))).bind fun w55 =>
  (clA w0.length w55 0 w53.length [.int (6 : Int32), .ref v0, .ref w53.length, .int (6 : Int32), .ref x54] (f_X0_init w55 w53.length)).bind fun q56 =>
  (sR q56 RX0 0 x54 (6 : Int32) w53.length).bind fun w59 =>
  (gR w59 7 v0 0).bind fun x60 =>
  (nwC w0.length w59 [.int (7 : Int32), .ref v0, .int (7 : Int32), .ref x60] (.inr (0, [.null, .int 0, .int 0]))).bind fun w61 =>
  (clA w0.length w61 0 w59.length [.int (7 : Int32), .ref v0, .ref w59.length, .int (7 : Int32), .ref x60] (f_X0_init w61 w59.length)).bind fun q62 =>
  (sR q62 RX0 0 x60 (7 : Int32) w59.length).bind fun w65 =>
  (nwC w0.length w65 [.int (8 : Int32), .ref v0, .ref v0] (.inr (2, [.null, .null]))).bind fun w66 =>
  (gR w66 7 v0 0).bind fun x67 =>
  (clA w0.length w66 2 w65.length [.int (8 : Int32), .ref v0, .ref w65.length, .ref v0] (f_X2_init w66 w65.length x67)).bind fun q68 =>
  (pV q68 7 v0 3 (.ref w65.length)).bind fun w71 =>
  some w71
def f_X7_empty_2 (fu : Nat) : Nat → MW → Nat → Int32 → Option MW
  | 0, _, _, _ => none
  | n + 1, w, v0, v1 =>
    if (8 : Int32) ≤ v1 then
      some w
    else
      (gR w 7 v0 0).bind fun x2 =>
      (aRn w (.object RX0) x2 v1).bind fun x3 =>
      (cl w 0 x3 (f_X0_empty w x3)).bind fun q4 =>
      bnd (v1 + 1) fun x7 =>
      (f_X7_empty_2 fu n) q4 v0 x7
def f_X7_empty (fu : Nat) (w : MW) (v0 : Nat) : Option MW :=
  bnd (0 : Int32) fun x1 =>
  f_X7_empty_2 fu fu w v0 x1
def f_X8_addKey (w : MW) (v0 : Nat) (v1 : Int32) : Option MW :=
  (gI w 8 v0 7).bind fun x1 =>
  if x1 < 0 then
    some w
  else
    (gI w 8 v0 7).bind fun x2 =>
    if (61 : Int32) ≤ x2 then
      some w
    else
      (gR w 8 v0 0).bind fun x3 =>
      (gI w 8 v0 7).bind fun x4 =>
      (sI w .int x3 x4 v1).bind fun w5 =>
      (gI w5 8 v0 7).bind fun x6 =>
      (pV w5 8 v0 7 (.int (x6 + (1 : Int32)))).bind fun w7 =>
      some w7
def f_X10_priority (v0 : Int32) : Int32 :=
  (((v0 * (40503 : Int32)) + (9973 : Int32)) &&& (65535 : Int32))
def f_X8_link_159 (fu : Nat) (w : MW) (s0 : Nat) (s1 : Int32) : Option MW :=
  (pV w 8 s0 8 (.int s1)).bind fun w5 =>
  some w5
def f_X8_link_125 (fu : Nat) (lr4 : MW → Nat → Int32 → Int32 → Option MW) (w : MW) (v0 : Nat) (v1 : Int32) (v2 : Int32) : Option MW :=
  (gR w 8 v0 6).bind fun x15 =>
  (sI w .int x15 v1 v2).bind fun w16 =>
  bnd (v1 + 1) fun x17 =>
  bnd (v2 + 1) fun x18 =>
  lr4 w16 v0 x17 x18
def f_X8_link_107 (fu : Nat) (lr4 : MW → Nat → Int32 → Int32 → Option MW) (w : MW) (v0 : Nat) (v1 : Int32) (v2 : Int32) : Option MW :=
  if v1 ≤ 0 then
    f_X8_link_125 fu lr4 w v0 v1 v2
  else
    (gR w 8 v0 3).bind fun x19 =>
    (gR w 8 v0 6).bind fun x20 =>
    (aI w .int x20 (v1 - (1 : Int32))).bind fun x21 =>
    (sI w .int x19 x21 v2).bind fun w22 =>
    f_X8_link_125 fu lr4 w22 v0 v1 v2
def f_X8_link_94 (fu : Nat) (lr4 : MW → Nat → Int32 → Int32 → Option MW) (w : MW) (v0 : Nat) (v1 : Int32) (v2 : Int32) (v3 : Int32) (s0 : Nat) (s1 : Int32) (s2 : Int32) : Option MW :=
  (sI w .int s0 s1 s2).bind fun w14 =>
  if v3 = (-1 : Int32) then
    f_X8_link_107 fu lr4 w14 v0 v1 v2
  else
    (gR w14 8 v0 1).bind fun x23 =>
    (sI w14 .int x23 v3 v2).bind fun w24 =>
    f_X8_link_107 fu lr4 w24 v0 v1 v2
def f_X8_link_59 (fu : Nat) (lr4 : MW → Nat → Int32 → Int32 → Option MW) (w : MW) (v0 : Nat) (v1 : Int32) (v2 : Int32) (v3 : Int32) : Option MW :=
  (gR w 8 v0 2).bind fun x9 =>
  (sI w .int x9 v2 v3).bind fun w10 =>
  (gR w10 8 v0 3).bind fun x11 =>
  (sI w10 .int x11 v2 (-1 : Int32)).bind fun w12 =>
  (gR w12 8 v0 1).bind fun x13 =>
  if v1 ≤ 0 then
    f_X8_link_94 fu lr4 w12 v0 v1 v2 v3 x13 v2 (-1 : Int32)
  else
    (gR w12 8 v0 6).bind fun x25 =>
    (aI w12 .int x25 (v1 - (1 : Int32))).bind fun x26 =>
    f_X8_link_94 fu lr4 w12 v0 v1 v2 v3 x13 v2 x26
def f_X8_link_14 (fu : Nat) (lr4 : MW → Nat → Int32 → Int32 → Option MW) : Nat → MW → Nat → Int32 → Int32 → Int32 → Option MW
  | 0, _, _, _, _, _ => none
  | n + 1, w, v0, v1, v2, v3 =>
    if v1 ≤ 0 then
      f_X8_link_59 fu lr4 w v0 v1 v2 v3
    else
      (gR w 8 v0 0).bind fun x27 =>
      (gR w 8 v0 6).bind fun x28 =>
      (aI w .int x28 (v1 - (1 : Int32))).bind fun x29 =>
      (aI w .int x27 x29).bind fun x30 =>
      (gR w 8 v0 0).bind fun x31 =>
      (aI w .int x31 v2).bind fun x32 =>
      if (f_X10_priority x32) ≤ (f_X10_priority x30) then
        f_X8_link_59 fu lr4 w v0 v1 v2 v3
      else
        bnd (v1 + (-1)) fun x33 =>
        (gR w 8 v0 6).bind fun x34 =>
        (aI w .int x34 x33).bind fun x35 =>
        bnd x35 fun x36 =>
        (f_X8_link_14 fu lr4 n) w v0 x33 v2 x36
def f_X8_link_4 (fu : Nat) : Nat → MW → Nat → Int32 → Int32 → Option MW
  | 0, _, _, _, _ => none
  | n + 1, w, v0, v1, v2 =>
    (gI w 8 v0 7).bind fun x3 =>
    if x3 ≤ v2 then
      (gI w 8 v0 7).bind fun x4 =>
      if x4 ≤ 0 then
        f_X8_link_159 fu w v0 (-1 : Int32)
      else
        (gR w 8 v0 6).bind fun x6 =>
        (aI w .int x6 (0 : Int32)).bind fun x7 =>
        f_X8_link_159 fu w v0 x7
    else
      bnd (-1 : Int32) fun x8 =>
      f_X8_link_14 fu (f_X8_link_4 fu n) fu w v0 v1 v2 x8
def f_X8_link (fu : Nat) (w : MW) (v0 : Nat) : Option MW :=
  bnd (0 : Int32) fun x1 =>
  bnd (0 : Int32) fun x2 =>
  f_X8_link_4 fu fu w v0 x1 x2
def f_X8_climb_95 (fu : Nat) (lr32 : MW → Nat → Int32 → Option MW) (w : MW) (v0 : Nat) (v1 : Int32) : Option MW :=
  bnd (v1 + 1) fun x10 =>
  lr32 w v0 x10
def f_X8_climb_49 (fu : Nat) (lr32 : MW → Nat → Int32 → Option MW) : Nat → MW → Nat → Int32 → Int32 → Int32 → Option MW
  | 0, _, _, _, _, _ => none
  | n + 1, w, v0, v1, v2, v3 =>
    (gI w 8 v0 7).bind fun x9 =>
    if x9 ≤ v3 then
      f_X8_climb_95 fu lr32 w v0 v1
    else
      if v2 = (-1 : Int32) then
        f_X8_climb_95 fu lr32 w v0 v1
      else
        (gR w 8 v0 4).bind fun x11 =>
        (aI w .int x11 v1).bind fun x12 =>
        (sI w .int x11 v1 (x12 + (1 : Int32))).bind fun w13 =>
        (gR w13 8 v0 5).bind fun x14 =>
        (aI w13 .int x14 v2).bind fun x15 =>
        (sI w13 .int x14 v2 (x15 + (1 : Int32))).bind fun w16 =>
        (gR w16 8 v0 1).bind fun x17 =>
        (aI w16 .int x17 v2).bind fun x18 =>
        bnd x18 fun x19 =>
        bnd (v3 + 1) fun x20 =>
        (f_X8_climb_49 fu lr32 n) w16 v0 v1 x19 x20
def f_X8_climb_32 (fu : Nat) : Nat → MW → Nat → Int32 → Option MW
  | 0, _, _, _ => none
  | n + 1, w, v0, v1 =>
    (gI w 8 v0 7).bind fun x4 =>
    if x4 ≤ v1 then
      some w
    else
      (gR w 8 v0 1).bind fun x5 =>
      (aI w .int x5 v1).bind fun x6 =>
      bnd x6 fun x7 =>
      bnd (0 : Int32) fun x8 =>
      f_X8_climb_49 fu (f_X8_climb_32 fu n) fu w v0 v1 x7 x8
def f_X8_climb_2 (fu : Nat) : Nat → MW → Nat → Int32 → Option MW
  | 0, _, _, _ => none
  | n + 1, w, v0, v1 =>
    (gI w 8 v0 7).bind fun x2 =>
    if x2 ≤ v1 then
      bnd (0 : Int32) fun x3 =>
      f_X8_climb_32 fu fu w v0 x3
    else
      (gR w 8 v0 4).bind fun x21 =>
      (sI w .int x21 v1 (0 : Int32)).bind fun w22 =>
      (gR w22 8 v0 5).bind fun x23 =>
      (sI w22 .int x23 v1 (0 : Int32)).bind fun w24 =>
      bnd (v1 + 1) fun x25 =>
      (f_X8_climb_2 fu n) w24 v0 x25
def f_X8_climb (fu : Nat) (w : MW) (v0 : Nat) : Option MW :=
  bnd (0 : Int32) fun x1 =>
  f_X8_climb_2 fu fu w v0 x1
def f_X8_grow_84 (fu : Nat) (w : MW) (v0 : Nat) : Option MW :=
  (cl w 8 v0 (f_X8_link fu w v0)).bind fun q5 =>
  (cl q5 8 v0 (f_X8_climb fu q5 v0)).bind fun q8 =>
  some q8
def f_X8_grow_68 (fu : Nat) (lr20 : MW → Nat → Nat → Int32 → Int32 → Int32 → Int32 → Option MW) (w : MW) (v0 : Nat) (v1 : Nat) (v2 : Int32) (v3 : Int32) (v4 : Int32) (v5 : Int32) : Option MW :=
  bnd (v5 + 1) fun x18 =>
  lr20 w v0 v1 v2 v3 v4 x18
def f_X8_grow_56 (fu : Nat) (lr20 : MW → Nat → Nat → Int32 → Int32 → Int32 → Int32 → Option MW) (w : MW) (v0 : Nat) (v1 : Nat) (v2 : Int32) (v3 : Int32) (v4 : Int32) (v5 : Int32) (v6 : Int32) : Option MW :=
  if v6 = v3 then
    f_X8_grow_68 fu lr20 w v0 v1 v2 v3 v4 v5
  else
    (cl w 8 v0 (f_X8_addKey w v0 v6)).bind fun q19 =>
    f_X8_grow_68 fu lr20 q19 v0 v1 v2 v3 v4 v5
def f_X8_grow_20 (fu : Nat) : Nat → MW → Nat → Nat → Int32 → Int32 → Int32 → Int32 → Option MW
  | 0, _, _, _, _, _, _, _ => none
  | n + 1, w, v0, v1, v2, v3, v4, v5 =>
    (gI w 0 v1 1).bind fun x4 =>
    if x4 ≤ v5 then
      if v4 = 0 then
        f_X8_grow_84 fu w v0
      else
        (cl w 8 v0 (f_X8_addKey w v0 v2)).bind fun q11 =>
        f_X8_grow_84 fu q11 v0
    else
      (cl w 0 v1 (f_X0_keyAt w v1 v5)).bind fun q14 =>
      bnd q14 fun x17 =>
      if v4 = 0 then
        f_X8_grow_56 fu (f_X8_grow_20 fu n) w v0 v1 v2 v3 v4 v5 x17
      else
        if x17 ≤ v2 then
          f_X8_grow_56 fu (f_X8_grow_20 fu n) w v0 v1 v2 v3 v4 v5 x17
        else
          (cl w 8 v0 (f_X8_addKey w v0 v2)).bind fun q22 =>
          bnd (0 : Int32) fun x25 =>
          f_X8_grow_56 fu (f_X8_grow_20 fu n) q22 v0 v1 v2 v3 x25 v5 x17
def f_X8_grow (fu : Nat) (w : MW) (v0 : Nat) (v1 : Nat) (v2 : Int32) (v3 : Int32) : Option MW :=
  (pV w 8 v0 7 (.int (0 : Int32))).bind fun w1 =>
  if v2 = (-1 : Int32) then
    bnd (0 : Int32) fun x2 =>
    bnd (0 : Int32) fun x3 =>
    f_X8_grow_20 fu fu w1 v0 v1 v2 v3 x2 x3
  else
    bnd (1 : Int32) fun x26 =>
    bnd (0 : Int32) fun x27 =>
    f_X8_grow_20 fu fu w1 v0 v1 v2 v3 x26 x27
def f_X7_treeOf (fu : Nat) (w : MW) (v0 : Nat) (v1 : Nat) : Option (Nat × MW) :=
  (gR w 7 v0 1).bind fun x1 =>
  (cl w 8 x1 (f_X8_grow fu w x1 v1 (-1 : Int32) (-1 : Int32))).bind fun q2 =>
  (gR q2 7 v0 1).bind fun x5 =>
  some (x5, q2)
def f_X7_weaveOf (fu : Nat) (w : MW) (v0 : Nat) (v1 : Nat) (v2 : Nat) : Option (Nat × MW) :=
  (gR w 7 v0 2).bind fun x1 =>
  (cl w 9 x1 (f_X9_weave fu w x1 v1 v2)).bind fun q2 =>
  (gR q2 7 v0 2).bind fun x5 =>
  some (x5, q2)
def f_X7_dropKey (fu : Nat) (w : MW) (v0 : Nat) (v1 : Int32) (v2 : Int32) : Option (Int32 × MW) :=
  (cl w 7 v0 (f_X7_heapAt w v0 v1)).bind fun q1 =>
  match q1 with
  | none =>
    some ((-1 : Int32), w)
  | some b4 =>
    if (f_X10_isKey v2) = 0 then
      some ((-1 : Int32), w)
    else
      (cl w 0 b4 (f_X0_rankOf fu w b4 v2)).bind fun q5 =>
      bnd q5 fun x8 =>
      if x8 = (-1 : Int32) then
        some ((-2 : Int32), w)
      else
        (cl w 0 b4 (f_X0_closeGap w b4 x8 (1 : Int32))).bind fun q9 =>
        (gI q9 0 b4 1).bind fun x12 =>
        some (x12, q9)
def f_X8_isNode (w : MW) (v0 : Nat) (v1 : Int32) : Option Int32 :=
  if v1 < 0 then
    some (0 : Int32)
  else
    (gI w 8 v0 7).bind fun x1 =>
    if x1 ≤ v1 then
      some (0 : Int32)
    else
      some (1 : Int32)
def f_X8_steps_39 (fu : Nat) (w : MW) : Nat → Nat → Int32 → Int32 → Int32 → Int32 → Int32 → Option Int32
  | 0, _, _, _, _, _, _ => none
  | n + 1, v0, v1, v2, v3, v4, v5 =>
    if v4 < v5 then
      (gR w 8 v0 4).bind fun x12 =>
      (aI w .int x12 v1).bind fun x13 =>
      (gR w 8 v0 4).bind fun x14 =>
      (aI w .int x14 v2).bind fun x15 =>
      some ((x13 + x15) - ((2 : Int32) * v3))
    else
      (gR w 8 v0 4).bind fun x16 =>
      (aI w .int x16 v5).bind fun x17 =>
      bnd (imin v3 x17) fun x18 =>
      bnd (v5 + 1) fun x19 =>
      (f_X8_steps_39 fu w n) v0 v1 v2 x18 v4 x19
def f_X8_steps (fu : Nat) (w : MW) (v0 : Nat) (v1 : Int32) (v2 : Int32) : Option Int32 :=
  (cl w 8 v0 (f_X8_isNode w v0 v1)).bind fun q1 =>
  if q1 = 0 then
    some (-1 : Int32)
  else
    (cl w 8 v0 (f_X8_isNode w v0 v2)).bind fun q4 =>
    if q4 = 0 then
      some (-1 : Int32)
    else
      (gR w 8 v0 4).bind fun x7 =>
      (aI w .int x7 v1).bind fun x8 =>
      bnd x8 fun x9 =>
      bnd (imax v1 v2) fun x10 =>
      bnd (imin v1 v2) fun x11 =>
      f_X8_steps_39 fu w fu v0 v1 v2 x9 x10 x11
def f_X7_seekFrom_72 (fu : Nat) (w : MW) (v3 : Nat) (v4 : Int32) (s0 : Int32) : Option (Int32 × MW) :=
  bnd s0 fun x21 =>
  (cl w 0 v3 (f_X0_keyAt w v3 v4)).bind fun q22 =>
  (pV w 0 v3 2 (.int q22)).bind fun w25 =>
  some (x21, w25)
def f_X7_seekFrom (fu : Nat) (w : MW) (v0 : Nat) (v1 : Int32) (v2 : Int32) : Option (Int32 × MW) :=
  (cl w 7 v0 (f_X7_heapAt w v0 v1)).bind fun q1 =>
  match q1 with
  | none =>
    some ((-1 : Int32), w)
  | some b4 =>
    if (f_X10_isKey v2) = 0 then
      some ((-1 : Int32), w)
    else
      (gI w 0 b4 1).bind fun x5 =>
      if x5 = 0 then
        some ((-2 : Int32), w)
      else
        (cl w 0 b4 (f_X0_notAbove fu w b4 v2)).bind fun q6 =>
        bnd (imax (0 : Int32) (q6 - (1 : Int32))) fun x9 =>
        (gI w 0 b4 2).bind fun x10 =>
        if x10 = (-1 : Int32) then
          f_X7_seekFrom_72 fu w b4 x9 (0 : Int32)
        else
          (cl w 7 v0 (f_X7_treeOf fu w v0 b4)).bind fun q11 =>
          (gI q11.2 0 b4 2).bind fun x14 =>
          (cl q11.2 0 b4 (f_X0_rankOf fu q11.2 b4 x14)).bind fun q15 =>
          (cl q11.2 8 q11.1 (f_X8_steps fu q11.2 q11.1 q15 x9)).bind fun q18 =>
          f_X7_seekFrom_72 fu q11.2 b4 x9 q18
def f_X7_notEmpty_28 (fu : Nat) (w : MW) (lr4 : Nat → Int32 → Int32 → Option Int32) (v0 : Nat) (v2 : Int32) (s0 : Int32) (s1 : Int32) : Option Int32 :=
  bnd (s0 + s1) fun x6 =>
  bnd (v2 + 1) fun x7 =>
  lr4 v0 x6 x7
def f_X7_notEmpty_4 (fu : Nat) (w : MW) : Nat → Nat → Int32 → Int32 → Option Int32
  | 0, _, _, _ => none
  | n + 1, v0, v1, v2 =>
    if (8 : Int32) ≤ v2 then
      some v1
    else
      (gR w 7 v0 0).bind fun x3 =>
      (aRn w (.object RX0) x3 v2).bind fun x4 =>
      (gI w 0 x4 1).bind fun x5 =>
      if x5 ≤ 0 then
        f_X7_notEmpty_28 fu w (f_X7_notEmpty_4 fu w n) v0 v2 v1 (0 : Int32)
      else
        f_X7_notEmpty_28 fu w (f_X7_notEmpty_4 fu w n) v0 v2 v1 (1 : Int32)
def f_X7_notEmpty (fu : Nat) (w : MW) (v0 : Nat) : Option Int32 :=
  bnd (0 : Int32) fun x1 =>
  bnd (0 : Int32) fun x2 =>
  f_X7_notEmpty_4 fu w fu v0 x1 x2
def f_X7_allMarked_4 (fu : Nat) (w : MW) : Nat → Nat → Int32 → Int32 → Option Int32
  | 0, _, _, _ => none
  | n + 1, v0, v1, v2 =>
    if (8 : Int32) ≤ v2 then
      some v1
    else
      (gR w 7 v0 0).bind fun x3 =>
      (aRn w (.object RX0) x3 v2).bind fun x4 =>
      (cl w 0 x4 (f_X0_markedBetween fu w x4 (0 : Int32) (9999 : Int32))).bind fun q5 =>
      bnd (v1 + q5) fun x8 =>
      bnd (v2 + 1) fun x9 =>
      (f_X7_allMarked_4 fu w n) v0 x8 x9
def f_X7_allMarked (fu : Nat) (w : MW) (v0 : Nat) : Option Int32 :=
  bnd (0 : Int32) fun x1 =>
  bnd (0 : Int32) fun x2 =>
  f_X7_allMarked_4 fu w fu v0 x1 x2
def f_X7_unlike_46 (fu : Nat) (lr19 : MW → Nat → Int32 → Int32 → Int32 → Int32 → Option (Int32 × MW)) (w : MW) (v0 : Nat) (v1 : Int32) (v4 : Int32) (v5 : Int32) (s0 : Int32) (s1 : Int32) : Option (Int32 × MW) :=
  bnd (s0 + s1) fun x17 =>
  bnd v5 fun x18 =>
  bnd (v4 + 1) fun x19 =>
  lr19 w v0 v1 x17 x18 x19
def f_X7_unlike_19 (fu : Nat) : Nat → MW → Nat → Int32 → Int32 → Int32 → Int32 → Option (Int32 × MW)
  | 0, _, _, _, _, _, _ => none
  | n + 1, w, v0, v1, v2, v3, v4 =>
    if v1 ≤ v4 then
      some (v2, w)
    else
      (gR w 7 v0 3).bind fun x12 =>
      (cl w 2 x12 (f_X2_next fu w x12)).bind fun q13 =>
      bnd q13.1 fun x16 =>
      if x16 = v3 then
        f_X7_unlike_46 fu (f_X7_unlike_19 fu n) q13.2 v0 v1 v4 x16 v2 (0 : Int32)
      else
        f_X7_unlike_46 fu (f_X7_unlike_19 fu n) q13.2 v0 v1 v4 x16 v2 (1 : Int32)
def f_X7_unlike (fu : Nat) (w : MW) (v0 : Nat) : Option (Int32 × MW) :=
  (cl w 7 v0 (f_X7_total fu w v0)).bind fun q1 =>
  bnd q1 fun x4 =>
  bnd (0 : Int32) fun x5 =>
  bnd (-1 : Int32) fun x6 =>
  (gR w 7 v0 3).bind fun x7 =>
  (cl w 2 x7 (f_X2_begin fu w x7)).bind fun q8 =>
  bnd (0 : Int32) fun x11 =>
  f_X7_unlike_19 fu fu q8 v0 x4 x5 x6 x11
def f_X7_lightest_46 (fu : Nat) (w : MW) (lr4 : Nat → Int32 → Int32 → Int32 → Option Int32) (v0 : Nat) (v1 : Int32) (v2 : Int32) (v3 : Int32) : Option Int32 :=
  bnd (v3 + 1) fun x3 =>
  lr4 v0 v1 v2 x3
def f_X7_lightest_4 (fu : Nat) (w : MW) : Nat → Nat → Int32 → Int32 → Int32 → Option Int32
  | 0, _, _, _, _ => none
  | n + 1, v0, v1, v2, v3 =>
    if (8 : Int32) ≤ v3 then
      some v2
    else
      if v3 = v1 then
        f_X7_lightest_46 fu w (f_X7_lightest_4 fu w n) v0 v1 v2 v3
      else
        (gR w 7 v0 4).bind fun x4 =>
        (aI w .int x4 v3).bind fun x5 =>
        if x5 ≤ 0 then
          f_X7_lightest_46 fu w (f_X7_lightest_4 fu w n) v0 v1 v2 v3
        else
          if v2 = (-1 : Int32) then
            bnd v3 fun x6 =>
            f_X7_lightest_46 fu w (f_X7_lightest_4 fu w n) v0 v1 x6 v3
          else
            (gR w 7 v0 4).bind fun x7 =>
            (aI w .int x7 v3).bind fun x8 =>
            (gR w 7 v0 4).bind fun x9 =>
            (aI w .int x9 v2).bind fun x10 =>
            if x10 ≤ x8 then
              f_X7_lightest_46 fu w (f_X7_lightest_4 fu w n) v0 v1 v2 v3
            else
              bnd v3 fun x11 =>
              f_X7_lightest_46 fu w (f_X7_lightest_4 fu w n) v0 v1 x11 v3
def f_X7_lightest (fu : Nat) (w : MW) (v0 : Nat) (v1 : Int32) : Option Int32 :=
  bnd (-1 : Int32) fun x1 =>
  bnd (0 : Int32) fun x2 =>
  f_X7_lightest_4 fu w fu v0 v1 x1 x2
def f_X7_huffman_36 (fu : Nat) : Nat → MW → Nat → Int32 → Int32 → Option (Int32 × MW)
  | 0, _, _, _, _ => none
  | n + 1, w, v0, v1, v2 =>
    if v2 ≤ (1 : Int32) then
      some (v1, w)
    else
      (cl w 7 v0 (f_X7_lightest fu w v0 (-1 : Int32))).bind fun q7 =>
      bnd q7 fun x10 =>
      (cl w 7 v0 (f_X7_lightest fu w v0 x10)).bind fun q11 =>
      bnd q11 fun x14 =>
      if x10 = (-1 : Int32) then
        some (v1, w)
      else
        if x14 = (-1 : Int32) then
          some (v1, w)
        else
          (gR w 7 v0 4).bind fun x15 =>
          (aI w .int x15 x10).bind fun x16 =>
          (gR w 7 v0 4).bind fun x17 =>
          (aI w .int x17 x14).bind fun x18 =>
          bnd (x16 + x18) fun x19 =>
          (gR w 7 v0 4).bind fun x20 =>
          (sI w .int x20 (imax x10 x14) (0 : Int32)).bind fun w21 =>
          (gR w21 7 v0 4).bind fun x22 =>
          (sI w21 .int x22 (imin x10 x14) x19).bind fun w23 =>
          bnd (v1 + x19) fun x24 =>
          bnd (v2 + (-1)) fun x25 =>
          (f_X7_huffman_36 fu n) w23 v0 x24 x25
def f_X7_huffman_2 (fu : Nat) : Nat → MW → Nat → Int32 → Option (Int32 × MW)
  | 0, _, _, _ => none
  | n + 1, w, v0, v1 =>
    if (8 : Int32) ≤ v1 then
      bnd (0 : Int32) fun x2 =>
      (cl w 7 v0 (f_X7_notEmpty fu w v0)).bind fun q3 =>
      bnd q3 fun x6 =>
      f_X7_huffman_36 fu fu w v0 x2 x6
    else
      (gR w 7 v0 4).bind fun x26 =>
      (gR w 7 v0 0).bind fun x27 =>
      (aRn w (.object RX0) x27 v1).bind fun x28 =>
      (gI w 0 x28 1).bind fun x29 =>
      (sI w .int x26 v1 x29).bind fun w30 =>
      bnd (v1 + 1) fun x31 =>
      (f_X7_huffman_2 fu n) w30 v0 x31
def f_X7_huffman (fu : Nat) (w : MW) (v0 : Nat) : Option (Int32 × MW) :=
  bnd (0 : Int32) fun x1 =>
  f_X7_huffman_2 fu fu w v0 x1
def f_X7_takeIfCheaper_27 (w : MW) (v0 : Nat) (v1 : Int32) (v2 : Int32) (s0 : Int32) : Option MW :=
  bnd s0 fun x2 =>
  if x2 = 0 then
    some w
  else
    (gR w 7 v0 0).bind fun x3 =>
    (aRn w (.object RX0) x3 v2).bind fun x4 =>
    (gR w 7 v0 2).bind fun x5 =>
    (cl w 7 v0 (f_X7_whyNotMelt w v0 x4 x5)).bind fun q6 =>
    if q6 = 0 then
      (pV w 7 v0 5 (.int v1)).bind fun w9 =>
      (pV w9 7 v0 6 (.int v2)).bind fun w10 =>
      (gR w10 7 v0 2).bind fun x11 =>
      (gI w10 9 x11 2).bind fun x12 =>
      (pV w10 7 v0 7 (.int x12)).bind fun w13 =>
      some w13
    else
      some w
def f_X7_takeIfCheaper (w : MW) (v0 : Nat) (v1 : Int32) (v2 : Int32) : Option MW :=
  (gI w 7 v0 7).bind fun x1 =>
  if x1 = (-1 : Int32) then
    f_X7_takeIfCheaper_27 w v0 v1 v2 (1 : Int32)
  else
    (gR w 7 v0 2).bind fun x14 =>
    (gI w 9 x14 2).bind fun x15 =>
    (gI w 7 v0 7).bind fun x16 =>
    if x16 ≤ x15 then
      f_X7_takeIfCheaper_27 w v0 v1 v2 (0 : Int32)
    else
      f_X7_takeIfCheaper_27 w v0 v1 v2 (1 : Int32)
def f_X7_findCheapest_82 (fu : Nat) (lr17 : MW → Nat → Int32 → Option MW) (lr27 : MW → Nat → Int32 → Int32 → Option MW) (w : MW) (v0 : Nat) (v1 : Int32) (v2 : Int32) : Option MW :=
  bnd (v2 + 1) fun x10 =>
  lr27 w v0 v1 x10
def f_X7_findCheapest_27 (fu : Nat) (lr17 : MW → Nat → Int32 → Option MW) : Nat → MW → Nat → Int32 → Int32 → Option MW
  | 0, _, _, _, _ => none
  | n + 1, w, v0, v1, v2 =>
    if (8 : Int32) ≤ v2 then
      bnd (v1 + 1) fun x6 =>
      lr17 w v0 x6
    else
      (gR w 7 v0 0).bind fun x7 =>
      (aRn w (.object RX0) x7 v1).bind fun x8 =>
      (gI w 0 x8 1).bind fun x9 =>
      if x9 ≤ 0 then
        f_X7_findCheapest_82 fu lr17 (f_X7_findCheapest_27 fu lr17 n) w v0 v1 v2
      else
        (gR w 7 v0 0).bind fun x11 =>
        (aRn w (.object RX0) x11 v2).bind fun x12 =>
        (gI w 0 x12 1).bind fun x13 =>
        if x13 ≤ 0 then
          f_X7_findCheapest_82 fu lr17 (f_X7_findCheapest_27 fu lr17 n) w v0 v1 v2
        else
          (gR w 7 v0 2).bind fun x14 =>
          (gR w 7 v0 0).bind fun x15 =>
          (aRn w (.object RX0) x15 v1).bind fun x16 =>
          (gR w 7 v0 0).bind fun x17 =>
          (aRn w (.object RX0) x17 v2).bind fun x18 =>
          (cl w 9 x14 (f_X9_weave fu w x14 x16 x18)).bind fun q19 =>
          (cl q19 7 v0 (f_X7_takeIfCheaper q19 v0 v1 v2)).bind fun q22 =>
          f_X7_findCheapest_82 fu lr17 (f_X7_findCheapest_27 fu lr17 n) q22 v0 v1 v2
def f_X7_findCheapest_17 (fu : Nat) : Nat → MW → Nat → Int32 → Option MW
  | 0, _, _, _ => none
  | n + 1, w, v0, v1 =>
    if (8 : Int32) ≤ v1 then
      some w
    else
      bnd (v1 + (1 : Int32)) fun x5 =>
      f_X7_findCheapest_27 fu (f_X7_findCheapest_17 fu n) fu w v0 v1 x5
def f_X7_findCheapest (fu : Nat) (w : MW) (v0 : Nat) : Option MW :=
  (pV w 7 v0 5 (.int (-1 : Int32))).bind fun w1 =>
  (pV w1 7 v0 6 (.int (-1 : Int32))).bind fun w2 =>
  (pV w2 7 v0 7 (.int (-1 : Int32))).bind fun w3 =>
  bnd (0 : Int32) fun x4 =>
  f_X7_findCheapest_17 fu fu w3 v0 x4
def f_X8_keyOf (w : MW) (v0 : Nat) (v1 : Int32) : Option Int32 :=
  (cl w 8 v0 (f_X8_isNode w v0 v1)).bind fun q1 =>
  if q1 = 0 then
    some (-1 : Int32)
  else
    (gR w 8 v0 0).bind fun x4 =>
    (aI w .int x4 v1).bind fun x5 =>
    some x5
def f_X8_rootKey (w : MW) (v0 : Nat) : Option Int32 :=
  (gI w 8 v0 8).bind fun x1 =>
  (cl w 8 v0 (f_X8_keyOf w v0 x1)).bind fun q2 =>
  some q2
def f_X8_depthAt (w : MW) (v0 : Nat) (v1 : Int32) : Option Int32 :=
  (cl w 8 v0 (f_X8_isNode w v0 v1)).bind fun q1 =>
  if q1 = 0 then
    some (-1 : Int32)
  else
    (gR w 8 v0 4).bind fun x4 =>
    (aI w .int x4 v1).bind fun x5 =>
    some x5
def f_X8_keyAbove (w : MW) (v0 : Nat) (v1 : Int32) : Option Int32 :=
  (cl w 8 v0 (f_X8_isNode w v0 v1)).bind fun q1 =>
  if q1 = 0 then
    some (-1 : Int32)
  else
    (gR w 8 v0 1).bind fun x4 =>
    (aI w .int x4 v1).bind fun x5 =>
    (cl w 8 v0 (f_X8_keyOf w v0 x5)).bind fun q6 =>
    some q6
def f_X8_keyAtLeft (w : MW) (v0 : Nat) (v1 : Int32) : Option Int32 :=
  (cl w 8 v0 (f_X8_isNode w v0 v1)).bind fun q1 =>
  if q1 = 0 then
    some (-1 : Int32)
  else
    (gR w 8 v0 2).bind fun x4 =>
    (aI w .int x4 v1).bind fun x5 =>
    (cl w 8 v0 (f_X8_keyOf w v0 x5)).bind fun q6 =>
    some q6
def f_X8_keyAtRight (w : MW) (v0 : Nat) (v1 : Int32) : Option Int32 :=
  (cl w 8 v0 (f_X8_isNode w v0 v1)).bind fun q1 =>
  if q1 = 0 then
    some (-1 : Int32)
  else
    (gR w 8 v0 3).bind fun x4 =>
    (aI w .int x4 v1).bind fun x5 =>
    (cl w 8 v0 (f_X8_keyOf w v0 x5)).bind fun q6 =>
    some q6
def f_X8_howManyBelow (w : MW) (v0 : Nat) (v1 : Int32) : Option Int32 :=
  (cl w 8 v0 (f_X8_isNode w v0 v1)).bind fun q1 =>
  if q1 = 0 then
    some (-1 : Int32)
  else
    (gR w 8 v0 5).bind fun x4 =>
    (aI w .int x4 v1).bind fun x5 =>
    some x5
def f_X8_high_4 (fu : Nat) (w : MW) : Nat → Nat → Int32 → Int32 → Option Int32
  | 0, _, _, _ => none
  | n + 1, v0, v1, v2 =>
    (gI w 8 v0 7).bind fun x3 =>
    if x3 ≤ v2 then
      some v1
    else
      (gR w 8 v0 4).bind fun x4 =>
      (aI w .int x4 v2).bind fun x5 =>
      bnd (imax v1 (x5 + (1 : Int32))) fun x6 =>
      bnd (v2 + 1) fun x7 =>
      (f_X8_high_4 fu w n) v0 x6 x7
def f_X8_high (fu : Nat) (w : MW) (v0 : Nat) : Option Int32 :=
  bnd (0 : Int32) fun x1 =>
  bnd (0 : Int32) fun x2 =>
  f_X8_high_4 fu w fu v0 x1 x2
def f_X8_allDepths_4 (fu : Nat) (w : MW) : Nat → Nat → Int32 → Int32 → Option Int32
  | 0, _, _, _ => none
  | n + 1, v0, v1, v2 =>
    (gI w 8 v0 7).bind fun x3 =>
    if x3 ≤ v2 then
      some v1
    else
      (gR w 8 v0 4).bind fun x4 =>
      (aI w .int x4 v2).bind fun x5 =>
      bnd (v1 + x5) fun x6 =>
      bnd (v2 + 1) fun x7 =>
      (f_X8_allDepths_4 fu w n) v0 x6 x7
def f_X8_allDepths (fu : Nat) (w : MW) (v0 : Nat) : Option Int32 :=
  bnd (0 : Int32) fun x1 =>
  bnd (0 : Int32) fun x2 =>
  f_X8_allDepths_4 fu w fu v0 x1 x2
noncomputable def f_X10_init (w0 : MW) (v0 : Nat) : Option MW :=
  (nwC w0.length w0 [.ref v0, .ref v0] (.inr (7, [.null, .null, .null, .null, .null, .int 0, .int 0, .int 0]))).bind fun w1 =>
  (clA w0.length w1 7 w0.length [.ref v0, .ref w0.length, .ref v0] (f_X7_init w1 w0.length)).bind fun q2 =>
  (pV q2 10 v0 0 (.ref w0.length)).bind fun w5 =>
  (nwC w0.length w5 [.ref v0, .ref v0] (.inr (3, [.null, .int 0, .int 0]))).bind fun w6 =>
  (clA w0.length w6 3 w5.length [.ref v0, .ref w5.length, .ref v0] (f_X3_init w6 w5.length)).bind fun q7 =>
  (pV q7 10 v0 1 (.ref w5.length)).bind fun w10 =>
  (nwC w0.length w10 [.ref v0, .ref v0] (.inr (4, [.null, .int 0]))).bind fun w11 =>
  (nwC w0.length w11 [.ref v0, .ref w10.length, .ref w10.length, .ref v0] (.inl (.byte, 800, .inl (fun _ => 0)))).bind fun w12 =>
  (cl w12 4 w10.length (f_X4_init w12 w10.length w11.length)).bind fun q13 =>
  (pV q13 10 v0 2 (.ref w10.length)).bind fun w16 =>
  (nwC w0.length w16 [.ref v0, .ref v0] (.inr (4, [.null, .int 0]))).bind fun w17 =>
  (nwC w0.length w17 [.ref v0, .ref w16.length, .ref w16.length, .ref v0] (.inl (.byte, 360, .inl (fun _ => 0)))).bind fun w18 =>
  (cl w18 4 w16.length (f_X4_init w18 w16.length w17.length)).bind fun q19 =>
  (pV q19 10 v0 3 (.ref w16.length)).bind fun w22 =>
  (nwC w0.length w22 [.ref v0, .ref v0] (.inr (5, [.null, .null, .null, .int 0, .int 0, .int 0, .int 0, .int 0, .int 0]))).bind fun w23 =>
  (gR w23 10 v0 2).bind fun x24 =>
  (gR w23 10 v0 0).bind fun x25 =>
  (clA w0.length w23 5 w22.length [.ref v0, .ref w22.length, .ref v0] (f_X5_init w23 w22.length x24 x25)).bind fun q26 =>
  (pV q26 10 v0 4 (.ref w22.length)).bind fun w29 =>
  (nwC w0.length w29 [.ref v0, .ref v0] (.inr (6, [.null, .null, .null]))).bind fun w30 =>
  (clA w0.length w30 6 w29.length [.ref v0, .ref w29.length, .ref v0] (f_X6_init w30 w29.length)).bind fun q31 =>
  (pV q31 10 v0 5 (.ref w29.length)).bind fun w34 =>
  (nwC w0.length w34 [.ref v0, .ref v0] (.inl (.object RX1, 3, .inr (.inr (.inr (.inr (fun _ => none))))))).bind fun w35 =>
  (pV w35 10 v0 6 (.ref w34.length)).bind fun w36 =>
  (gR w36 10 v0 6).bind fun x37 =>
  (nwC w0.length w36 [.int (0 : Int32), .ref v0, .int (0 : Int32), .ref x37] (.inr (1, [.null, .null, .null, .int 0, .int 0, .int 0]))).bind fun w38 =>
  (clA w0.length w38 1 w36.length [.int (0 : Int32), .ref v0, .ref w36.length, .int (0 : Int32), .ref x37] (f_X1_init w38 w36.length)).bind fun q39 =>
  (sR q39 RX1 1 x37 (0 : Int32) w36.length).bind fun w42 =>
  (gR w42 10 v0 6).bind fun x43 =>
  (nwC w0.length w42 [.int (1 : Int32), .ref v0, .int (1 : Int32), .ref x43] (.inr (1, [.null, .null, .null, .int 0, .int 0, .int 0]))).bind fun w44 =>
  (clA w0.length w44 1 w42.length [.int (1 : Int32), .ref v0, .ref w42.length, .int (1 : Int32), .ref x43] (f_X1_init w44 w42.length)).bind fun q45 =>
  (sR q45 RX1 1 x43 (1 : Int32) w42.length).bind fun w48 =>
  (gR w48 10 v0 6).bind fun x49 =>
  (nwC w0.length w48 [.int (2 : Int32), .ref v0, .int (2 : Int32), .ref x49] (.inr (1, [.null, .null, .null, .int 0, .int 0, .int 0]))).bind fun w50 =>
  (clA w0.length w50 1 w48.length [.int (2 : Int32), .ref v0, .ref w48.length, .int (2 : Int32), .ref x49] (f_X1_init w50 w48.length)).bind fun q51 =>
  (sR q51 RX1 1 x49 (2 : Int32) w48.length).bind fun w54 =>
  (pV w54 10 v0 7 (.int (0 : Int32))).bind fun w55 =>
  (pV w55 10 v0 8 (.int (-1 : Int32))).bind fun w56 =>
  some w56
def f_X10_feed (w : MW) (v0 : Nat) (v1 : Int32) (v2 : Int32) (v3 : Int32) (v4 : Int32) (v5 : Int32) : Option (Int32 × MW) :=
  (gR w 10 v0 2).bind fun x1 =>
  (gI w 4 x1 1).bind fun x2 =>
  if x2 ≤ (780 : Int32) then
    (gR w 10 v0 2).bind fun x3 =>
    (cl w 4 x3 (f_X4_addFour w x3 v1)).bind fun q4 =>
    (gR q4 10 v0 2).bind fun x7 =>
    (cl q4 4 x7 (f_X4_addFour q4 x7 v2)).bind fun q8 =>
    (gR q8 10 v0 2).bind fun x11 =>
    (cl q8 4 x11 (f_X4_addFour q8 x11 v3)).bind fun q12 =>
    (gR q12 10 v0 2).bind fun x15 =>
    (cl q12 4 x15 (f_X4_addFour q12 x15 v4)).bind fun q16 =>
    (gR q16 10 v0 2).bind fun x19 =>
    (cl q16 4 x19 (f_X4_addFour q16 x19 v5)).bind fun q20 =>
    (gR q20 10 v0 2).bind fun x23 =>
    (gI q20 4 x23 1).bind fun x24 =>
    some (x24, q20)
  else
    some ((-1 : Int32), w)
def f_X10_end (w : MW) (v0 : Nat) (v1 : Int32) : Option (Int32 × MW) :=
  if v1 < 0 then
    some ((-1 : Int32), w)
  else
    (gR w 10 v0 2).bind fun x1 =>
    (gI w 4 x1 1).bind fun x2 =>
    if v1 ≤ x2 then
      (gR w 10 v0 2).bind fun x3 =>
      (pV w 4 x3 1 (.int v1)).bind fun w4 =>
      some (v1, w4)
    else
      some ((-1 : Int32), w)
def f_X10_text (fu : Nat) (w : MW) (v0 : Nat) : Option (Int32 × MW) :=
  (gR w 10 v0 5).bind fun x1 =>
  (gR w 10 v0 0).bind fun x2 =>
  (cl w 6 x1 (f_X6_take fu w x1 x2)).bind fun q3 =>
  (gR q3 10 v0 0).bind fun x6 =>
  (cl q3 7 x6 (f_X7_empty fu q3 x6)).bind fun q7 =>
  (gR q7 10 v0 4).bind fun x10 =>
  (cl q7 5 x10 (f_X5_perform fu q7 x10)).bind fun q11 =>
  (gR q11 10 v0 2).bind fun x14 =>
  (pV q11 4 x14 1 (.int (0 : Int32))).bind fun w15 =>
  (gR w15 10 v0 4).bind fun x16 =>
  (gI w15 5 x16 7).bind fun x17 =>
  (pV w15 10 v0 7 (.int x17)).bind fun w18 =>
  (gR w18 10 v0 4).bind fun x19 =>
  (gI w18 5 x19 8).bind fun x20 =>
  (pV w18 10 v0 8 (.int x20)).bind fun w21 =>
  (gI w21 10 v0 7).bind fun x22 =>
  if x22 = 0 then
    (gR w21 10 v0 1).bind fun x23 =>
    (cl w21 3 x23 (f_X3_forget w21 x23)).bind fun q24 =>
    (gR q24 10 v0 0).bind fun x27 =>
    (cl q24 7 x27 (f_X7_total fu q24 x27)).bind fun q28 =>
    some (q28, q24)
  else
    (gR w21 10 v0 5).bind fun x31 =>
    (gR w21 10 v0 0).bind fun x32 =>
    (cl w21 6 x31 (f_X6_give fu w21 x31 x32)).bind fun q33 =>
    some ((-1 : Int32), q33)
def f_X10_fault (w : MW) (v0 : Nat) (v1 : Int32) : Option Int32 :=
  if v1 = 0 then
    (gI w 10 v0 7).bind fun x2 =>
    some x2
  else if v1 = 1 then
    (gI w 10 v0 8).bind fun x4 =>
    some x4
  else 
    some (-1 : Int32)
def f_X10_put (fu : Nat) (w : MW) (v0 : Nat) (v1 : Int32) (v2 : Int32) : Option (Int32 × MW) :=
  (gR w 10 v0 1).bind fun x1 =>
  (gR w 10 v0 0).bind fun x2 =>
  (cl w 3 x1 (f_X3_prepare fu w x1 x2)).bind fun q3 =>
  (gR q3 10 v0 1).bind fun x6 =>
  (gR q3 10 v0 0).bind fun x7 =>
  (cl q3 7 x7 (f_X7_putKey fu q3 x7 v1 v2)).bind fun q8 =>
  (cl q8.2 3 x6 (f_X3_settle q8.2 x6 q8.1)).bind fun q11 =>
  some (q11.1, q11.2)
def f_X10_drop (fu : Nat) (w : MW) (v0 : Nat) (v1 : Int32) (v2 : Int32) : Option (Int32 × MW) :=
  (gR w 10 v0 1).bind fun x1 =>
  (gR w 10 v0 0).bind fun x2 =>
  (cl w 3 x1 (f_X3_prepare fu w x1 x2)).bind fun q3 =>
  (gR q3 10 v0 1).bind fun x6 =>
  (gR q3 10 v0 0).bind fun x7 =>
  (cl q3 7 x7 (f_X7_dropKey fu q3 x7 v1 v2)).bind fun q8 =>
  (cl q8.2 3 x6 (f_X3_settle q8.2 x6 q8.1)).bind fun q11 =>
  some (q11.1, q11.2)
def f_X10_cut (fu : Nat) (w : MW) (v0 : Nat) (v1 : Int32) (v2 : Int32) (v3 : Int32) : Option (Int32 × MW) :=
  (gR w 10 v0 1).bind fun x1 =>
  (gR w 10 v0 0).bind fun x2 =>
  (cl w 3 x1 (f_X3_prepare fu w x1 x2)).bind fun q3 =>
  (gR q3 10 v0 1).bind fun x6 =>
  (gR q3 10 v0 0).bind fun x7 =>
  (cl q3 7 x7 (f_X7_cutAbove fu q3 x7 v1 v2 v3)).bind fun q8 =>
  (cl q8.2 3 x6 (f_X3_settle q8.2 x6 q8.1)).bind fun q11 =>
  some (q11.1, q11.2)
def f_X10_join (fu : Nat) (w : MW) (v0 : Nat) (v1 : Int32) (v2 : Int32) : Option (Int32 × MW) :=
  (gR w 10 v0 1).bind fun x1 =>
  (gR w 10 v0 0).bind fun x2 =>
  (cl w 3 x1 (f_X3_prepare fu w x1 x2)).bind fun q3 =>
  (gR q3 10 v0 1).bind fun x6 =>
  (gR q3 10 v0 0).bind fun x7 =>
  (cl q3 7 x7 (f_X7_joinTo fu q3 x7 v1 v2)).bind fun q8 =>
  (cl q8.2 3 x6 (f_X3_settle q8.2 x6 q8.1)).bind fun q11 =>
  some (q11.1, q11.2)
def f_X10_melt (fu : Nat) (w : MW) (v0 : Nat) (v1 : Int32) (v2 : Int32) : Option (Int32 × MW) :=
  (gR w 10 v0 1).bind fun x1 =>
  (gR w 10 v0 0).bind fun x2 =>
  (cl w 3 x1 (f_X3_prepare fu w x1 x2)).bind fun q3 =>
  (gR q3 10 v0 1).bind fun x6 =>
  (gR q3 10 v0 0).bind fun x7 =>
  (cl q3 7 x7 (f_X7_meltTo fu q3 x7 v1 v2)).bind fun q8 =>
  (cl q8.2 3 x6 (f_X3_settle q8.2 x6 q8.1)).bind fun q11 =>
  some (q11.1, q11.2)
def f_X10_shift (fu : Nat) (w : MW) (v0 : Nat) (v1 : Int32) (v2 : Int32) : Option (Int32 × MW) :=
  (gR w 10 v0 1).bind fun x1 =>
  (gR w 10 v0 0).bind fun x2 =>
  (cl w 3 x1 (f_X3_prepare fu w x1 x2)).bind fun q3 =>
  (gR q3 10 v0 1).bind fun x6 =>
  (gR q3 10 v0 0).bind fun x7 =>
  (cl q3 7 x7 (f_X7_shiftBy fu q3 x7 v1 v2)).bind fun q8 =>
  (cl q8.2 3 x6 (f_X3_settle q8.2 x6 q8.1)).bind fun q11 =>
  some (q11.1, q11.2)
def f_X10_move (fu : Nat) (w : MW) (v0 : Nat) (v1 : Int32) (v2 : Int32) (v3 : Int32) (v4 : Int32) : Option (Int32 × MW) :=
  (gR w 10 v0 1).bind fun x1 =>
  (gR w 10 v0 0).bind fun x2 =>
  (cl w 3 x1 (f_X3_prepare fu w x1 x2)).bind fun q3 =>
  (gR q3 10 v0 1).bind fun x6 =>
  (gR q3 10 v0 0).bind fun x7 =>
  (cl q3 7 x7 (f_X7_moveStretch fu q3 x7 v1 v2 v3 v4)).bind fun q8 =>
  (cl q8.2 3 x6 (f_X3_settle q8.2 x6 q8.1)).bind fun q11 =>
  some (q11.1, q11.2)
def f_X10_mark_32 (fu : Nat) (w : MW) (s0 : Nat) (s1 : Nat) (s2 : Int32) (s3 : Int32) (s4 : Int32) (s5 : Int32) : Option (Int32 × MW) :=
  (cl w 7 s1 (f_X7_markStretch fu w s1 s2 s3 s4 s5)).bind fun q8 =>
  (cl q8.2 3 s0 (f_X3_settle q8.2 s0 q8.1)).bind fun q11 =>
  some (q11.1, q11.2)
def f_X10_mark (fu : Nat) (w : MW) (v0 : Nat) (v1 : Int32) (v2 : Int32) (v3 : Int32) (v4 : Int32) : Option (Int32 × MW) :=
  (gR w 10 v0 1).bind fun x1 =>
  (gR w 10 v0 0).bind fun x2 =>
  (cl w 3 x1 (f_X3_prepare fu w x1 x2)).bind fun q3 =>
  (gR q3 10 v0 1).bind fun x6 =>
  (gR q3 10 v0 0).bind fun x7 =>
  if v4 = 0 then
    f_X10_mark_32 fu q3 x6 x7 v1 v2 v3 (1 : Int32)
  else
    f_X10_mark_32 fu q3 x6 x7 v1 v2 v3 (0 : Int32)
def f_X10_seek (fu : Nat) (w : MW) (v0 : Nat) (v1 : Int32) (v2 : Int32) : Option (Int32 × MW) :=
  (gR w 10 v0 1).bind fun x1 =>
  (gR w 10 v0 0).bind fun x2 =>
  (cl w 3 x1 (f_X3_prepare fu w x1 x2)).bind fun q3 =>
  (gR q3 10 v0 1).bind fun x6 =>
  (gR q3 10 v0 0).bind fun x7 =>
  (cl q3 7 x7 (f_X7_seekFrom fu q3 x7 v1 v2)).bind fun q8 =>
  (cl q8.2 3 x6 (f_X3_settle q8.2 x6 q8.1)).bind fun q11 =>
  some (q11.1, q11.2)
def f_X10_undo (fu : Nat) (w : MW) (v0 : Nat) : Option (Int32 × MW) :=
  (gR w 10 v0 1).bind fun x1 =>
  (gI w 3 x1 2).bind fun x2 =>
  if x2 = 0 then
    some ((-1 : Int32), w)
  else
    (gR w 10 v0 1).bind fun x3 =>
    (gR w 10 v0 0).bind fun x4 =>
    (cl w 3 x3 (f_X3_stepBack fu w x3 x4)).bind fun q5 =>
    (gR q5 10 v0 1).bind fun x8 =>
    (gI q5 3 x8 2).bind fun x9 =>
    some (x9, q5)
def f_X10_set (fu : Nat) (w : MW) (v0 : Nat) (v1 : Int32) (v2 : Int32) : Option (Int32 × MW) :=
  (gR w 10 v0 0).bind fun x1 =>
  (cl w 7 x1 (f_X7_heapAt w x1 v1)).bind fun q2 =>
  match q2 with
  | none =>
    some ((-1 : Int32), w)
  | some b5 =>
    if v2 = 0 then
      (gI w 0 b5 1).bind fun x7 =>
      some (x7, w)
    else if v2 = 1 then
      (cl w 0 b5 (f_X0_keyAt w b5 (0 : Int32))).bind fun q9 =>
      some (q9, w)
    else if v2 = 2 then
      (gI w 0 b5 1).bind fun x13 =>
      (cl w 0 b5 (f_X0_keyAt w b5 (x13 - (1 : Int32)))).bind fun q14 =>
      some (q14, w)
    else if v2 = 3 then
      (cl w 0 b5 (f_X0_markedBetween fu w b5 (0 : Int32) (9999 : Int32))).bind fun q18 =>
      some (q18, w)
    else if v2 = 4 then
      (gR w 10 v0 0).bind fun x22 =>
      (cl w 7 x22 (f_X7_treeOf fu w x22 b5)).bind fun q23 =>
      (cl q23.2 8 q23.1 (f_X8_rootKey q23.2 q23.1)).bind fun q26 =>
      some (q26, q23.2)
    else if v2 = 5 then
      (gR w 10 v0 0).bind fun x30 =>
      (cl w 7 x30 (f_X7_treeOf fu w x30 b5)).bind fun q31 =>
      (cl q31.2 8 q31.1 (f_X8_high fu q31.2 q31.1)).bind fun q34 =>
      some (q34, q31.2)
    else if v2 = 6 then
      (gI w 0 b5 2).bind fun x38 =>
      some (x38, w)
    else if v2 = 7 then
      (cl w 0 b5 (f_X0_leastDifference fu w b5)).bind fun q40 =>
      some (q40, w)
    else if v2 = 8 then
      (gR w 10 v0 0).bind fun x44 =>
      (cl w 7 x44 (f_X7_treeOf fu w x44 b5)).bind fun q45 =>
      (cl q45.2 8 q45.1 (f_X8_allDepths fu q45.2 q45.1)).bind fun q48 =>
      some (q48, q45.2)
    else if v2 = 9 then
      (cl w 0 b5 (f_X0_stretches fu w b5)).bind fun q52 =>
      some (q52, w)
    else if v2 = 10 then
      (cl w 0 b5 (f_X0_sum fu w b5)).bind fun q56 =>
      some (q56, w)
    else 
      some ((-1 : Int32), w)
def f_X10_key (w : MW) (v0 : Nat) (v1 : Int32) (v2 : Int32) : Option Int32 :=
  (gR w 10 v0 0).bind fun x1 =>
  (cl w 7 x1 (f_X7_heapAt w x1 v1)).bind fun q2 =>
  match q2 with
  | none =>
    some (-1 : Int32)
  | some b5 =>
    (cl w 0 b5 (f_X0_keyAt w b5 v2)).bind fun q6 =>
    some q6
def f_X10_of_25 (fu : Nat) (w : MW) (v0 : Nat) (v2 : Int32) (v3 : Int32) (s0 : Int32) : Option (Int32 × MW) :=
  bnd s0 fun x6 =>
  some ((-1 : Int32), w)
def f_X10_of_25_1 (fu : Nat) (w : MW) (v0 : Nat) (v2 : Int32) (v3 : Int32) (v4 : Nat) (s0 : Int32) : Option (Int32 × MW) :=
  bnd s0 fun x10 =>
  if x10 = (-1 : Int32) then
    some ((-1 : Int32), w)
  else
    if v3 = 0 then
      some (x10, w)
    else if v3 = 1 then
      (cl w 0 v4 (f_X0_markAt w v4 x10)).bind fun q13 =>
      some (q13, w)
    else if v3 = 2 then
      (gR w 10 v0 0).bind fun x17 =>
      (cl w 7 x17 (f_X7_treeOf fu w x17 v4)).bind fun q18 =>
      (cl q18.2 8 q18.1 (f_X8_depthAt q18.2 q18.1 x10)).bind fun q21 =>
      some (q21, q18.2)
    else if v3 = 3 then
      (gR w 10 v0 0).bind fun x25 =>
      (cl w 7 x25 (f_X7_treeOf fu w x25 v4)).bind fun q26 =>
      (cl q26.2 8 q26.1 (f_X8_keyAbove q26.2 q26.1 x10)).bind fun q29 =>
      some (q29, q26.2)
    else if v3 = 4 then
      (gR w 10 v0 0).bind fun x33 =>
      (cl w 7 x33 (f_X7_treeOf fu w x33 v4)).bind fun q34 =>
      (cl q34.2 8 q34.1 (f_X8_keyAtLeft q34.2 q34.1 x10)).bind fun q37 =>
      some (q37, q34.2)
    else if v3 = 5 then
      (gR w 10 v0 0).bind fun x41 =>
      (cl w 7 x41 (f_X7_treeOf fu w x41 v4)).bind fun q42 =>
      (cl q42.2 8 q42.1 (f_X8_keyAtRight q42.2 q42.1 x10)).bind fun q45 =>
      some (q45, q42.2)
    else if v3 = 6 then
      some ((f_X10_priority v2), w)
    else if v3 = 7 then
      (gR w 10 v0 0).bind fun x50 =>
      (cl w 7 x50 (f_X7_treeOf fu w x50 v4)).bind fun q51 =>
      (cl q51.2 8 q51.1 (f_X8_howManyBelow q51.2 q51.1 x10)).bind fun q54 =>
      some (q54, q51.2)
    else 
      some ((-1 : Int32), w)
def f_X10_of (fu : Nat) (w : MW) (v0 : Nat) (v1 : Int32) (v2 : Int32) (v3 : Int32) : Option (Int32 × MW) :=
  (gR w 10 v0 0).bind fun x1 =>
  (cl w 7 x1 (f_X7_heapAt w x1 v1)).bind fun q2 =>
  match q2 with
  | none =>
    f_X10_of_25 fu w v0 v2 v3 (-1 : Int32)
  | some b5 =>
    (cl w 0 b5 (f_X0_rankOf fu w b5 v2)).bind fun q7 =>
    f_X10_of_25_1 fu w v0 v2 v3 b5 q7
def f_X10_within (fu : Nat) (w : MW) (v0 : Nat) (v1 : Int32) (v2 : Int32) (v3 : Int32) (v4 : Int32) : Option Int32 :=
  (gR w 10 v0 0).bind fun x1 =>
  (cl w 7 x1 (f_X7_heapAt w x1 v1)).bind fun q2 =>
  match q2 with
  | none =>
    some (-1 : Int32)
  | some b5 =>
    if v4 = 0 then
      (cl w 0 b5 (f_X0_howManyBetween fu w b5 v2 v3)).bind fun q6 =>
      some q6
    else
      (cl w 0 b5 (f_X0_markedBetween fu w b5 v2 v3)).bind fun q9 =>
      some q9
def f_X10_far (fu : Nat) (w : MW) (v0 : Nat) (v1 : Int32) (v2 : Int32) (v3 : Int32) : Option (Int32 × MW) :=
  (gR w 10 v0 0).bind fun x1 =>
  (cl w 7 x1 (f_X7_heapAt w x1 v1)).bind fun q2 =>
  match q2 with
  | none =>
    some ((-1 : Int32), w)
  | some b5 =>
    (gR w 10 v0 0).bind fun x6 =>
    (cl w 7 x6 (f_X7_treeOf fu w x6 b5)).bind fun q7 =>
    (cl q7.2 0 b5 (f_X0_rankOf fu q7.2 b5 v2)).bind fun q10 =>
    (cl q7.2 0 b5 (f_X0_rankOf fu q7.2 b5 v3)).bind fun q13 =>
    (cl q7.2 8 q7.1 (f_X8_steps fu q7.2 q7.1 q10 q13)).bind fun q16 =>
    some (q16, q7.2)
def f_X10_where_33 (fu : Nat) (w : MW) (lr4 : Nat → Int32 → Int32 → Int32 → Option Int32) (v0 : Nat) (v1 : Int32) (v2 : Int32) (v3 : Int32) : Option Int32 :=
  bnd (v3 + 1) fun x9 =>
  lr4 v0 v1 v2 x9
def f_X10_where_4 (fu : Nat) (w : MW) : Nat → Nat → Int32 → Int32 → Int32 → Option Int32
  | 0, _, _, _, _ => none
  | n + 1, v0, v1, v2, v3 =>
    if (8 : Int32) ≤ v3 then
      some v2
    else
      (gR w 10 v0 0).bind fun x3 =>
      (gR w 7 x3 0).bind fun x4 =>
      (aRn w (.object RX0) x4 v3).bind fun x5 =>
      (cl w 0 x5 (f_X0_rankOf fu w x5 v1)).bind fun q6 =>
      if q6 = (-1 : Int32) then
        f_X10_where_33 fu w (f_X10_where_4 fu w n) v0 v1 v2 v3
      else
        bnd (v2 ||| ((1 : Int32) <<< (v3 &&& 31))) fun x10 =>
        f_X10_where_33 fu w (f_X10_where_4 fu w n) v0 v1 x10 v3
def f_X10_where (fu : Nat) (w : MW) (v0 : Nat) (v1 : Int32) : Option Int32 :=
  bnd (0 : Int32) fun x1 =>
  bnd (0 : Int32) fun x2 =>
  f_X10_where_4 fu w fu v0 v1 x1 x2
def f_X10_count (fu : Nat) (w : MW) (v0 : Nat) (v1 : Int32) : Option (Int32 × MW) :=
  if v1 = 0 then
    (gR w 10 v0 0).bind fun x2 =>
    (cl w 7 x2 (f_X7_total fu w x2)).bind fun q3 =>
    some (q3, w)
  else if v1 = 1 then
    (gR w 10 v0 0).bind fun x7 =>
    (cl w 7 x7 (f_X7_notEmpty fu w x7)).bind fun q8 =>
    some (q8, w)
  else if v1 = 2 then
    (gR w 10 v0 0).bind fun x12 =>
    (cl w 7 x12 (f_X7_unlike fu w x12)).bind fun q13 =>
    some (q13.1, q13.2)
  else if v1 = 3 then
    (gR w 10 v0 0).bind fun x17 =>
    (cl w 7 x17 (f_X7_allMarked fu w x17)).bind fun q18 =>
    some (q18, w)
  else if v1 = 4 then
    (gR w 10 v0 1).bind fun x22 =>
    (gI w 3 x22 2).bind fun x23 =>
    some (x23, w)
  else if v1 = 5 then
    (gR w 10 v0 2).bind fun x25 =>
    (gI w 4 x25 1).bind fun x26 =>
    some (x26, w)
  else if v1 = 6 then
    (gR w 10 v0 0).bind fun x28 =>
    (cl w 7 x28 (f_X7_huffman fu w x28)).bind fun q29 =>
    some (q29.1, q29.2)
  else if v1 = 7 then
    (gR w 10 v0 3).bind fun x33 =>
    (gI w 4 x33 1).bind fun x34 =>
    some (x34, w)
  else 
    some ((-1 : Int32), w)
def f_X10_pair (fu : Nat) (w : MW) (v0 : Nat) (v1 : Int32) (v2 : Int32) (v3 : Int32) : Option (Int32 × MW) :=
  (gR w 10 v0 0).bind fun x1 =>
  (cl w 7 x1 (f_X7_heapAt w x1 v1)).bind fun q2 =>
  match q2 with
  | none =>
    (gR w 10 v0 0).bind fun x6 =>
    (cl w 7 x6 (f_X7_heapAt w x6 v2)).bind fun q7 =>
    match q7 with
    | none =>
      some ((-1 : Int32), w)
    | some b10 =>
      some ((-1 : Int32), w)
  | some b5 =>
    (gR w 10 v0 0).bind fun x11 =>
    (cl w 7 x11 (f_X7_heapAt w x11 v2)).bind fun q12 =>
    match q12 with
    | none =>
      some ((-1 : Int32), w)
    | some b15 =>
      if v1 = v2 then
        some ((-1 : Int32), w)
      else
        (gR w 10 v0 0).bind fun x16 =>
        (cl w 7 x16 (f_X7_weaveOf fu w x16 b5 b15)).bind fun q17 =>
        if v3 = 0 then
          (gI q17.2 9 q17.1 0).bind fun x21 =>
          some (x21, q17.2)
        else if v3 = 1 then
          (gI q17.2 9 q17.1 1).bind fun x23 =>
          some (x23, q17.2)
        else if v3 = 2 then
          (gI q17.2 9 q17.1 2).bind fun x25 =>
          some (x25, q17.2)
        else if v3 = 3 then
          (gI q17.2 9 q17.1 4).bind fun x27 =>
          (gI q17.2 9 q17.1 1).bind fun x28 =>
          some ((x27 - x28), q17.2)
        else if v3 = 4 then
          (gI q17.2 9 q17.1 3).bind fun x30 =>
          some (x30, q17.2)
        else if v3 = 5 then
          (gR q17.2 10 v0 0).bind fun x32 =>
          (cl q17.2 7 x32 (f_X7_whyNotJoin q17.2 x32 b5 b15)).bind fun q33 =>
          if q33 = 0 then
            some ((1 : Int32), q17.2)
          else
            some ((0 : Int32), q17.2)
        else if v3 = 6 then
          (gR q17.2 10 v0 0).bind fun x37 =>
          (cl q17.2 7 x37 (f_X7_whyNotMelt q17.2 x37 b15 q17.1)).bind fun q38 =>
          if q38 = 0 then
            some ((1 : Int32), q17.2)
          else
            some ((0 : Int32), q17.2)
        else 
          some ((-1 : Int32), q17.2)
def f_X10_cheapest (fu : Nat) (w : MW) (v0 : Nat) (v1 : Int32) : Option (Int32 × MW) :=
  (gR w 10 v0 0).bind fun x1 =>
  (cl w 7 x1 (f_X7_findCheapest fu w x1)).bind fun q2 =>
  if v1 = 0 then
    (gR q2 10 v0 0).bind fun x6 =>
    (gI q2 7 x6 5).bind fun x7 =>
    some (x7, q2)
  else if v1 = 1 then
    (gR q2 10 v0 0).bind fun x9 =>
    (gI q2 7 x9 6).bind fun x10 =>
    some (x10, q2)
  else if v1 = 2 then
    (gR q2 10 v0 0).bind fun x12 =>
    (gI q2 7 x12 7).bind fun x13 =>
    some (x13, q2)
  else 
    some ((-1 : Int32), q2)
def f_X10_merged_31 (fu : Nat) : Nat → MW → Nat → Int32 → Int32 → Int32 → Option (Int32 × MW)
  | 0, _, _, _, _, _ => none
  | n + 1, w, v0, v1, v2, v3 =>
    if v1 < v3 then
      some (v2, w)
    else
      (gR w 10 v0 0).bind fun x12 =>
      (gR w 7 x12 3).bind fun x13 =>
      (cl w 2 x13 (f_X2_next fu w x13)).bind fun q14 =>
      bnd q14.1 fun x17 =>
      bnd (v3 + 1) fun x18 =>
      (f_X10_merged_31 fu n) q14.2 v0 v1 x17 x18
def f_X10_merged (fu : Nat) (w : MW) (v0 : Nat) (v1 : Int32) : Option (Int32 × MW) :=
  if v1 < 0 then
    some ((-1 : Int32), w)
  else
    (gR w 10 v0 0).bind fun x1 =>
    (cl w 7 x1 (f_X7_total fu w x1)).bind fun q2 =>
    if v1 < q2 then
      (gR w 10 v0 0).bind fun x5 =>
      (gR w 7 x5 3).bind fun x6 =>
      (cl w 2 x6 (f_X2_begin fu w x6)).bind fun q7 =>
      bnd (-1 : Int32) fun x10 =>
      bnd (0 : Int32) fun x11 =>
      f_X10_merged_31 fu fu q7 v0 v1 x10 x11
    else
      some ((-1 : Int32), w)
def f_X10_would_76 (fu : Nat) (w : MW) (v0 : Nat) (s0 : Nat) (s1 : Nat) (s2 : Int32) (s3 : Int32) : Option (Int32 × MW) :=
  (cl w 8 s0 (f_X8_grow fu w s0 s1 s2 s3)).bind fun q12 =>
  (gR q12 10 v0 0).bind fun x15 =>
  (gR q12 7 x15 1).bind fun x16 =>
  (cl q12 8 x16 (f_X8_high fu q12 x16)).bind fun q17 =>
  some (q17, q12)
def f_X10_would_67 (fu : Nat) (w : MW) (v0 : Nat) (v2 : Int32) (v3 : Int32) (s0 : Nat) (s1 : Nat) (s2 : Int32) : Option (Int32 × MW) :=
  if v3 = 0 then
    f_X10_would_76 fu w v0 s0 s1 s2 (-1 : Int32)
  else
    f_X10_would_76 fu w v0 s0 s1 s2 v2
def f_X10_would_39 (fu : Nat) (w : MW) (v0 : Nat) (v2 : Int32) (v3 : Int32) (v4 : Nat) (s0 : Int32) : Option (Int32 × MW) :=
  bnd s0 fun x9 =>
  if x9 = v3 then
    (gR w 10 v0 0).bind fun x10 =>
    (gR w 7 x10 1).bind fun x11 =>
    if v3 = 0 then
      f_X10_would_67 fu w v0 v2 v3 x11 v4 v2
    else
      f_X10_would_67 fu w v0 v2 v3 x11 v4 (-1 : Int32)
  else
    some ((-1 : Int32), w)
def f_X10_would (fu : Nat) (w : MW) (v0 : Nat) (v1 : Int32) (v2 : Int32) (v3 : Int32) : Option (Int32 × MW) :=
  (gR w 10 v0 0).bind fun x1 =>
  (cl w 7 x1 (f_X7_heapAt w x1 v1)).bind fun q2 =>
  match q2 with
  | none =>
    some ((-1 : Int32), w)
  | some b5 =>
    if (f_X10_isKey v2) = 0 then
      some ((-1 : Int32), w)
    else
      (cl w 0 b5 (f_X0_rankOf fu w b5 v2)).bind fun q6 =>
      if q6 = (-1 : Int32) then
        f_X10_would_39 fu w v0 v2 v3 b5 (0 : Int32)
      else
        f_X10_would_39 fu w v0 v2 v3 b5 (1 : Int32)
def f_X10_halves (w : MW) (v0 : Nat) (v1 : Int32) : Option Int32 :=
  (gR w 10 v0 0).bind fun x1 =>
  (cl w 7 x1 (f_X7_heapAt w x1 v1)).bind fun q2 =>
  match q2 with
  | none =>
    some (-1 : Int32)
  | some b5 =>
    (gI w 0 b5 1).bind fun x6 =>
    if (2 : Int32) ≤ x6 then
      (gI w 0 b5 1).bind fun x7 =>
      (cl w 0 b5 (f_X0_keyAt w b5 (((x7 + (1 : Int32)) / (2 : Int32)) - (1 : Int32)))).bind fun q8 =>
      some q8
    else
      some (-1 : Int32)
def f_X10_tell_111 (fu : Nat) (lr25 : MW → Nat → Nat → Int32 → Option (Int32 × MW)) (w : MW) (v0 : Nat) (v2 : Nat) (v3 : Int32) (v4 : Int32) : Option (Int32 × MW) :=
  bnd ((imax v3 v4) + (1 : Int32)) fun x26 =>
  lr25 w v0 v2 x26
def f_X10_tell_93 (fu : Nat) (lr25 : MW → Nat → Nat → Int32 → Option (Int32 × MW)) (w : MW) (v0 : Nat) (v2 : Nat) (v3 : Int32) (v4 : Int32) : Option (Int32 × MW) :=
  (cl w 0 v2 (f_X0_markAt w v2 v3)).bind fun q23 =>
  if q23 = (1 : Int32) then
    (gR w 10 v0 3).bind fun x27 =>
    (cl w 4 x27 (f_X4_add w x27 (42 : Int32))).bind fun q28 =>
    f_X10_tell_111 fu lr25 q28 v0 v2 v3 v4
  else
    f_X10_tell_111 fu lr25 w v0 v2 v3 v4
def f_X10_tell_53 (fu : Nat) (lr25 : MW → Nat → Nat → Int32 → Option (Int32 × MW)) (w : MW) (v0 : Nat) (v2 : Nat) (v3 : Int32) (v4 : Int32) : Option (Int32 × MW) :=
  (gR w 10 v0 3).bind fun x16 =>
  (cl w 0 v2 (f_X0_keyAt w v2 v3)).bind fun q17 =>
  (cl w 4 x16 (f_X4_addNumber fu w x16 q17)).bind fun q20 =>
  if v4 ≤ v3 then
    f_X10_tell_93 fu lr25 q20 v0 v2 v3 v4
  else
    (gR q20 10 v0 3).bind fun x31 =>
    (cl q20 4 x31 (f_X4_add q20 x31 (45 : Int32))).bind fun q32 =>
    (gR q32 10 v0 3).bind fun x35 =>
    (cl q32 0 v2 (f_X0_keyAt q32 v2 v4)).bind fun q36 =>
    (cl q32 4 x35 (f_X4_addNumber fu q32 x35 q36)).bind fun q39 =>
    f_X10_tell_93 fu lr25 q39 v0 v2 v3 v4
def f_X10_tell_25 (fu : Nat) : Nat → MW → Nat → Nat → Int32 → Option (Int32 × MW)
  | 0, _, _, _, _ => none
  | n + 1, w, v0, v2, v3 =>
    (gI w 0 v2 1).bind fun x9 =>
    if x9 ≤ v3 then
      (gR w 10 v0 3).bind fun x10 =>
      (gI w 4 x10 1).bind fun x11 =>
      some (x11, w)
    else
      (cl w 0 v2 (f_X0_lastToldWith fu w v2 v3)).bind fun q12 =>
      bnd q12 fun x15 =>
      if v3 ≤ 0 then
        f_X10_tell_53 fu (f_X10_tell_25 fu n) w v0 v2 v3 x15
      else
        (gR w 10 v0 3).bind fun x42 =>
        (cl w 4 x42 (f_X4_add w x42 (32 : Int32))).bind fun q43 =>
        f_X10_tell_53 fu (f_X10_tell_25 fu n) q43 v0 v2 v3 x15
def f_X10_tell (fu : Nat) (w : MW) (v0 : Nat) (v1 : Int32) : Option (Int32 × MW) :=
  (gR w 10 v0 0).bind fun x1 =>
  (cl w 7 x1 (f_X7_heapAt w x1 v1)).bind fun q2 =>
  match q2 with
  | none =>
    some ((-1 : Int32), w)
  | some b5 =>
    (gR w 10 v0 3).bind fun x6 =>
    (pV w 4 x6 1 (.int (0 : Int32))).bind fun w7 =>
    bnd (0 : Int32) fun x8 =>
    f_X10_tell_25 fu fu w7 v0 b5 x8
def f_X10_octet (w : MW) (v0 : Nat) (v1 : Int32) : Option Int32 :=
  (gR w 10 v0 3).bind fun x1 =>
  (cl w 4 x1 (f_X4_byteAt w x1 v1)).bind fun q2 =>
  some q2
def f_X10_image (fu : Nat) (w : MW) (v0 : Nat) (v1 : Int32) : Option (Int32 × MW) :=
  if v1 < 0 then
    some ((0 : Int32), w)
  else
    if v1 < (3 : Int32) then
      (gR w 10 v0 6).bind fun x1 =>
      (aRn w (.object RX1) x1 v1).bind fun x2 =>
      (pV w 1 x2 3 (.int (1 : Int32))).bind fun w3 =>
      (gR w3 1 x2 0).bind fun x4 =>
      (gR w3 10 v0 0).bind fun x5 =>
      (cl w3 6 x4 (f_X6_take fu w3 x4 x5)).bind fun q6 =>
      (gR q6 1 x2 1).bind fun x9 =>
      (gR q6 10 v0 2).bind fun x10 =>
      (cl q6 4 x9 (f_X4_copy q6 x9 x10)).bind fun q11 =>
      (gR q11 1 x2 2).bind fun x14 =>
      (gR q11 10 v0 3).bind fun x15 =>
      (cl q11 4 x14 (f_X4_copy q11 x14 x15)).bind fun q16 =>
      (gI q16 10 v0 7).bind fun x19 =>
      (pV q16 1 x2 4 (.int x19)).bind fun w20 =>
      (gI w20 10 v0 8).bind fun x21 =>
      (pV w20 1 x2 5 (.int x21)).bind fun w22 =>
      some ((1 : Int32), w22)
    else
      some ((0 : Int32), w)
def f_X10_again (fu : Nat) (w : MW) (v0 : Nat) (v1 : Int32) : Option (Int32 × MW) :=
  if v1 < 0 then
    some ((0 : Int32), w)
  else
    if (3 : Int32) ≤ v1 then
      some ((0 : Int32), w)
    else
      (gR w 10 v0 6).bind fun x1 =>
      (aRn w (.object RX1) x1 v1).bind fun x2 =>
      (gI w 1 x2 3).bind fun x3 =>
      if x3 = 0 then
        some ((0 : Int32), w)
      else
        (gR w 10 v0 6).bind fun x4 =>
        (aRn w (.object RX1) x4 v1).bind fun x5 =>
        (gR w 1 x5 0).bind fun x6 =>
        (gR w 10 v0 0).bind fun x7 =>
        (cl w 6 x6 (f_X6_give fu w x6 x7)).bind fun q8 =>
        (gR q8 10 v0 2).bind fun x11 =>
        (gR q8 1 x5 1).bind fun x12 =>
        (cl q8 4 x11 (f_X4_copy q8 x11 x12)).bind fun q13 =>
        (gR q13 10 v0 3).bind fun x16 =>
        (gR q13 1 x5 2).bind fun x17 =>
        (cl q13 4 x16 (f_X4_copy q13 x16 x17)).bind fun q18 =>
        (gI q18 1 x5 4).bind fun x21 =>
        (pV q18 10 v0 7 (.int x21)).bind fun w22 =>
        (gI w22 1 x5 5).bind fun x23 =>
        (pV w22 10 v0 8 (.int x23)).bind fun w24 =>
        (gR w24 10 v0 1).bind fun x25 =>
        (cl w24 3 x25 (f_X3_forget w24 x25)).bind fun q26 =>
        some ((1 : Int32), q26)
