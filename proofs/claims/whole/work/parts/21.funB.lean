def f_X11_empties_26 (fu : Nat) : Nat → MW → Nat → Int32 → Int32 → Option MW
  | 0, _, _, _, _ => none
  | n + 1, w, v0, v1, v2 =>
    if (8 : Int32) ≤ v2 then
      some w
    else
      (gR w 11 v0 0).bind fun x3 =>
      (sI w .int x3 ((v1 + ((122 : Int32) * v2)) + (1 : Int32)) (-1 : Int32)).bind fun w4 =>
      bnd (v2 + 1) fun x5 =>
      (f_X11_empties_26 fu n) w4 v0 v1 x5
def f_X11_empties_2 (fu : Nat) : Nat → MW → Nat → Int32 → Int32 → Option MW
  | 0, _, _, _, _ => none
  | n + 1, w, v0, v1, v2 =>
    if (976 : Int32) ≤ v2 then
      bnd (0 : Int32) fun x2 =>
      f_X11_empties_26 fu fu w v0 v1 x2
    else
      (gR w 11 v0 0).bind fun x6 =>
      (sI w .int x6 (v1 + v2) (0 : Int32)).bind fun w7 =>
      bnd (v2 + 1) fun x8 =>
      (f_X11_empties_2 fu n) w7 v0 v1 x8
def f_X11_empties (fu : Nat) (w : MW) (v0 : Nat) (v1 : Int32) : Option MW :=
  bnd (0 : Int32) fun x1 =>
  f_X11_empties_2 fu fu w v0 v1 x1
noncomputable def f_X11_init (fu : Nat) (w0 : MW) (v0 : Nat) : Option MW :=
  (nwC w0.length w0 [.ref v0, .ref v0] (.inl (.int, 20204, .inl (fun _ => 0)))).bind fun w1 =>
  (pV w1 11 v0 0 (.ref w0.length)).bind fun w2 =>
  (nwC w0.length w2 [.ref v0, .ref v0] (.inl (.int, 800, .inl (fun _ => 0)))).bind fun w3 =>
  (pV w3 11 v0 1 (.ref w2.length)).bind fun w4 =>
  (nwC w0.length w4 [.ref v0, .ref v0] (.inl (.int, 400, .inl (fun _ => 0)))).bind fun w5 =>
  (pV w5 11 v0 2 (.ref w4.length)).bind fun w6 =>
  (nwC w0.length w6 [.ref v0, .ref v0] (.inl (.boolean, 3, .inl (fun _ => 0)))).bind fun w7 =>
  (pV w7 11 v0 3 (.ref w6.length)).bind fun w8 =>
  (pV w8 11 v0 7 (.int (-1 : Int32))).bind fun w9 =>
  (nwC w0.length w9 [.ref v0, .ref v0] (.inl (.int, 64, .inl (fun _ => 0)))).bind fun w10 =>
  (pV w10 11 v0 10 (.ref w9.length)).bind fun w11 =>
  (nwC w0.length w11 [.ref v0, .ref v0] (.inl (.int, 8, .inl (fun _ => 0)))).bind fun w12 =>
  (pV w12 11 v0 21 (.ref w11.length)).bind fun w13 =>
  (cl w13 11 v0 (f_X11_empties fu w13 v0 (0 : Int32))).bind fun q14 =>
  some q14
def f_X11_isIn (v0 : Int32) (v1 : Int32) (v2 : Int32) : Int32 :=
  if v0 < v1 then
    (0 : Int32)
  else
    if v2 < v0 then
      (0 : Int32)
    else
      (1 : Int32)
def f_X11_copies_3 (fu : Nat) : Nat → MW → Nat → Int32 → Int32 → Int32 → Int32 → Option MW
  | 0, _, _, _, _, _, _ => none
  | n + 1, w, v0, v1, v2, v3, v4 =>
    if v3 ≤ v4 then
      some w
    else
      (gR w 11 v0 0).bind fun x2 =>
      (gR w 11 v0 0).bind fun x3 =>
      (aI w .int x3 (v1 + v4)).bind fun x4 =>
      (sI w .int x2 (v2 + v4) x4).bind fun w5 =>
      bnd (v4 + 1) fun x6 =>
      (f_X11_copies_3 fu n) w5 v0 v1 v2 v3 x6
def f_X11_copies (fu : Nat) (w : MW) (v0 : Nat) (v1 : Int32) (v2 : Int32) (v3 : Int32) : Option MW :=
  bnd (0 : Int32) fun x1 =>
  f_X11_copies_3 fu fu w v0 v1 v2 v3 x1
def f_X11_isSet (v0 : Int32) : Int32 :=
  (f_X11_isIn v0 (0 : Int32) (7 : Int32))
def f_X11_isKey (v0 : Int32) : Int32 :=
  (f_X11_isIn v0 (0 : Int32) (9999 : Int32))
def f_X11_many (w : MW) (v0 : Nat) (v1 : Int32) : Option Int32 :=
  (gR w 11 v0 0).bind fun x1 =>
  (gI w 11 v0 9).bind fun x2 =>
  (aI w .int x1 (x2 + ((122 : Int32) * v1))).bind fun x3 =>
  some x3
def f_X11_keyAt (w : MW) (v0 : Nat) (v1 : Int32) (v2 : Int32) : Option Int32 :=
  (gR w 11 v0 0).bind fun x1 =>
  (gI w 11 v0 9).bind fun x2 =>
  (aI w .int x1 (((x2 + ((122 : Int32) * v1)) + (2 : Int32)) + v2)).bind fun x3 =>
  some x3
def f_X11_markAt (w : MW) (v0 : Nat) (v1 : Int32) (v2 : Int32) : Option Int32 :=
  (gR w 11 v0 0).bind fun x1 =>
  (gI w 11 v0 9).bind fun x2 =>
  (aI w .int x1 (((x2 + ((122 : Int32) * v1)) + (62 : Int32)) + v2)).bind fun x3 =>
  some x3
def f_X11_finger (w : MW) (v0 : Nat) (v1 : Int32) : Option Int32 :=
  (gR w 11 v0 0).bind fun x1 =>
  (gI w 11 v0 9).bind fun x2 =>
  (aI w .int x1 ((x2 + ((122 : Int32) * v1)) + (1 : Int32))).bind fun x3 =>
  some x3
def f_X11_points (w : MW) (v0 : Nat) (v1 : Int32) (v2 : Int32) : Option MW :=
  (gR w 11 v0 0).bind fun x1 =>
  (gI w 11 v0 9).bind fun x2 =>
  (sI w .int x1 ((x2 + ((122 : Int32) * v1)) + (1 : Int32)) v2).bind fun w3 =>
  some w3
def f_X11_below_2 (fu : Nat) (w : MW) : Nat → Nat → Int32 → Int32 → Int32 → Option Int32
  | 0, _, _, _, _ => none
  | n + 1, v0, v1, v2, v3 =>
    (cl w 11 v0 (f_X11_many w v0 v1)).bind fun q2 =>
    if q2 ≤ v3 then
      some v3
    else
      (cl w 11 v0 (f_X11_keyAt w v0 v1 v3)).bind fun q5 =>
      if v2 ≤ q5 then
        some v3
      else
        bnd (v3 + 1) fun x8 =>
        (f_X11_below_2 fu w n) v0 v1 v2 x8
def f_X11_below (fu : Nat) (w : MW) (v0 : Nat) (v1 : Int32) (v2 : Int32) : Option Int32 :=
  bnd (0 : Int32) fun x1 =>
  f_X11_below_2 fu w fu v0 v1 v2 x1
def f_X11_placeOf (fu : Nat) (w : MW) (v0 : Nat) (v1 : Int32) (v2 : Int32) : Option Int32 :=
  (cl w 11 v0 (f_X11_below fu w v0 v1 v2)).bind fun q1 =>
  bnd q1 fun x4 =>
  (cl w 11 v0 (f_X11_many w v0 v1)).bind fun q5 =>
  if q5 ≤ x4 then
    some (-1 : Int32)
  else
    (cl w 11 v0 (f_X11_keyAt w v0 v1 x4)).bind fun q8 =>
    if q8 = v2 then
      some x4
    else
      some (-1 : Int32)
def f_X11_puts_26 (fu : Nat) : Nat → MW → Nat → Int32 → Int32 → Int32 → Int32 → Int32 → Int32 → Option MW
  | 0, _, _, _, _, _, _, _, _ => none
  | n + 1, w, v0, v1, v2, v3, v4, v5, v6 =>
    if v6 ≤ v4 then
      (gR w 11 v0 0).bind fun x11 =>
      (sI w .int x11 ((v5 + (2 : Int32)) + v4) v2).bind fun w12 =>
      (gR w12 11 v0 0).bind fun x13 =>
      (sI w12 .int x13 ((v5 + (62 : Int32)) + v4) v3).bind fun w14 =>
      (gR w14 11 v0 0).bind fun x15 =>
      (aI w14 .int x15 v5).bind fun x16 =>
      (sI w14 .int x15 v5 (x16 + (1 : Int32))).bind fun w17 =>
      (cl w17 11 v0 (f_X11_points w17 v0 v1 (-1 : Int32))).bind fun q18 =>
      some q18
    else
      (gR w 11 v0 0).bind fun x21 =>
      (gR w 11 v0 0).bind fun x22 =>
      (aI w .int x22 (((v5 + (2 : Int32)) + v6) - (1 : Int32))).bind fun x23 =>
      (sI w .int x21 ((v5 + (2 : Int32)) + v6) x23).bind fun w24 =>
      (gR w24 11 v0 0).bind fun x25 =>
      (gR w24 11 v0 0).bind fun x26 =>
      (aI w24 .int x26 (((v5 + (62 : Int32)) + v6) - (1 : Int32))).bind fun x27 =>
      (sI w24 .int x25 ((v5 + (62 : Int32)) + v6) x27).bind fun w28 =>
      bnd (v6 + (-1)) fun x29 =>
      (f_X11_puts_26 fu n) w28 v0 v1 v2 v3 v4 v5 x29
def f_X11_puts (fu : Nat) (w : MW) (v0 : Nat) (v1 : Int32) (v2 : Int32) (v3 : Int32) : Option MW :=
  (cl w 11 v0 (f_X11_below fu w v0 v1 v2)).bind fun q1 =>
  bnd q1 fun x4 =>
  (gI w 11 v0 9).bind fun x5 =>
  bnd (x5 + ((122 : Int32) * v1)) fun x6 =>
  (cl w 11 v0 (f_X11_many w v0 v1)).bind fun q7 =>
  bnd q7 fun x10 =>
  f_X11_puts_26 fu fu w v0 v1 v2 v3 x4 x6 x10
def f_X11_drops_13 (fu : Nat) : Nat → MW → Nat → Int32 → Int32 → Int32 → Option MW
  | 0, _, _, _, _, _ => none
  | n + 1, w, v0, v1, v3, v4 =>
    (cl w 11 v0 (f_X11_many w v0 v1)).bind fun q4 =>
    if q4 ≤ (v4 + (1 : Int32)) then
      (gR w 11 v0 0).bind fun x7 =>
      (aI w .int x7 v3).bind fun x8 =>
      (sI w .int x7 v3 (x8 - (1 : Int32))).bind fun w9 =>
      (cl w9 11 v0 (f_X11_points w9 v0 v1 (-1 : Int32))).bind fun q10 =>
      some q10
    else
      (gR w 11 v0 0).bind fun x13 =>
      (gR w 11 v0 0).bind fun x14 =>
      (aI w .int x14 (((v3 + (2 : Int32)) + v4) + (1 : Int32))).bind fun x15 =>
      (sI w .int x13 ((v3 + (2 : Int32)) + v4) x15).bind fun w16 =>
      (gR w16 11 v0 0).bind fun x17 =>
      (gR w16 11 v0 0).bind fun x18 =>
      (aI w16 .int x18 (((v3 + (62 : Int32)) + v4) + (1 : Int32))).bind fun x19 =>
      (sI w16 .int x17 ((v3 + (62 : Int32)) + v4) x19).bind fun w20 =>
      bnd (v4 + 1) fun x21 =>
      (f_X11_drops_13 fu n) w20 v0 v1 v3 x21
def f_X11_drops (fu : Nat) (w : MW) (v0 : Nat) (v1 : Int32) (v2 : Int32) : Option MW :=
  (gI w 11 v0 9).bind fun x1 =>
  bnd (x1 + ((122 : Int32) * v1)) fun x2 =>
  bnd v2 fun x3 =>
  f_X11_drops_13 fu fu w v0 v1 x2 x3
def f_X11_total_4 (fu : Nat) (w : MW) : Nat → Nat → Int32 → Int32 → Option Int32
  | 0, _, _, _ => none
  | n + 1, v0, v1, v2 =>
    if (8 : Int32) ≤ v2 then
      some v1
    else
      (cl w 11 v0 (f_X11_many w v0 v2)).bind fun q3 =>
      bnd (v1 + q3) fun x6 =>
      bnd (v2 + 1) fun x7 =>
      (f_X11_total_4 fu w n) v0 x6 x7
def f_X11_total (fu : Nat) (w : MW) (v0 : Nat) : Option Int32 :=
  bnd (0 : Int32) fun x1 =>
  bnd (0 : Int32) fun x2 =>
  f_X11_total_4 fu w fu v0 x1 x2
def f_X11_twins_37 (fu : Nat) (w : MW) (lr5 : Nat → Int32 → Int32 → Int32 → Int32 → Option Int32) (v0 : Nat) (v1 : Int32) (v2 : Int32) (v4 : Int32) (s0 : Int32) (s1 : Int32) : Option Int32 :=
  bnd (s0 + s1) fun x12 =>
  bnd (v4 + 1) fun x13 =>
  lr5 v0 v1 v2 x12 x13
def f_X11_twins_5 (fu : Nat) (w : MW) : Nat → Nat → Int32 → Int32 → Int32 → Int32 → Option Int32
  | 0, _, _, _, _, _ => none
  | n + 1, v0, v1, v2, v3, v4 =>
    (cl w 11 v0 (f_X11_many w v0 v2)).bind fun q3 =>
    if q3 ≤ v4 then
      some v3
    else
      (cl w 11 v0 (f_X11_keyAt w v0 v2 v4)).bind fun q6 =>
      (cl w 11 v0 (f_X11_placeOf fu w v0 v1 q6)).bind fun q9 =>
      if q9 = (-1 : Int32) then
        f_X11_twins_37 fu w (f_X11_twins_5 fu w n) v0 v1 v2 v4 v3 (0 : Int32)
      else
        f_X11_twins_37 fu w (f_X11_twins_5 fu w n) v0 v1 v2 v4 v3 (1 : Int32)
def f_X11_twins (fu : Nat) (w : MW) (v0 : Nat) (v1 : Int32) (v2 : Int32) : Option Int32 :=
  bnd (0 : Int32) fun x1 =>
  bnd (0 : Int32) fun x2 =>
  f_X11_twins_5 fu w fu v0 v1 v2 x1 x2
def f_X11_counted_38 (fu : Nat) (w : MW) (lr6 : Nat → Int32 → Int32 → Int32 → Int32 → Int32 → Option Int32) (v0 : Nat) (v1 : Int32) (v2 : Int32) (v3 : Int32) (v5 : Int32) (s0 : Int32) (s1 : Int32) : Option Int32 :=
  bnd (s0 + s1) fun x9 =>
  bnd (v5 + 1) fun x10 =>
  lr6 v0 v1 v2 v3 x9 x10
def f_X11_counted_6 (fu : Nat) (w : MW) : Nat → Nat → Int32 → Int32 → Int32 → Int32 → Int32 → Option Int32
  | 0, _, _, _, _, _, _ => none
  | n + 1, v0, v1, v2, v3, v4, v5 =>
    (cl w 11 v0 (f_X11_many w v0 v1)).bind fun q3 =>
    if q3 ≤ v5 then
      some v4
    else
      (cl w 11 v0 (f_X11_keyAt w v0 v1 v5)).bind fun q6 =>
      if (f_X11_isIn q6 v2 v3) = 0 then
        f_X11_counted_38 fu w (f_X11_counted_6 fu w n) v0 v1 v2 v3 v5 v4 (0 : Int32)
      else
        f_X11_counted_38 fu w (f_X11_counted_6 fu w n) v0 v1 v2 v3 v5 v4 (1 : Int32)
def f_X11_counted (fu : Nat) (w : MW) (v0 : Nat) (v1 : Int32) (v2 : Int32) (v3 : Int32) : Option Int32 :=
  bnd (0 : Int32) fun x1 =>
  bnd (0 : Int32) fun x2 =>
  f_X11_counted_6 fu w fu v0 v1 v2 v3 x1 x2
def f_X11_laysRow_11 (fu : Nat) : Nat → MW → Nat → Int32 → Int32 → Option MW
  | 0, _, _, _, _ => none
  | n + 1, w, v0, v1, v2 =>
    (gI w 11 v0 11).bind fun x6 =>
    if x6 ≤ v2 then
      some w
    else
      (gR w 11 v0 10).bind fun x7 =>
      (cl w 11 v0 (f_X11_keyAt w v0 v1 v2)).bind fun q8 =>
      (sI w .int x7 v2 q8).bind fun w11 =>
      bnd (v2 + 1) fun x12 =>
      (f_X11_laysRow_11 fu n) w11 v0 v1 x12
def f_X11_laysRow (fu : Nat) (w : MW) (v0 : Nat) (v1 : Int32) : Option MW :=
  (cl w 11 v0 (f_X11_many w v0 v1)).bind fun q1 =>
  (pV w 11 v0 11 (.int q1)).bind fun w4 =>
  bnd (0 : Int32) fun x5 =>
  f_X11_laysRow_11 fu fu w4 v0 v1 x5
def f_X11_priority (v0 : Int32) : Int32 :=
  (((v0 * (40503 : Int32)) + (9973 : Int32)) - ((v0 * (40503 : Int32)) + (9973 : Int32)) / (65536 : Int32) * (65536 : Int32))
def f_X11_ahead_50 (fu : Nat) (w : MW) (lr16 : Nat → Int32 → Int32 → Int32 → Option Int32) (v0 : Nat) (v2 : Int32) (v4 : Int32) (s0 : Int32) : Option Int32 :=
  bnd s0 fun x7 =>
  bnd (v4 + 1) fun x8 =>
  lr16 v0 v2 x7 x8
def f_X11_ahead_16 (fu : Nat) (w : MW) : Nat → Nat → Int32 → Int32 → Int32 → Option Int32
  | 0, _, _, _, _ => none
  | n + 1, v0, v2, v3, v4 =>
    if v2 < v4 then
      some v3
    else
      (gR w 11 v0 10).bind fun x3 =>
      (aI w .int x3 v4).bind fun x4 =>
      (gR w 11 v0 10).bind fun x5 =>
      (aI w .int x5 v3).bind fun x6 =>
      if (f_X11_priority x4) ≤ (f_X11_priority x6) then
        f_X11_ahead_50 fu w (f_X11_ahead_16 fu w n) v0 v2 v4 v3
      else
        f_X11_ahead_50 fu w (f_X11_ahead_16 fu w n) v0 v2 v4 v4
def f_X11_ahead_10 (fu : Nat) (w : MW) (v0 : Nat) (v1 : Int32) (v2 : Int32) (s0 : Int32) : Option Int32 :=
  bnd s0 fun x1 =>
  bnd (v1 + (1 : Int32)) fun x2 =>
  f_X11_ahead_16 fu w fu v0 v2 x1 x2
def f_X11_ahead (fu : Nat) (w : MW) (v0 : Nat) (v1 : Int32) (v2 : Int32) : Option Int32 :=
  if v1 ≤ v2 then
    f_X11_ahead_10 fu w v0 v1 v2 v1
  else
    f_X11_ahead_10 fu w v0 v1 v2 (-1 : Int32)
def f_X11_goesTo_80 (fu : Nat) (lr38 : MW → Nat → Int32 → Int32 → Option MW) (w : MW) (v0 : Nat) (v1 : Int32) : Option MW :=
  (gI w 11 v0 12).bind fun x16 =>
  (gI w 11 v0 13).bind fun x17 =>
  (cl w 11 v0 (f_X11_ahead fu w v0 x16 x17)).bind fun q18 =>
  bnd q18 fun x21 =>
  lr38 w v0 v1 x21
def f_X11_goesTo_38 (fu : Nat) : Nat → MW → Nat → Int32 → Int32 → Option MW
  | 0, _, _, _, _ => none
  | n + 1, w, v0, v1, v2 =>
    if v2 = v1 then
      some w
    else
      (pV w 11 v0 14 (.int v2)).bind fun w12 =>
      (gI w12 11 v0 15).bind fun x13 =>
      (pV w12 11 v0 15 (.int (x13 + (1 : Int32)))).bind fun w14 =>
      if v2 ≤ v1 then
        (pV w14 11 v0 12 (.int (v2 + (1 : Int32)))).bind fun w15 =>
        f_X11_goesTo_80 fu (f_X11_goesTo_38 fu n) w15 v0 v1
      else
        (pV w14 11 v0 13 (.int (v2 - (1 : Int32)))).bind fun w22 =>
        f_X11_goesTo_80 fu (f_X11_goesTo_38 fu n) w22 v0 v1
def f_X11_goesTo (fu : Nat) (w : MW) (v0 : Nat) (v1 : Int32) : Option MW :=
  (pV w 11 v0 12 (.int (0 : Int32))).bind fun w1 =>
  (gI w1 11 v0 11).bind fun x2 =>
  (pV w1 11 v0 13 (.int (x2 - (1 : Int32)))).bind fun w3 =>
  (pV w3 11 v0 14 (.int (-1 : Int32))).bind fun w4 =>
  (pV w4 11 v0 15 (.int (0 : Int32))).bind fun w5 =>
  (gI w5 11 v0 12).bind fun x6 =>
  (gI w5 11 v0 13).bind fun x7 =>
  (cl w5 11 v0 (f_X11_ahead fu w5 v0 x6 x7)).bind fun q8 =>
  bnd q8 fun x11 =>
  f_X11_goesTo_38 fu fu w5 v0 v1 x11
def f_X11_depth (fu : Nat) (w : MW) (v0 : Nat) (v1 : Int32) : Option (Int32 × MW) :=
  (cl w 11 v0 (f_X11_goesTo fu w v0 v1)).bind fun q1 =>
  (gI q1 11 v0 15).bind fun x4 =>
  some (x4, q1)
def f_X11_high_34 (fu : Nat) (lr4 : MW → Nat → Int32 → Int32 → Option (Int32 × MW)) (w : MW) (v0 : Nat) (v2 : Int32) (s0 : Int32) : Option (Int32 × MW) :=
  bnd s0 fun x7 =>
  bnd (v2 + 1) fun x8 =>
  lr4 w v0 x7 x8
def f_X11_high_4 (fu : Nat) : Nat → MW → Nat → Int32 → Int32 → Option (Int32 × MW)
  | 0, _, _, _, _ => none
  | n + 1, w, v0, v1, v2 =>
    (gI w 11 v0 11).bind fun x3 =>
    if x3 ≤ v2 then
      some (v1, w)
    else
      (cl w 11 v0 (f_X11_depth fu w v0 v2)).bind fun q4 =>
      if (q4.1 + (1 : Int32)) ≤ v1 then
        f_X11_high_34 fu (f_X11_high_4 fu n) q4.2 v0 v2 v1
      else
        (cl q4.2 11 v0 (f_X11_depth fu q4.2 v0 v2)).bind fun q9 =>
        f_X11_high_34 fu (f_X11_high_4 fu n) q9.2 v0 v2 (q9.1 + (1 : Int32))
def f_X11_high (fu : Nat) (w : MW) (v0 : Nat) : Option (Int32 × MW) :=
  bnd (0 : Int32) fun x1 =>
  bnd (0 : Int32) fun x2 =>
  f_X11_high_4 fu fu w v0 x1 x2
def f_X11_farOf_21 (fu : Nat) (w : MW) (v0 : Nat) (v1 : Int32) (v2 : Int32) (v3 : Int32) (s0 : Int32) : Option (Int32 × MW) :=
  bnd s0 fun x2 =>
  (cl w 11 v0 (f_X11_depth fu w v0 v1)).bind fun q3 =>
  (cl q3.2 11 v0 (f_X11_depth fu q3.2 v0 v2)).bind fun q6 =>
  (cl q6.2 11 v0 (f_X11_ahead fu q6.2 v0 v3 x2)).bind fun q9 =>
  (cl q6.2 11 v0 (f_X11_depth fu q6.2 v0 q9)).bind fun q12 =>
  some (((q3.1 + q6.1) - ((2 : Int32) * q12.1)), q12.2)
def f_X11_farOf_10 (fu : Nat) (w : MW) (v0 : Nat) (v1 : Int32) (v2 : Int32) (s0 : Int32) : Option (Int32 × MW) :=
  bnd s0 fun x1 =>
  if v2 ≤ v1 then
    f_X11_farOf_21 fu w v0 v1 v2 x1 v1
  else
    f_X11_farOf_21 fu w v0 v1 v2 x1 v2
def f_X11_farOf (fu : Nat) (w : MW) (v0 : Nat) (v1 : Int32) (v2 : Int32) : Option (Int32 × MW) :=
  if v2 ≤ v1 then
    f_X11_farOf_10 fu w v0 v1 v2 v2
  else
    f_X11_farOf_10 fu w v0 v1 v2 v1
def f_X11_endsRun_59 (fu : Nat) : Nat → MW → Nat → Int32 → Option MW
  | 0, _, _, _ => none
  | n + 1, w, v0, v1 =>
    if v1 ≤ (1 : Int32) then
      some w
    else
      (gI w 11 v0 17).bind fun x12 =>
      (pV w 11 v0 17 (.int (x12 + (1 : Int32)))).bind fun w13 =>
      bnd (v1 / (2 : Int32)) fun x14 =>
      (f_X11_endsRun_59 fu n) w13 v0 x14
def f_X11_endsRun_41 (fu : Nat) (w : MW) (v0 : Nat) (s0 : Nat) (s1 : Int32) : Option MW :=
  (pV w 11 s0 18 (.int s1)).bind fun w7 =>
  (gI w7 11 v0 17).bind fun x8 =>
  (pV w7 11 v0 17 (.int (x8 + (1 : Int32)))).bind fun w9 =>
  (gI w9 11 v0 19).bind fun x10 =>
  bnd x10 fun x11 =>
  f_X11_endsRun_59 fu fu w9 v0 x11
def f_X11_endsRun (fu : Nat) (w : MW) (v0 : Nat) : Option MW :=
  (gI w 11 v0 19).bind fun x1 =>
  if x1 = 0 then
    some w
  else
    (gI w 11 v0 16).bind fun x2 =>
    (pV w 11 v0 16 (.int (x2 + (1 : Int32)))).bind fun w3 =>
    (gI w3 11 v0 19).bind fun x4 =>
    (gI w3 11 v0 18).bind fun x5 =>
    if x4 ≤ x5 then
      (gI w3 11 v0 18).bind fun x6 =>
      f_X11_endsRun_41 fu w3 v0 v0 x6
    else
      (gI w3 11 v0 19).bind fun x15 =>
      f_X11_endsRun_41 fu w3 v0 v0 x15
def f_X11_goes_22 (fu : Nat) (w : MW) (v0 : Nat) : Option MW :=
  (gI w 11 v0 19).bind fun x2 =>
  (pV w 11 v0 19 (.int (x2 + (1 : Int32)))).bind fun w3 =>
  some w3
def f_X11_goes (fu : Nat) (w : MW) (v0 : Nat) (v1 : Int32) : Option MW :=
  (gI w 11 v0 20).bind fun x1 =>
  if v1 = x1 then
    f_X11_goes_22 fu w v0
  else
    (cl w 11 v0 (f_X11_endsRun fu w v0)).bind fun q4 =>
    (pV q4 11 v0 19 (.int (0 : Int32))).bind fun w7 =>
    (pV w7 11 v0 20 (.int v1)).bind fun w8 =>
    f_X11_goes_22 fu w8 v0
def f_X11_laysRuns_146 (fu : Nat) (lr30 : MW → Nat → Int32 → Int32 → Int32 → Int32 → Option MW) (w : MW) (v0 : Nat) (v1 : Int32) (v2 : Int32) (v3 : Int32) (s0 : Int32) (s1 : Int32) : Option MW :=
  bnd (s0 + s1) fun x23 =>
  lr30 w v0 v1 v2 v3 x23
def f_X11_laysRuns_130 (fu : Nat) (lr30 : MW → Nat → Int32 → Int32 → Int32 → Int32 → Option MW) (w : MW) (v0 : Nat) (v1 : Int32) (v2 : Int32) (v4 : Int32) (v5 : Int32) (v6 : Int32) (s0 : Int32) (s1 : Int32) : Option MW :=
  bnd (s0 + s1) fun x22 =>
  if v5 < v6 then
    f_X11_laysRuns_146 fu lr30 w v0 v1 v2 x22 v4 (0 : Int32)
  else
    f_X11_laysRuns_146 fu lr30 w v0 v1 v2 x22 v4 (1 : Int32)
def f_X11_laysRuns_117 (fu : Nat) (lr30 : MW → Nat → Int32 → Int32 → Int32 → Int32 → Option MW) (w : MW) (v0 : Nat) (v1 : Int32) (v2 : Int32) (v3 : Int32) (v4 : Int32) (v5 : Int32) (v6 : Int32) : Option MW :=
  if v6 < v5 then
    f_X11_laysRuns_130 fu lr30 w v0 v1 v2 v4 v5 v6 v3 (0 : Int32)
  else
    f_X11_laysRuns_130 fu lr30 w v0 v1 v2 v4 v5 v6 v3 (1 : Int32)
def f_X11_laysRuns_95 (fu : Nat) (lr30 : MW → Nat → Int32 → Int32 → Int32 → Int32 → Option MW) (w : MW) (v0 : Nat) (v1 : Int32) (v2 : Int32) (v3 : Int32) (v4 : Int32) (v5 : Int32) (s0 : Int32) : Option MW :=
  bnd s0 fun x18 =>
  if x18 < v5 then
    (cl w 11 v0 (f_X11_goes fu w v0 (1 : Int32))).bind fun q19 =>
    f_X11_laysRuns_117 fu lr30 q19 v0 v1 v2 v3 v4 v5 x18
  else
    (cl w 11 v0 (f_X11_goes fu w v0 (0 : Int32))).bind fun q24 =>
    f_X11_laysRuns_117 fu lr30 q24 v0 v1 v2 v3 v4 v5 x18
def f_X11_laysRuns_70 (fu : Nat) (lr30 : MW → Nat → Int32 → Int32 → Int32 → Int32 → Option MW) (w : MW) (v0 : Nat) (v1 : Int32) (v2 : Int32) (v3 : Int32) (v4 : Int32) (s0 : Int32) : Option MW :=
  bnd s0 fun x14 =>
  (cl w 11 v0 (f_X11_many w v0 v2)).bind fun q15 =>
  if q15 ≤ v4 then
    f_X11_laysRuns_95 fu lr30 w v0 v1 v2 v3 v4 x14 (10000 : Int32)
  else
    (cl w 11 v0 (f_X11_keyAt w v0 v2 v4)).bind fun q27 =>
    f_X11_laysRuns_95 fu lr30 w v0 v1 v2 v3 v4 x14 q27
def f_X11_laysRuns_49 (fu : Nat) (lr30 : MW → Nat → Int32 → Int32 → Int32 → Int32 → Option MW) (w : MW) (v0 : Nat) (v1 : Int32) (v2 : Int32) (v3 : Int32) (v4 : Int32) : Option MW :=
  (cl w 11 v0 (f_X11_many w v0 v1)).bind fun q11 =>
  if q11 ≤ v3 then
    f_X11_laysRuns_70 fu lr30 w v0 v1 v2 v3 v4 (10000 : Int32)
  else
    (cl w 11 v0 (f_X11_keyAt w v0 v1 v3)).bind fun q30 =>
    f_X11_laysRuns_70 fu lr30 w v0 v1 v2 v3 v4 q30
def f_X11_laysRuns_30 (fu : Nat) : Nat → MW → Nat → Int32 → Int32 → Int32 → Int32 → Option MW
  | 0, _, _, _, _, _, _ => none
  | n + 1, w, v0, v1, v2, v3, v4 =>
    (cl w 11 v0 (f_X11_many w v0 v1)).bind fun q8 =>
    if v3 < q8 then
      f_X11_laysRuns_49 fu (f_X11_laysRuns_30 fu n) w v0 v1 v2 v3 v4
    else
      (cl w 11 v0 (f_X11_many w v0 v2)).bind fun q33 =>
      if q33 ≤ v4 then
        (cl w 11 v0 (f_X11_endsRun fu w v0)).bind fun q36 =>
        some q36
      else
        f_X11_laysRuns_49 fu (f_X11_laysRuns_30 fu n) w v0 v1 v2 v3 v4
def f_X11_laysRuns (fu : Nat) (w : MW) (v0 : Nat) (v1 : Int32) (v2 : Int32) : Option MW :=
  (pV w 11 v0 16 (.int (0 : Int32))).bind fun w1 =>
  (pV w1 11 v0 17 (.int (0 : Int32))).bind fun w2 =>
  (pV w2 11 v0 18 (.int (0 : Int32))).bind fun w3 =>
  (pV w3 11 v0 19 (.int (0 : Int32))).bind fun w4 =>
  (pV w4 11 v0 20 (.int (-1 : Int32))).bind fun w5 =>
  bnd (0 : Int32) fun x6 =>
  bnd (0 : Int32) fun x7 =>
  f_X11_laysRuns_30 fu fu w5 v0 v1 v2 x6 x7
def f_X11_areTwo (w : MW) (v0 : Nat) (v1 : Int32) (v2 : Int32) : Option Int32 :=
  if (f_X11_isSet v1) = 0 then
    some (0 : Int32)
  else
    if (f_X11_isSet v2) = 0 then
      some (0 : Int32)
    else
      if v1 = v2 then
        some (0 : Int32)
      else
        some (1 : Int32)
def f_X11_refusesPut (fu : Nat) (w : MW) (v0 : Nat) (v1 : Int32) (v2 : Int32) : Option Int32 :=
  if (f_X11_isSet v1) = 0 then
    some (1 : Int32)
  else
    if (f_X11_isKey v2) = 0 then
      some (1 : Int32)
    else
      (cl w 11 v0 (f_X11_placeOf fu w v0 v1 v2)).bind fun q1 =>
      if q1 = (-1 : Int32) then
        (cl w 11 v0 (f_X11_many w v0 v1)).bind fun q4 =>
        if q4 = (60 : Int32) then
          some (4 : Int32)
        else
          (cl w 11 v0 (f_X11_total fu w v0)).bind fun q7 =>
          if q7 = (240 : Int32) then
            some (4 : Int32)
          else
            some (0 : Int32)
      else
        some (2 : Int32)
def f_X11_refusesCut (fu : Nat) (w : MW) (v0 : Nat) (v1 : Int32) (v2 : Int32) (v3 : Int32) : Option Int32 :=
  (cl w 11 v0 (f_X11_areTwo w v0 v1 v3)).bind fun q1 =>
  if q1 = 0 then
    some (1 : Int32)
  else
    if (f_X11_isKey v2) = 0 then
      some (1 : Int32)
    else
      (cl w 11 v0 (f_X11_counted fu w v0 v1 (v2 + (1 : Int32)) (9999 : Int32))).bind fun q4 =>
      if q4 = 0 then
        some (2 : Int32)
      else
        (cl w 11 v0 (f_X11_many w v0 v3)).bind fun q7 =>
        if q7 ≤ 0 then
          some (0 : Int32)
        else
          some (3 : Int32)
def f_X11_refusesJoin_52 (w : MW) (v0 : Nat) (v1 : Int32) (v2 : Int32) : Option Int32 :=
  (cl w 11 v0 (f_X11_many w v0 v1)).bind fun q10 =>
  (cl w 11 v0 (f_X11_many w v0 v2)).bind fun q13 =>
  if (q10 + q13) ≤ (60 : Int32) then
    some (0 : Int32)
  else
    some (4 : Int32)
def f_X11_refusesJoin (w : MW) (v0 : Nat) (v1 : Int32) (v2 : Int32) : Option Int32 :=
  (cl w 11 v0 (f_X11_areTwo w v0 v1 v2)).bind fun q1 =>
  if q1 = 0 then
    some (1 : Int32)
  else
    (cl w 11 v0 (f_X11_many w v0 v2)).bind fun q4 =>
    if q4 = 0 then
      some (2 : Int32)
    else
      (cl w 11 v0 (f_X11_many w v0 v1)).bind fun q7 =>
      if q7 ≤ 0 then
        f_X11_refusesJoin_52 w v0 v1 v2
      else
        (cl w 11 v0 (f_X11_many w v0 v1)).bind fun q16 =>
        (cl w 11 v0 (f_X11_keyAt w v0 v1 (q16 - (1 : Int32)))).bind fun q19 =>
        (cl w 11 v0 (f_X11_keyAt w v0 v2 (0 : Int32))).bind fun q22 =>
        if q19 < q22 then
          f_X11_refusesJoin_52 w v0 v1 v2
        else
          some (3 : Int32)
def f_X11_refusesMelt (fu : Nat) (w : MW) (v0 : Nat) (v1 : Int32) (v2 : Int32) : Option Int32 :=
  (cl w 11 v0 (f_X11_areTwo w v0 v1 v2)).bind fun q1 =>
  if q1 = 0 then
    some (1 : Int32)
  else
    (cl w 11 v0 (f_X11_many w v0 v2)).bind fun q4 =>
    if q4 = 0 then
      some (2 : Int32)
    else
      (cl w 11 v0 (f_X11_many w v0 v1)).bind fun q7 =>
      (cl w 11 v0 (f_X11_many w v0 v2)).bind fun q10 =>
      (cl w 11 v0 (f_X11_twins fu w v0 v1 v2)).bind fun q13 =>
      if ((q7 + q10) - q13) ≤ (60 : Int32) then
        some (0 : Int32)
      else
        some (4 : Int32)
def f_X11_refusesShift (w : MW) (v0 : Nat) (v1 : Int32) (v2 : Int32) : Option Int32 :=
  if (f_X11_isSet v1) = 0 then
    some (1 : Int32)
  else
    if (f_X11_isIn v2 (-9999 : Int32) (9999 : Int32)) = 0 then
      some (1 : Int32)
    else
      if v2 = 0 then
        some (2 : Int32)
      else
        (cl w 11 v0 (f_X11_many w v0 v1)).bind fun q1 =>
        if q1 = 0 then
          some (2 : Int32)
        else
          (cl w 11 v0 (f_X11_keyAt w v0 v1 (0 : Int32))).bind fun q4 =>
          if (f_X11_isKey (q4 + v2)) = 0 then
            some (3 : Int32)
          else
            (cl w 11 v0 (f_X11_many w v0 v1)).bind fun q7 =>
            (cl w 11 v0 (f_X11_keyAt w v0 v1 (q7 - (1 : Int32)))).bind fun q10 =>
            if (f_X11_isKey (q10 + v2)) = 0 then
              some (3 : Int32)
            else
              some (0 : Int32)
def f_X11_refusesMove (fu : Nat) (w : MW) (v0 : Nat) (v1 : Int32) (v2 : Int32) (v3 : Int32) (v4 : Int32) : Option Int32 :=
  (cl w 11 v0 (f_X11_areTwo w v0 v1 v4)).bind fun q1 =>
  if q1 = 0 then
    some (1 : Int32)
  else
    if (f_X11_isKey v2) = 0 then
      some (1 : Int32)
    else
      if (f_X11_isKey v3) = 0 then
        some (1 : Int32)
      else
        (cl w 11 v0 (f_X11_counted fu w v0 v1 v2 v3)).bind fun q4 =>
        bnd q4 fun x7 =>
        if x7 = 0 then
          some (2 : Int32)
        else
          (cl w 11 v0 (f_X11_below fu w v0 v1 v2)).bind fun q8 =>
          bnd q8 fun x11 =>
          (cl w 11 v0 (f_X11_keyAt w v0 v1 x11)).bind fun q12 =>
          (cl w 11 v0 (f_X11_keyAt w v0 v1 ((x11 + x7) - (1 : Int32)))).bind fun q15 =>
          (cl w 11 v0 (f_X11_counted fu w v0 v4 q12 q15)).bind fun q18 =>
          if q18 ≤ 0 then
            (cl w 11 v0 (f_X11_many w v0 v4)).bind fun q21 =>
            if (q21 + x7) ≤ (60 : Int32) then
              some (0 : Int32)
            else
              some (4 : Int32)
          else
            some (3 : Int32)
def f_X11_marked_76 (fu : Nat) (lr6 : MW → Nat → Int32 → Int32 → Int32 → Int32 → Int32 → Int32 → Int32 → Option (Int32 × MW)) (w : MW) (v0 : Nat) (v1 : Int32) (v2 : Int32) (v3 : Int32) (v4 : Int32) (v5 : Int32) (v6 : Int32) (v7 : Int32) : Option (Int32 × MW) :=
  bnd (v7 + 1) fun x9 =>
  lr6 w v0 v1 v2 v3 v4 v5 v6 x9
def f_X11_marked_6 (fu : Nat) : Nat → MW → Nat → Int32 → Int32 → Int32 → Int32 → Int32 → Int32 → Int32 → Option (Int32 × MW)
  | 0, _, _, _, _, _, _, _, _, _ => none
  | n + 1, w, v0, v1, v2, v3, v4, v5, v6, v7 =>
    (cl w 11 v0 (f_X11_many w v0 v1)).bind fun q3 =>
    if q3 ≤ v7 then
      some (v6, w)
    else
      (cl w 11 v0 (f_X11_keyAt w v0 v1 v7)).bind fun q6 =>
      if (f_X11_isIn q6 v2 v3) = 0 then
        f_X11_marked_76 fu (f_X11_marked_6 fu n) w v0 v1 v2 v3 v4 v5 v6 v7
      else
        (cl w 11 v0 (f_X11_markAt w v0 v1 v7)).bind fun q10 =>
        if q10 = v4 then
          f_X11_marked_76 fu (f_X11_marked_6 fu n) w v0 v1 v2 v3 v4 v5 v6 v7
        else
          bnd (v6 + 1) fun x13 =>
          if v5 = 0 then
            f_X11_marked_76 fu (f_X11_marked_6 fu n) w v0 v1 v2 v3 v4 v5 x13 v7
          else
            (gR w 11 v0 0).bind fun x14 =>
            (gI w 11 v0 9).bind fun x15 =>
            (sI w .int x14 (((x15 + ((122 : Int32) * v1)) + (62 : Int32)) + v7) v4).bind fun w16 =>
            f_X11_marked_76 fu (f_X11_marked_6 fu n) w16 v0 v1 v2 v3 v4 v5 x13 v7
def f_X11_marked (fu : Nat) (w : MW) (v0 : Nat) (v1 : Int32) (v2 : Int32) (v3 : Int32) (v4 : Int32) (v5 : Int32) : Option (Int32 × MW) :=
  bnd (0 : Int32) fun x1 =>
  bnd (0 : Int32) fun x2 =>
  f_X11_marked_6 fu fu w v0 v1 v2 v3 v4 v5 x1 x2
def f_X11_refusesMark (fu : Nat) (w : MW) (v0 : Nat) (v1 : Int32) (v2 : Int32) (v3 : Int32) (v4 : Int32) : Option (Int32 × MW) :=
  if (f_X11_isSet v1) = 0 then
    some ((1 : Int32), w)
  else
    if (f_X11_isKey v2) = 0 then
      some ((1 : Int32), w)
    else
      if (f_X11_isKey v3) = 0 then
        some ((1 : Int32), w)
      else
        (cl w 11 v0 (f_X11_marked fu w v0 v1 v2 v3 v4 (0 : Int32))).bind fun q1 =>
        if q1.1 = 0 then
          some ((2 : Int32), q1.2)
        else
          some ((0 : Int32), q1.2)
def f_X11_goOver_109 (fu : Nat) (lr20 : MW → Nat → Int32 → Int32 → Int32 → Int32 → Int32 → Option (Int32 × MW)) (w : MW) (v0 : Nat) (v1 : Int32) (v4 : Int32) (v5 : Int32) (v6 : Int32) (v7 : Int32) : Option (Int32 × MW) :=
  bnd (v7 + 1) fun x25 =>
  lr20 w v0 v1 v4 v5 v6 x25
def f_X11_goOver_20 (fu : Nat) : Nat → MW → Nat → Int32 → Int32 → Int32 → Int32 → Int32 → Option (Int32 × MW)
  | 0, _, _, _, _, _, _, _ => none
  | n + 1, w, v0, v1, v4, v5, v6, v7 =>
    if v5 ≤ v7 then
      some (v5, w)
    else
      (cl w 11 v0 (f_X11_keyAt w v0 v1 v6)).bind fun q10 =>
      bnd q10 fun x13 =>
      (cl w 11 v0 (f_X11_markAt w v0 v1 v6)).bind fun q14 =>
      bnd q14 fun x17 =>
      (cl w 11 v0 (f_X11_drops fu w v0 v1 v6)).bind fun q18 =>
      (cl q18 11 v0 (f_X11_placeOf fu q18 v0 v4 x13)).bind fun q21 =>
      bnd q21 fun x24 =>
      if x24 = (-1 : Int32) then
        (cl q18 11 v0 (f_X11_puts fu q18 v0 v4 x13 x17)).bind fun q29 =>
        f_X11_goOver_109 fu (f_X11_goOver_20 fu n) q29 v0 v1 v4 v5 v6 v7
      else
        if x17 = (1 : Int32) then
          (gR q18 11 v0 0).bind fun x26 =>
          (gI q18 11 v0 9).bind fun x27 =>
          (sI q18 .int x26 (((x27 + ((122 : Int32) * v4)) + (62 : Int32)) + x24) (1 : Int32)).bind fun w28 =>
          f_X11_goOver_109 fu (f_X11_goOver_20 fu n) w28 v0 v1 v4 v5 v6 v7
        else
          f_X11_goOver_109 fu (f_X11_goOver_20 fu n) q18 v0 v1 v4 v5 v6 v7
def f_X11_goOver (fu : Nat) (w : MW) (v0 : Nat) (v1 : Int32) (v2 : Int32) (v3 : Int32) (v4 : Int32) : Option (Int32 × MW) :=
  (cl w 11 v0 (f_X11_counted fu w v0 v1 v2 v3)).bind fun q1 =>
  bnd q1 fun x4 =>
  (cl w 11 v0 (f_X11_below fu w v0 v1 v2)).bind fun q5 =>
  bnd q5 fun x8 =>
  bnd (0 : Int32) fun x9 =>
  f_X11_goOver_20 fu fu w v0 v1 v4 x4 x8 x9
def f_X11_shifts_2 (fu : Nat) : Nat → MW → Nat → Int32 → Int32 → Int32 → Option MW
  | 0, _, _, _, _, _ => none
  | n + 1, w, v0, v1, v2, v3 =>
    (cl w 11 v0 (f_X11_many w v0 v1)).bind fun q2 =>
    if q2 ≤ v3 then
      (cl w 11 v0 (f_X11_finger w v0 v1)).bind fun q5 =>
      if q5 = (-1 : Int32) then
        some w
      else
        (cl w 11 v0 (f_X11_finger w v0 v1)).bind fun q8 =>
        (cl w 11 v0 (f_X11_points w v0 v1 (q8 + v2))).bind fun q11 =>
        some q11
    else
      (gR w 11 v0 0).bind fun x14 =>
      (gI w 11 v0 9).bind fun x15 =>
      (aI w .int x14 (((x15 + ((122 : Int32) * v1)) + (2 : Int32)) + v3)).bind fun x16 =>
      (sI w .int x14 (((x15 + ((122 : Int32) * v1)) + (2 : Int32)) + v3) (x16 + v2)).bind fun w17 =>
      bnd (v3 + 1) fun x18 =>
      (f_X11_shifts_2 fu n) w17 v0 v1 v2 x18
def f_X11_shifts (fu : Nat) (w : MW) (v0 : Nat) (v1 : Int32) (v2 : Int32) : Option MW :=
  bnd (0 : Int32) fun x1 =>
  f_X11_shifts_2 fu fu w v0 v1 v2 x1
def f_X11_keeps_32 (fu : Nat) (w : MW) (v0 : Nat) : Option MW :=
  (gI w 11 v0 8).bind fun x2 =>
  (cl w 11 v0 (f_X11_copies fu w v0 (0 : Int32) ((1952 : Int32) + ((976 : Int32) * x2)) (976 : Int32))).bind fun q3 =>
  (gI q3 11 v0 8).bind fun x6 =>
  (pV q3 11 v0 8 (.int (x6 + (1 : Int32)))).bind fun w7 =>
  some w7
def f_X11_keeps (fu : Nat) (w : MW) (v0 : Nat) : Option MW :=
  (gI w 11 v0 8).bind fun x1 =>
  if x1 = (12 : Int32) then
    (cl w 11 v0 (f_X11_copies fu w v0 (2928 : Int32) (1952 : Int32) (10736 : Int32))).bind fun q8 =>
    (gI q8 11 v0 8).bind fun x11 =>
    (pV q8 11 v0 8 (.int (x11 - (1 : Int32)))).bind fun w12 =>
    f_X11_keeps_32 fu w12 v0
  else
    f_X11_keeps_32 fu w v0
def f_X11_begins (fu : Nat) (w : MW) (v0 : Nat) (v1 : Int32) : Option (Int32 × MW) :=
  if v1 = 0 then
    (cl w 11 v0 (f_X11_keeps fu w v0)).bind fun q1 =>
    some (v1, q1)
  else
    some (v1, w)
def f_X11_put (fu : Nat) (w : MW) (v0 : Nat) (v1 : Int32) (v2 : Int32) : Option (Int32 × MW) :=
  (cl w 11 v0 (f_X11_refusesPut fu w v0 v1 v2)).bind fun q1 =>
  (cl w 11 v0 (f_X11_begins fu w v0 q1)).bind fun q4 =>
  bnd q4.1 fun x7 =>
  if x7 ≤ 0 then
    (cl q4.2 11 v0 (f_X11_puts fu q4.2 v0 v1 v2 (0 : Int32))).bind fun q8 =>
    (cl q8 11 v0 (f_X11_below fu q8 v0 v1 v2)).bind fun q11 =>
    some (q11, q8)
  else
    some ((-x7), q4.2)
def f_X11_drop_34 (fu : Nat) (w : MW) (v0 : Nat) (v1 : Int32) (v2 : Int32) (s0 : Nat) (s1 : Int32) : Option (Int32 × MW) :=
  (cl w 11 s0 (f_X11_begins fu w s0 s1)).bind fun q1 =>
  bnd q1.1 fun x4 =>
  if x4 ≤ 0 then
    (cl q1.2 11 v0 (f_X11_placeOf fu q1.2 v0 v1 v2)).bind fun q5 =>
    (cl q1.2 11 v0 (f_X11_drops fu q1.2 v0 v1 q5)).bind fun q8 =>
    (cl q8 11 v0 (f_X11_many q8 v0 v1)).bind fun q11 =>
    some (q11, q8)
  else
    some ((-x4), q1.2)
def f_X11_drop (fu : Nat) (w : MW) (v0 : Nat) (v1 : Int32) (v2 : Int32) : Option (Int32 × MW) :=
  if (f_X11_isSet v1) = 0 then
    f_X11_drop_34 fu w v0 v1 v2 v0 (1 : Int32)
  else
    if (f_X11_isKey v2) = 0 then
      f_X11_drop_34 fu w v0 v1 v2 v0 (1 : Int32)
    else
      (cl w 11 v0 (f_X11_placeOf fu w v0 v1 v2)).bind fun q14 =>
      if q14 = (-1 : Int32) then
        f_X11_drop_34 fu w v0 v1 v2 v0 (2 : Int32)
      else
        f_X11_drop_34 fu w v0 v1 v2 v0 (0 : Int32)
def f_X11_cut (fu : Nat) (w : MW) (v0 : Nat) (v1 : Int32) (v2 : Int32) (v3 : Int32) : Option (Int32 × MW) :=
  (cl w 11 v0 (f_X11_refusesCut fu w v0 v1 v2 v3)).bind fun q1 =>
  (cl w 11 v0 (f_X11_begins fu w v0 q1)).bind fun q4 =>
  bnd q4.1 fun x7 =>
  if x7 ≤ 0 then
    (cl q4.2 11 v0 (f_X11_goOver fu q4.2 v0 v1 (v2 + (1 : Int32)) (9999 : Int32) v3)).bind fun q8 =>
    some (q8.1, q8.2)
  else
    some ((-x7), q4.2)
def f_X11_join (fu : Nat) (w : MW) (v0 : Nat) (v1 : Int32) (v2 : Int32) : Option (Int32 × MW) :=
  (cl w 11 v0 (f_X11_refusesJoin w v0 v1 v2)).bind fun q1 =>
  (cl w 11 v0 (f_X11_begins fu w v0 q1)).bind fun q4 =>
  bnd q4.1 fun x7 =>
  if x7 ≤ 0 then
    (cl q4.2 11 v0 (f_X11_many q4.2 v0 v1)).bind fun q8 =>
    (cl q4.2 11 v0 (f_X11_goOver fu q4.2 v0 v2 (0 : Int32) (9999 : Int32) v1)).bind fun q11 =>
    some ((q8 + q11.1), q11.2)
  else
    some ((-x7), q4.2)
def f_X11_melt (fu : Nat) (w : MW) (v0 : Nat) (v1 : Int32) (v2 : Int32) : Option (Int32 × MW) :=
  (cl w 11 v0 (f_X11_refusesMelt fu w v0 v1 v2)).bind fun q1 =>
  (cl w 11 v0 (f_X11_begins fu w v0 q1)).bind fun q4 =>
  bnd q4.1 fun x7 =>
  if x7 ≤ 0 then
    (cl q4.2 11 v0 (f_X11_laysRuns fu q4.2 v0 v1 v2)).bind fun q8 =>
    (gI q8 11 v0 17).bind fun x11 =>
    bnd x11 fun x12 =>
    (cl q8 11 v0 (f_X11_goOver fu q8 v0 v2 (0 : Int32) (9999 : Int32) v1)).bind fun q13 =>
    bnd q13.1 fun x16 =>
    if x16 ≤ 0 then
      some ((0 : Int32), q13.2)
    else
      some (x12, q13.2)
  else
    some ((-x7), q4.2)
def f_X11_shift (fu : Nat) (w : MW) (v0 : Nat) (v1 : Int32) (v2 : Int32) : Option (Int32 × MW) :=
  (cl w 11 v0 (f_X11_refusesShift w v0 v1 v2)).bind fun q1 =>
  (cl w 11 v0 (f_X11_begins fu w v0 q1)).bind fun q4 =>
  bnd q4.1 fun x7 =>
  if x7 ≤ 0 then
    (cl q4.2 11 v0 (f_X11_shifts fu q4.2 v0 v1 v2)).bind fun q8 =>
    (cl q8 11 v0 (f_X11_many q8 v0 v1)).bind fun q11 =>
    some (q11, q8)
  else
    some ((-x7), q4.2)
def f_X11_move (fu : Nat) (w : MW) (v0 : Nat) (v1 : Int32) (v2 : Int32) (v3 : Int32) (v4 : Int32) : Option (Int32 × MW) :=
  (cl w 11 v0 (f_X11_refusesMove fu w v0 v1 v2 v3 v4)).bind fun q1 =>
  (cl w 11 v0 (f_X11_begins fu w v0 q1)).bind fun q4 =>
  bnd q4.1 fun x7 =>
  if x7 ≤ 0 then
    (cl q4.2 11 v0 (f_X11_goOver fu q4.2 v0 v1 v2 v3 v4)).bind fun q8 =>
    some (q8.1, q8.2)
  else
    some ((-x7), q4.2)
def f_X11_mark_48 (fu : Nat) (w : MW) (s0 : Nat) (s1 : Int32) (s2 : Int32) (s3 : Int32) (s4 : Int32) : Option (Int32 × MW) :=
  (cl w 11 s0 (f_X11_marked fu w s0 s1 s2 s3 s4 (1 : Int32))).bind fun q8 =>
  some (q8.1, q8.2)
def f_X11_mark_15 (fu : Nat) (w : MW) (v0 : Nat) (v1 : Int32) (v2 : Int32) (v3 : Int32) (v4 : Int32) (s0 : Nat) (s1 : Nat) (s2 : Int32) (s3 : Int32) (s4 : Int32) (s5 : Int32) : Option (Int32 × MW) :=
  (cl w 11 s1 (f_X11_refusesMark fu w s1 s2 s3 s4 s5)).bind fun q1 =>
  (cl q1.2 11 s0 (f_X11_begins fu q1.2 s0 q1.1)).bind fun q4 =>
  bnd q4.1 fun x7 =>
  if x7 ≤ 0 then
    if v4 = 0 then
      f_X11_mark_48 fu q4.2 v0 v1 v2 v3 (1 : Int32)
    else
      f_X11_mark_48 fu q4.2 v0 v1 v2 v3 (0 : Int32)
  else
    some ((-x7), q4.2)
def f_X11_mark (fu : Nat) (w : MW) (v0 : Nat) (v1 : Int32) (v2 : Int32) (v3 : Int32) (v4 : Int32) : Option (Int32 × MW) :=
  if v4 = 0 then
    f_X11_mark_15 fu w v0 v1 v2 v3 v4 v0 v0 v1 v2 v3 (1 : Int32)
  else
    f_X11_mark_15 fu w v0 v1 v2 v3 v4 v0 v0 v1 v2 v3 (0 : Int32)
def f_X11_seek_92 (fu : Nat) (w : MW) (v0 : Nat) (v1 : Int32) (v4 : Int32) (s0 : Int32) : Option (Int32 × MW) :=
  bnd s0 fun x19 =>
  (cl w 11 v0 (f_X11_keyAt w v0 v1 v4)).bind fun q20 =>
  (cl w 11 v0 (f_X11_points w v0 v1 q20)).bind fun q23 =>
  (cl q23 11 v0 (f_X11_laysRow fu q23 v0 v1)).bind fun q26 =>
  (cl q26 11 v0 (f_X11_farOf fu q26 v0 x19 v4)).bind fun q29 =>
  some (q29.1, q29.2)
def f_X11_seek_66 (fu : Nat) (w : MW) (v0 : Nat) (v1 : Int32) (s0 : Int32) : Option (Int32 × MW) :=
  bnd s0 fun x9 =>
  (cl w 11 v0 (f_X11_finger w v0 v1)).bind fun q10 =>
  if q10 = (-1 : Int32) then
    f_X11_seek_92 fu w v0 v1 x9 x9
  else
    (cl w 11 v0 (f_X11_finger w v0 v1)).bind fun q13 =>
    (cl w 11 v0 (f_X11_placeOf fu w v0 v1 q13)).bind fun q16 =>
    f_X11_seek_92 fu w v0 v1 x9 q16
def f_X11_seek_32 (fu : Nat) (w : MW) (v0 : Nat) (v1 : Int32) (v2 : Int32) (s0 : Nat) (s1 : Int32) : Option (Int32 × MW) :=
  (cl w 11 s0 (f_X11_begins fu w s0 s1)).bind fun q1 =>
  bnd q1.1 fun x4 =>
  if x4 ≤ 0 then
    (cl q1.2 11 v0 (f_X11_below fu q1.2 v0 v1 (v2 + (1 : Int32)))).bind fun q5 =>
    bnd (q5 - (1 : Int32)) fun x8 =>
    if 0 ≤ x8 then
      f_X11_seek_66 fu q1.2 v0 v1 x8
    else
      f_X11_seek_66 fu q1.2 v0 v1 (0 : Int32)
  else
    some ((-x4), q1.2)
def f_X11_seek (fu : Nat) (w : MW) (v0 : Nat) (v1 : Int32) (v2 : Int32) : Option (Int32 × MW) :=
  if (f_X11_isSet v1) = 0 then
    f_X11_seek_32 fu w v0 v1 v2 v0 (1 : Int32)
  else
    if (f_X11_isKey v2) = 0 then
      f_X11_seek_32 fu w v0 v1 v2 v0 (1 : Int32)
    else
      (cl w 11 v0 (f_X11_many w v0 v1)).bind fun q32 =>
      if q32 = 0 then
        f_X11_seek_32 fu w v0 v1 v2 v0 (2 : Int32)
      else
        f_X11_seek_32 fu w v0 v1 v2 v0 (0 : Int32)
def f_X11_undo (fu : Nat) (w : MW) (v0 : Nat) : Option (Int32 × MW) :=
  (gI w 11 v0 8).bind fun x1 =>
  if x1 = 0 then
    some ((-1 : Int32), w)
  else
    (gI w 11 v0 8).bind fun x2 =>
    (pV w 11 v0 8 (.int (x2 - (1 : Int32)))).bind fun w3 =>
    (gI w3 11 v0 8).bind fun x4 =>
    (cl w3 11 v0 (f_X11_copies fu w3 v0 ((1952 : Int32) + ((976 : Int32) * x4)) (0 : Int32) (976 : Int32))).bind fun q5 =>
    (gI q5 11 v0 8).bind fun x8 =>
    some (x8, q5)
def f_X11_summed_140 (fu : Nat) (lr13 : MW → Nat → Int32 → Int32 → Int32 → Int32 → Int32 → Option (Int32 × MW)) (w : MW) (v0 : Nat) (v1 : Int32) (v2 : Int32) (v4 : Int32) (v5 : Int32) (s0 : Int32) (s1 : Int32) : Option (Int32 × MW) :=
  bnd (s0 + s1) fun x12 =>
  bnd (v5 + 1) fun x13 =>
  lr13 w v0 v1 v2 x12 v4 x13
def f_X11_summed_75 (fu : Nat) (lr13 : MW → Nat → Int32 → Int32 → Int32 → Int32 → Int32 → Option (Int32 × MW)) (w : MW) (v0 : Nat) (v1 : Int32) (v2 : Int32) (v3 : Int32) (v5 : Int32) (v6 : Int32) (s0 : Int32) : Option (Int32 × MW) :=
  bnd s0 fun x9 =>
  if v2 = (3 : Int32) then
    (cl w 11 v0 (f_X11_markAt w v0 v1 v5)).bind fun q17 =>
    f_X11_summed_140 fu lr13 w v0 v1 v2 x9 v5 v3 q17
  else
    if v2 = (8 : Int32) then
      (cl w 11 v0 (f_X11_depth fu w v0 v5)).bind fun q14 =>
      f_X11_summed_140 fu lr13 q14.2 v0 v1 v2 x9 v5 v3 q14.1
    else
      if v2 = (9 : Int32) then
        if v5 ≤ 0 then
          f_X11_summed_140 fu lr13 w v0 v1 v2 x9 v5 v3 (1 : Int32)
        else
          if v6 = (1 : Int32) then
            f_X11_summed_140 fu lr13 w v0 v1 v2 x9 v5 v3 (0 : Int32)
          else
            f_X11_summed_140 fu lr13 w v0 v1 v2 x9 v5 v3 (1 : Int32)
      else
        (gR w 11 v0 10).bind fun x10 =>
        (aI w .int x10 v5).bind fun x11 =>
        f_X11_summed_140 fu lr13 w v0 v1 v2 x9 v5 v3 x11
def f_X11_summed_48 (fu : Nat) (lr13 : MW → Nat → Int32 → Int32 → Int32 → Int32 → Int32 → Option (Int32 × MW)) (w : MW) (v0 : Nat) (v1 : Int32) (v2 : Int32) (v3 : Int32) (v4 : Int32) (v5 : Int32) (s0 : Int32) : Option (Int32 × MW) :=
  bnd s0 fun x8 =>
  if v5 ≤ 0 then
    f_X11_summed_75 fu lr13 w v0 v1 v2 v3 v5 x8 v4
  else
    if v4 = (-1 : Int32) then
      f_X11_summed_75 fu lr13 w v0 v1 v2 v3 v5 x8 x8
    else
      if v4 ≤ x8 then
        f_X11_summed_75 fu lr13 w v0 v1 v2 v3 v5 x8 v4
      else
        f_X11_summed_75 fu lr13 w v0 v1 v2 v3 v5 x8 x8
def f_X11_summed_13 (fu : Nat) : Nat → MW → Nat → Int32 → Int32 → Int32 → Int32 → Int32 → Option (Int32 × MW)
  | 0, _, _, _, _, _, _, _ => none
  | n + 1, w, v0, v1, v2, v3, v4, v5 =>
    (gI w 11 v0 11).bind fun x7 =>
    if x7 ≤ v5 then
      if v2 = (7 : Int32) then
        some (v4, w)
      else
        some (v3, w)
    else
      if v5 ≤ 0 then
        f_X11_summed_48 fu (f_X11_summed_13 fu n) w v0 v1 v2 v3 v4 v5 (0 : Int32)
      else
        (gR w 11 v0 10).bind fun x20 =>
        (aI w .int x20 v5).bind fun x21 =>
        (gR w 11 v0 10).bind fun x22 =>
        (aI w .int x22 (v5 - (1 : Int32))).bind fun x23 =>
        f_X11_summed_48 fu (f_X11_summed_13 fu n) w v0 v1 v2 v3 v4 v5 (x21 - x23)
def f_X11_summed (fu : Nat) (w : MW) (v0 : Nat) (v1 : Int32) (v2 : Int32) : Option (Int32 × MW) :=
  (cl w 11 v0 (f_X11_laysRow fu w v0 v1)).bind fun q1 =>
  bnd (0 : Int32) fun x4 =>
  bnd (-1 : Int32) fun x5 =>
  bnd (0 : Int32) fun x6 =>
  f_X11_summed_13 fu fu q1 v0 v1 v2 x4 x5 x6
def f_X11_set (fu : Nat) (w : MW) (v0 : Nat) (v1 : Int32) (v2 : Int32) : Option (Int32 × MW) :=
  if (f_X11_isSet v1) = 0 then
    some ((-1 : Int32), w)
  else
    (cl w 11 v0 (f_X11_laysRow fu w v0 v1)).bind fun q1 =>
    if v2 = 0 then
      (gI q1 11 v0 11).bind fun x5 =>
      some (x5, q1)
    else if v2 = 1 then
      (gI q1 11 v0 11).bind fun x7 =>
      if x7 = 0 then
        some ((-1 : Int32), q1)
      else
        (gR q1 11 v0 10).bind fun x8 =>
        (aI q1 .int x8 (0 : Int32)).bind fun x9 =>
        some (x9, q1)
    else if v2 = 2 then
      (gI q1 11 v0 11).bind fun x11 =>
      if x11 = 0 then
        some ((-1 : Int32), q1)
      else
        (gR q1 11 v0 10).bind fun x12 =>
        (gI q1 11 v0 11).bind fun x13 =>
        (aI q1 .int x12 (x13 - (1 : Int32))).bind fun x14 =>
        some (x14, q1)
    else if v2 = 3 then
      (cl q1 11 v0 (f_X11_summed fu q1 v0 v1 v2)).bind fun q16 =>
      some (q16.1, q16.2)
    else if v2 = 4 then
      (gI q1 11 v0 11).bind fun x20 =>
      if x20 = 0 then
        some ((-1 : Int32), q1)
      else
        (gR q1 11 v0 10).bind fun x21 =>
        (gI q1 11 v0 11).bind fun x22 =>
        (cl q1 11 v0 (f_X11_ahead fu q1 v0 (0 : Int32) (x22 - (1 : Int32)))).bind fun q23 =>
        (aI q1 .int x21 q23).bind fun x26 =>
        some (x26, q1)
    else if v2 = 5 then
      (cl q1 11 v0 (f_X11_high fu q1 v0)).bind fun q28 =>
      some (q28.1, q28.2)
    else if v2 = 6 then
      (cl q1 11 v0 (f_X11_finger q1 v0 v1)).bind fun q32 =>
      some (q32, q1)
    else if v2 = 7 then
      (cl q1 11 v0 (f_X11_summed fu q1 v0 v1 v2)).bind fun q36 =>
      some (q36.1, q36.2)
    else if v2 = 8 then
      (cl q1 11 v0 (f_X11_summed fu q1 v0 v1 v2)).bind fun q40 =>
      some (q40.1, q40.2)
    else if v2 = 9 then
      (cl q1 11 v0 (f_X11_summed fu q1 v0 v1 v2)).bind fun q44 =>
      some (q44.1, q44.2)
    else if v2 = 10 then
      (cl q1 11 v0 (f_X11_summed fu q1 v0 v1 v2)).bind fun q48 =>
      some (q48.1, q48.2)
    else 
      some ((-1 : Int32), q1)
def f_X11_key (w : MW) (v0 : Nat) (v1 : Int32) (v2 : Int32) : Option Int32 :=
  if (f_X11_isSet v1) = 0 then
    some (-1 : Int32)
  else
    (cl w 11 v0 (f_X11_many w v0 v1)).bind fun q1 =>
    if (f_X11_isIn v2 (0 : Int32) (q1 - (1 : Int32))) = 0 then
      some (-1 : Int32)
    else
      (cl w 11 v0 (f_X11_keyAt w v0 v1 v2)).bind fun q4 =>
      some q4
def f_X11_keyOf (w : MW) (v0 : Nat) (v1 : Int32) : Option Int32 :=
  if v1 = (-1 : Int32) then
    some (-1 : Int32)
  else
    (gR w 11 v0 10).bind fun x1 =>
    (aI w .int x1 v1).bind fun x2 =>
    some x2
def f_X11_of (fu : Nat) (w : MW) (v0 : Nat) (v1 : Int32) (v2 : Int32) (v3 : Int32) : Option (Int32 × MW) :=
  if (f_X11_isSet v1) = 0 then
    some ((-1 : Int32), w)
  else
    (cl w 11 v0 (f_X11_placeOf fu w v0 v1 v2)).bind fun q1 =>
    if q1 = (-1 : Int32) then
      some ((-1 : Int32), w)
    else
      (cl w 11 v0 (f_X11_laysRow fu w v0 v1)).bind fun q4 =>
      (cl q4 11 v0 (f_X11_placeOf fu q4 v0 v1 v2)).bind fun q7 =>
      bnd q7 fun x10 =>
      (cl q4 11 v0 (f_X11_goesTo fu q4 v0 x10)).bind fun q11 =>
      if v3 = 0 then
        some (x10, q11)
      else if v3 = 1 then
        (cl q11 11 v0 (f_X11_markAt q11 v0 v1 x10)).bind fun q16 =>
        some (q16, q11)
      else if v3 = 2 then
        (gI q11 11 v0 15).bind fun x20 =>
        some (x20, q11)
      else if v3 = 3 then
        (gI q11 11 v0 14).bind fun x22 =>
        (cl q11 11 v0 (f_X11_keyOf q11 v0 x22)).bind fun q23 =>
        some (q23, q11)
      else if v3 = 4 then
        (gI q11 11 v0 12).bind fun x27 =>
        (cl q11 11 v0 (f_X11_ahead fu q11 v0 x27 (x10 - (1 : Int32)))).bind fun q28 =>
        (cl q11 11 v0 (f_X11_keyOf q11 v0 q28)).bind fun q31 =>
        some (q31, q11)
      else if v3 = 5 then
        (gI q11 11 v0 13).bind fun x35 =>
        (cl q11 11 v0 (f_X11_ahead fu q11 v0 (x10 + (1 : Int32)) x35)).bind fun q36 =>
        (cl q11 11 v0 (f_X11_keyOf q11 v0 q36)).bind fun q39 =>
        some (q39, q11)
      else if v3 = 6 then
        some ((f_X11_priority v2), q11)
      else if v3 = 7 then
        (gI q11 11 v0 13).bind fun x44 =>
        (gI q11 11 v0 12).bind fun x45 =>
        some ((x44 - x45), q11)
      else 
        some ((-1 : Int32), q11)
def f_X11_within_63 (fu : Nat) (w : MW) (lr15 : Nat → Int32 → Int32 → Int32 → Int32 → Int32 → Int32 → Option Int32) (v0 : Nat) (v1 : Int32) (v2 : Int32) (v3 : Int32) (v4 : Int32) (v6 : Int32) (s0 : Int32) (s1 : Int32) : Option Int32 :=
  bnd (s0 + s1) fun x9 =>
  bnd (v6 + 1) fun x10 =>
  lr15 v0 v1 v2 v3 v4 x9 x10
def f_X11_within_15 (fu : Nat) (w : MW) : Nat → Nat → Int32 → Int32 → Int32 → Int32 → Int32 → Int32 → Option Int32
  | 0, _, _, _, _, _, _, _ => none
  | n + 1, v0, v1, v2, v3, v4, v5, v6 =>
    (cl w 11 v0 (f_X11_many w v0 v1)).bind fun q3 =>
    if q3 ≤ v6 then
      some v5
    else
      (cl w 11 v0 (f_X11_keyAt w v0 v1 v6)).bind fun q6 =>
      if (f_X11_isIn q6 v2 v3) = 0 then
        f_X11_within_63 fu w (f_X11_within_15 fu w n) v0 v1 v2 v3 v4 v6 v5 (0 : Int32)
      else
        if v4 = 0 then
          f_X11_within_63 fu w (f_X11_within_15 fu w n) v0 v1 v2 v3 v4 v6 v5 (1 : Int32)
        else
          (cl w 11 v0 (f_X11_markAt w v0 v1 v6)).bind fun q11 =>
          if q11 = (1 : Int32) then
            f_X11_within_63 fu w (f_X11_within_15 fu w n) v0 v1 v2 v3 v4 v6 v5 (1 : Int32)
          else
            f_X11_within_63 fu w (f_X11_within_15 fu w n) v0 v1 v2 v3 v4 v6 v5 (0 : Int32)
def f_X11_within (fu : Nat) (w : MW) (v0 : Nat) (v1 : Int32) (v2 : Int32) (v3 : Int32) (v4 : Int32) : Option Int32 :=
  if (f_X11_isSet v1) = 0 then
    some (-1 : Int32)
  else
    bnd (0 : Int32) fun x1 =>
    bnd (0 : Int32) fun x2 =>
    f_X11_within_15 fu w fu v0 v1 v2 v3 v4 x1 x2
def f_X11_far (fu : Nat) (w : MW) (v0 : Nat) (v1 : Int32) (v2 : Int32) (v3 : Int32) : Option (Int32 × MW) :=
  if (f_X11_isSet v1) = 0 then
    some ((-1 : Int32), w)
  else
    (cl w 11 v0 (f_X11_placeOf fu w v0 v1 v2)).bind fun q1 =>
    if q1 = (-1 : Int32) then
      some ((-1 : Int32), w)
    else
      (cl w 11 v0 (f_X11_placeOf fu w v0 v1 v3)).bind fun q4 =>
      if q4 = (-1 : Int32) then
        some ((-1 : Int32), w)
      else
        (cl w 11 v0 (f_X11_laysRow fu w v0 v1)).bind fun q7 =>
        (cl q7 11 v0 (f_X11_placeOf fu q7 v0 v1 v2)).bind fun q10 =>
        (cl q7 11 v0 (f_X11_placeOf fu q7 v0 v1 v3)).bind fun q13 =>
        (cl q7 11 v0 (f_X11_farOf fu q7 v0 q10 q13)).bind fun q16 =>
        some (q16.1, q16.2)
def f_X11_where_28 (fu : Nat) (w : MW) (lr4 : Nat → Int32 → Int32 → Int32 → Option Int32) (v0 : Nat) (v1 : Int32) (v3 : Int32) (s0 : Int32) (s1 : Int32) : Option Int32 :=
  bnd (s0 ||| s1) fun x6 =>
  bnd (v3 + 1) fun x7 =>
  lr4 v0 v1 x6 x7
def f_X11_where_4 (fu : Nat) (w : MW) : Nat → Nat → Int32 → Int32 → Int32 → Option Int32
  | 0, _, _, _, _ => none
  | n + 1, v0, v1, v2, v3 =>
    if (8 : Int32) ≤ v3 then
      some v2
    else
      (cl w 11 v0 (f_X11_placeOf fu w v0 v3 v1)).bind fun q3 =>
      if q3 = (-1 : Int32) then
        f_X11_where_28 fu w (f_X11_where_4 fu w n) v0 v1 v3 v2 (0 : Int32)
      else
        f_X11_where_28 fu w (f_X11_where_4 fu w n) v0 v1 v3 v2 ((1 : Int32) <<< (v3 &&& 31))
def f_X11_where (fu : Nat) (w : MW) (v0 : Nat) (v1 : Int32) : Option Int32 :=
  bnd (0 : Int32) fun x1 =>
  bnd (0 : Int32) fun x2 =>
  f_X11_where_4 fu w fu v0 v1 x1 x2
def f_X11_unlike_46 (fu : Nat) (w : MW) (lr4 : Nat → Int32 → Int32 → Option Int32) (lr12 : Nat → Int32 → Int32 → Int32 → Option Int32) (v0 : Nat) (v2 : Int32) (v3 : Int32) (s0 : Int32) (s1 : Int32) : Option Int32 :=
  bnd (s0 + s1) fun x14 =>
  bnd (v3 + 1) fun x15 =>
  lr12 v0 x14 v2 x15
def f_X11_unlike_12 (fu : Nat) (w : MW) (lr4 : Nat → Int32 → Int32 → Option Int32) : Nat → Nat → Int32 → Int32 → Int32 → Option Int32
  | 0, _, _, _, _ => none
  | n + 1, v0, v1, v2, v3 =>
    (cl w 11 v0 (f_X11_many w v0 v2)).bind fun q4 =>
    if q4 ≤ v3 then
      bnd (v2 + 1) fun x7 =>
      lr4 v0 v1 x7
    else
      (cl w 11 v0 (f_X11_keyAt w v0 v2 v3)).bind fun q8 =>
      (cl w 11 v0 (f_X11_where fu w v0 q8)).bind fun q11 =>
      if (q11 &&& (((1 : Int32) <<< (v2 &&& 31)) - (1 : Int32))) = 0 then
        f_X11_unlike_46 fu w lr4 (f_X11_unlike_12 fu w lr4 n) v0 v2 v3 v1 (1 : Int32)
      else
        f_X11_unlike_46 fu w lr4 (f_X11_unlike_12 fu w lr4 n) v0 v2 v3 v1 (0 : Int32)
def f_X11_unlike_4 (fu : Nat) (w : MW) : Nat → Nat → Int32 → Int32 → Option Int32
  | 0, _, _, _ => none
  | n + 1, v0, v1, v2 =>
    if (8 : Int32) ≤ v2 then
      some v1
    else
      bnd (0 : Int32) fun x3 =>
      f_X11_unlike_12 fu w (f_X11_unlike_4 fu w n) fu v0 v1 v2 x3
def f_X11_unlike (fu : Nat) (w : MW) (v0 : Nat) : Option Int32 :=
  bnd (0 : Int32) fun x1 =>
  bnd (0 : Int32) fun x2 =>
  f_X11_unlike_4 fu w fu v0 x1 x2
def f_X11_fewest_46 (fu : Nat) (w : MW) (lr4 : Nat → Int32 → Int32 → Int32 → Option Int32) (v0 : Nat) (v1 : Int32) (v2 : Int32) (v3 : Int32) : Option Int32 :=
  bnd (v3 + 1) fun x3 =>
  lr4 v0 v1 v2 x3
def f_X11_fewest_4 (fu : Nat) (w : MW) : Nat → Nat → Int32 → Int32 → Int32 → Option Int32
  | 0, _, _, _, _ => none
  | n + 1, v0, v1, v2, v3 =>
    if (8 : Int32) ≤ v3 then
      some v2
    else
      if v3 = v1 then
        f_X11_fewest_46 fu w (f_X11_fewest_4 fu w n) v0 v1 v2 v3
      else
        (gR w 11 v0 21).bind fun x4 =>
        (aI w .int x4 v3).bind fun x5 =>
        if x5 ≤ 0 then
          f_X11_fewest_46 fu w (f_X11_fewest_4 fu w n) v0 v1 v2 v3
        else
          if v2 = (-1 : Int32) then
            bnd v3 fun x6 =>
            f_X11_fewest_46 fu w (f_X11_fewest_4 fu w n) v0 v1 x6 v3
          else
            (gR w 11 v0 21).bind fun x7 =>
            (aI w .int x7 v3).bind fun x8 =>
            (gR w 11 v0 21).bind fun x9 =>
            (aI w .int x9 v2).bind fun x10 =>
            if x10 ≤ x8 then
              f_X11_fewest_46 fu w (f_X11_fewest_4 fu w n) v0 v1 v2 v3
            else
              bnd v3 fun x11 =>
              f_X11_fewest_46 fu w (f_X11_fewest_4 fu w n) v0 v1 x11 v3
def f_X11_fewest (fu : Nat) (w : MW) (v0 : Nat) (v1 : Int32) : Option Int32 :=
  bnd (-1 : Int32) fun x1 =>
  bnd (0 : Int32) fun x2 =>
  f_X11_fewest_4 fu w fu v0 v1 x1 x2
def f_X11_huffman_92 (fu : Nat) (lr39 : MW → Nat → Int32 → Int32 → Int32 → Option (Int32 × MW)) (w : MW) (v0 : Nat) (v1 : Int32) (v4 : Int32) (s0 : Nat) (s1 : Int32) : Option (Int32 × MW) :=
  (sI w .int s0 s1 v4).bind fun w21 =>
  bnd (v1 + v4) fun x22 =>
  (cl w21 11 v0 (f_X11_fewest fu w21 v0 (-1 : Int32))).bind fun q23 =>
  bnd q23 fun x26 =>
  (cl w21 11 v0 (f_X11_fewest fu w21 v0 x26)).bind fun q27 =>
  bnd q27 fun x30 =>
  lr39 w21 v0 x22 x26 x30
def f_X11_huffman_39 (fu : Nat) : Nat → MW → Nat → Int32 → Int32 → Int32 → Option (Int32 × MW)
  | 0, _, _, _, _, _ => none
  | n + 1, w, v0, v1, v2, v3 =>
    if v2 = (-1 : Int32) then
      some (v1, w)
    else
      if v3 = (-1 : Int32) then
        some (v1, w)
      else
        (gR w 11 v0 21).bind fun x11 =>
        (aI w .int x11 v2).bind fun x12 =>
        (gR w 11 v0 21).bind fun x13 =>
        (aI w .int x13 v3).bind fun x14 =>
        bnd (x12 + x14) fun x15 =>
        (gR w 11 v0 21).bind fun x16 =>
        (sI w .int x16 v2 (0 : Int32)).bind fun w17 =>
        (gR w17 11 v0 21).bind fun x18 =>
        (sI w17 .int x18 v3 (0 : Int32)).bind fun w19 =>
        (gR w19 11 v0 21).bind fun x20 =>
        if v3 ≤ v2 then
          f_X11_huffman_92 fu (f_X11_huffman_39 fu n) w19 v0 v1 x15 x20 v3
        else
          f_X11_huffman_92 fu (f_X11_huffman_39 fu n) w19 v0 v1 x15 x20 v2
def f_X11_huffman_2 (fu : Nat) : Nat → MW → Nat → Int32 → Option (Int32 × MW)
  | 0, _, _, _ => none
  | n + 1, w, v0, v1 =>
    if (8 : Int32) ≤ v1 then
      bnd (0 : Int32) fun x2 =>
      (cl w 11 v0 (f_X11_fewest fu w v0 (-1 : Int32))).bind fun q3 =>
      bnd q3 fun x6 =>
      (cl w 11 v0 (f_X11_fewest fu w v0 x6)).bind fun q7 =>
      bnd q7 fun x10 =>
      f_X11_huffman_39 fu fu w v0 x2 x6 x10
    else
      (gR w 11 v0 21).bind fun x31 =>
      (cl w 11 v0 (f_X11_many w v0 v1)).bind fun q32 =>
      (sI w .int x31 v1 q32).bind fun w35 =>
      bnd (v1 + 1) fun x36 =>
      (f_X11_huffman_2 fu n) w35 v0 x36
def f_X11_huffman (fu : Nat) (w : MW) (v0 : Nat) : Option (Int32 × MW) :=
  bnd (0 : Int32) fun x1 =>
  f_X11_huffman_2 fu fu w v0 x1
def f_X11_count_29 (fu : Nat) (lr7 : MW → Nat → Int32 → Int32 → Int32 → Int32 → Option (Int32 × MW)) (w : MW) (v0 : Nat) (v1 : Int32) (v3 : Int32) (v4 : Int32) (s0 : Int32) (s1 : Int32) : Option (Int32 × MW) :=
  bnd (s0 + s1) fun x27 =>
  (cl w 11 v0 (f_X11_summed fu w v0 v4 (3 : Int32))).bind fun q28 =>
  bnd (v3 + q28.1) fun x31 =>
  bnd (v4 + 1) fun x32 =>
  lr7 q28.2 v0 v1 x27 x31 x32
def f_X11_count_7 (fu : Nat) : Nat → MW → Nat → Int32 → Int32 → Int32 → Int32 → Option (Int32 × MW)
  | 0, _, _, _, _, _, _ => none
  | n + 1, w, v0, v1, v2, v3, v4 =>
    if (8 : Int32) ≤ v4 then
      if v1 = 0 then
        (cl w 11 v0 (f_X11_total fu w v0)).bind fun q5 =>
        some (q5, w)
      else if v1 = 1 then
        some (v2, w)
      else if v1 = 2 then
        (cl w 11 v0 (f_X11_unlike fu w v0)).bind fun q10 =>
        some (q10, w)
      else if v1 = 3 then
        some (v3, w)
      else if v1 = 4 then
        (gI w 11 v0 8).bind fun x15 =>
        some (x15, w)
      else if v1 = 5 then
        (gI w 11 v0 4).bind fun x17 =>
        some (x17, w)
      else if v1 = 6 then
        (cl w 11 v0 (f_X11_huffman fu w v0)).bind fun q19 =>
        some (q19.1, q19.2)
      else if v1 = 7 then
        (gI w 11 v0 5).bind fun x23 =>
        some (x23, w)
      else 
        some ((-1 : Int32), w)
    else
      (cl w 11 v0 (f_X11_many w v0 v4)).bind fun q24 =>
      if q24 ≤ 0 then
        f_X11_count_29 fu (f_X11_count_7 fu n) w v0 v1 v3 v4 v2 (0 : Int32)
      else
        f_X11_count_29 fu (f_X11_count_7 fu n) w v0 v1 v3 v4 v2 (1 : Int32)
def f_X11_count (fu : Nat) (w : MW) (v0 : Nat) (v1 : Int32) : Option (Int32 × MW) :=
  bnd (0 : Int32) fun x1 =>
  bnd (0 : Int32) fun x2 =>
  bnd (0 : Int32) fun x3 =>
  f_X11_count_7 fu fu w v0 v1 x1 x2 x3
def f_X11_pair (fu : Nat) (w : MW) (v0 : Nat) (v1 : Int32) (v2 : Int32) (v3 : Int32) : Option (Int32 × MW) :=
  (cl w 11 v0 (f_X11_areTwo w v0 v1 v2)).bind fun q1 =>
  if q1 = 0 then
    some ((-1 : Int32), w)
  else
    (cl w 11 v0 (f_X11_laysRuns fu w v0 v1 v2)).bind fun q4 =>
    if v3 = 0 then
      (gI q4 11 v0 16).bind fun x8 =>
      some (x8, q4)
    else if v3 = 1 then
      (cl q4 11 v0 (f_X11_twins fu q4 v0 v1 v2)).bind fun q10 =>
      some (q10, q4)
    else if v3 = 2 then
      (gI q4 11 v0 17).bind fun x14 =>
      some (x14, q4)
    else if v3 = 3 then
      (cl q4 11 v0 (f_X11_many q4 v0 v1)).bind fun q16 =>
      (cl q4 11 v0 (f_X11_many q4 v0 v2)).bind fun q19 =>
      (cl q4 11 v0 (f_X11_twins fu q4 v0 v1 v2)).bind fun q22 =>
      some (((q16 + q19) - ((2 : Int32) * q22)), q4)
    else if v3 = 4 then
      (gI q4 11 v0 18).bind fun x26 =>
      some (x26, q4)
    else if v3 = 5 then
      (cl q4 11 v0 (f_X11_refusesJoin q4 v0 v1 v2)).bind fun q28 =>
      if q28 = 0 then
        some ((1 : Int32), q4)
      else
        some ((0 : Int32), q4)
    else if v3 = 6 then
      (cl q4 11 v0 (f_X11_refusesMelt fu q4 v0 v1 v2)).bind fun q32 =>
      if q32 = 0 then
        some ((1 : Int32), q4)
      else
        some ((0 : Int32), q4)
    else 
      some ((-1 : Int32), q4)
def f_X11_cheapest_90 (fu : Nat) (lr10 : MW → Nat → Int32 → Int32 → Int32 → Int32 → Int32 → Option (Int32 × MW)) (lr23 : MW → Nat → Int32 → Int32 → Int32 → Int32 → Int32 → Int32 → Option (Int32 × MW)) (w : MW) (v0 : Nat) (v1 : Int32) (v2 : Int32) (v3 : Int32) (v4 : Int32) (v5 : Int32) (v6 : Int32) : Option (Int32 × MW) :=
  bnd (v6 + 1) fun x10 =>
  lr23 w v0 v1 v2 v3 v4 v5 x10
def f_X11_cheapest_78 (fu : Nat) (lr10 : MW → Nat → Int32 → Int32 → Int32 → Int32 → Int32 → Option (Int32 × MW)) (lr23 : MW → Nat → Int32 → Int32 → Int32 → Int32 → Int32 → Int32 → Option (Int32 × MW)) (w : MW) (v0 : Nat) (v1 : Int32) (v5 : Int32) (v6 : Int32) : Option (Int32 × MW) :=
  bnd v5 fun x17 =>
  bnd v6 fun x18 =>
  (gI w 11 v0 17).bind fun x19 =>
  bnd x19 fun x20 =>
  f_X11_cheapest_90 fu lr10 lr23 w v0 v1 x17 x18 x20 v5 v6
def f_X11_cheapest_23 (fu : Nat) (lr10 : MW → Nat → Int32 → Int32 → Int32 → Int32 → Int32 → Option (Int32 × MW)) : Nat → MW → Nat → Int32 → Int32 → Int32 → Int32 → Int32 → Int32 → Option (Int32 × MW)
  | 0, _, _, _, _, _, _, _, _ => none
  | n + 1, w, v0, v1, v2, v3, v4, v5, v6 =>
    if (8 : Int32) ≤ v6 then
      bnd (v5 + 1) fun x6 =>
      lr10 w v0 v1 v2 v3 v4 x6
    else
      (cl w 11 v0 (f_X11_many w v0 v5)).bind fun q7 =>
      if q7 = 0 then
        f_X11_cheapest_90 fu lr10 (f_X11_cheapest_23 fu lr10 n) w v0 v1 v2 v3 v4 v5 v6
      else
        (cl w 11 v0 (f_X11_refusesMelt fu w v0 v5 v6)).bind fun q11 =>
        if q11 ≤ 0 then
          (cl w 11 v0 (f_X11_laysRuns fu w v0 v5 v6)).bind fun q14 =>
          if v2 = (-1 : Int32) then
            f_X11_cheapest_78 fu lr10 (f_X11_cheapest_23 fu lr10 n) q14 v0 v1 v5 v6
          else
            (gI q14 11 v0 17).bind fun x21 =>
            if x21 < v4 then
              f_X11_cheapest_78 fu lr10 (f_X11_cheapest_23 fu lr10 n) q14 v0 v1 v5 v6
            else
              f_X11_cheapest_90 fu lr10 (f_X11_cheapest_23 fu lr10 n) q14 v0 v1 v2 v3 v4 v5 v6
        else
          f_X11_cheapest_90 fu lr10 (f_X11_cheapest_23 fu lr10 n) w v0 v1 v2 v3 v4 v5 v6
def f_X11_cheapest_10 (fu : Nat) : Nat → MW → Nat → Int32 → Int32 → Int32 → Int32 → Int32 → Option (Int32 × MW)
  | 0, _, _, _, _, _, _, _ => none
  | n + 1, w, v0, v1, v2, v3, v4, v5 =>
    if (8 : Int32) ≤ v5 then
      if v2 = (-1 : Int32) then
        some ((-1 : Int32), w)
      else
        if v1 = 0 then
          some (v2, w)
        else
          if v1 = (1 : Int32) then
            some (v3, w)
          else
            if v1 = (2 : Int32) then
              some (v4, w)
            else
              some ((-1 : Int32), w)
    else
      bnd (v5 + (1 : Int32)) fun x5 =>
      f_X11_cheapest_23 fu (f_X11_cheapest_10 fu n) fu w v0 v1 v2 v3 v4 v5 x5
def f_X11_cheapest (fu : Nat) (w : MW) (v0 : Nat) (v1 : Int32) : Option (Int32 × MW) :=
  bnd (-1 : Int32) fun x1 =>
  bnd (-1 : Int32) fun x2 =>
  bnd (0 : Int32) fun x3 =>
  bnd (0 : Int32) fun x4 =>
  f_X11_cheapest_10 fu fu w v0 v1 x1 x2 x3 x4
def f_X11_merged_79 (fu : Nat) (w : MW) (lr8 : Nat → Int32 → Int32 → Option Int32) (lr16 : Nat → Int32 → Int32 → Int32 → Option Int32) (lr31 : Nat → Int32 → Int32 → Int32 → Int32 → Int32 → Option Int32) (v0 : Nat) (v1 : Int32) (v2 : Int32) (v3 : Int32) (v5 : Int32) (s0 : Int32) (s1 : Int32) (s2 : Int32) : Option Int32 :=
  bnd (s0 + (s1 + s2)) fun x19 =>
  bnd (v5 + 1) fun x20 =>
  lr31 v0 v1 v2 v3 x19 x20
def f_X11_merged_31 (fu : Nat) (w : MW) (lr8 : Nat → Int32 → Int32 → Option Int32) (lr16 : Nat → Int32 → Int32 → Int32 → Option Int32) : Nat → Nat → Int32 → Int32 → Int32 → Int32 → Int32 → Option Int32
  | 0, _, _, _, _, _, _ => none
  | n + 1, v0, v1, v2, v3, v4, v5 =>
    if (8 : Int32) ≤ v5 then
      if v4 = v1 then
        (cl w 11 v0 (f_X11_keyAt w v0 v2 v3)).bind fun q10 =>
        some q10
      else
        bnd (v3 + 1) fun x9 =>
        lr16 v0 v1 v2 x9
    else
      (cl w 11 v0 (f_X11_keyAt w v0 v2 v3)).bind fun q13 =>
      (cl w 11 v0 (f_X11_below fu w v0 v5 q13)).bind fun q16 =>
      if v2 ≤ v5 then
        f_X11_merged_79 fu w lr8 lr16 (f_X11_merged_31 fu w lr8 lr16 n) v0 v1 v2 v3 v5 v4 q16 (0 : Int32)
      else
        (cl w 11 v0 (f_X11_keyAt w v0 v2 v3)).bind fun q21 =>
        (cl w 11 v0 (f_X11_placeOf fu w v0 v5 q21)).bind fun q24 =>
        if q24 = (-1 : Int32) then
          f_X11_merged_79 fu w lr8 lr16 (f_X11_merged_31 fu w lr8 lr16 n) v0 v1 v2 v3 v5 v4 q16 (0 : Int32)
        else
          f_X11_merged_79 fu w lr8 lr16 (f_X11_merged_31 fu w lr8 lr16 n) v0 v1 v2 v3 v5 v4 q16 (1 : Int32)
def f_X11_merged_16 (fu : Nat) (w : MW) (lr8 : Nat → Int32 → Int32 → Option Int32) : Nat → Nat → Int32 → Int32 → Int32 → Option Int32
  | 0, _, _, _, _ => none
  | n + 1, v0, v1, v2, v3 =>
    (cl w 11 v0 (f_X11_many w v0 v2)).bind fun q3 =>
    if q3 ≤ v3 then
      bnd (v2 + 1) fun x6 =>
      lr8 v0 v1 x6
    else
      bnd (0 : Int32) fun x7 =>
      bnd (0 : Int32) fun x8 =>
      f_X11_merged_31 fu w lr8 (f_X11_merged_16 fu w lr8 n) fu v0 v1 v2 v3 x7 x8
def f_X11_merged_8 (fu : Nat) (w : MW) : Nat → Nat → Int32 → Int32 → Option Int32
  | 0, _, _, _ => none
  | n + 1, v0, v1, v2 =>
    if (8 : Int32) ≤ v2 then
      some (-1 : Int32)
    else
      bnd (0 : Int32) fun x2 =>
      f_X11_merged_16 fu w (f_X11_merged_8 fu w n) fu v0 v1 v2 x2
def f_X11_merged (fu : Nat) (w : MW) (v0 : Nat) (v1 : Int32) : Option Int32 :=
  if 0 ≤ v1 then
    bnd (0 : Int32) fun x1 =>
    f_X11_merged_8 fu w fu v0 v1 x1
  else
    some (-1 : Int32)
def f_X11_would_153 (fu : Nat) (w : MW) (v0 : Nat) (s0 : Nat) (s1 : Int32) (s2 : Int32) : Option (Int32 × MW) :=
  (pV w 11 s0 11 (.int (s1 + s2))).bind fun w14 =>
  (cl w14 11 v0 (f_X11_high fu w14 v0)).bind fun q15 =>
  some (q15.1, q15.2)
def f_X11_would_139 (fu : Nat) (w : MW) (v0 : Nat) (v3 : Int32) : Option (Int32 × MW) :=
  (gI w 11 v0 11).bind fun x13 =>
  if v3 = 0 then
    f_X11_would_153 fu w v0 v0 x13 (1 : Int32)
  else
    f_X11_would_153 fu w v0 v0 x13 (-1 : Int32)
def f_X11_would_127 (fu : Nat) (w : MW) (v0 : Nat) (v2 : Int32) (v3 : Int32) (v4 : Int32) : Option (Int32 × MW) :=
  if v3 = 0 then
    (gR w 11 v0 10).bind fun x18 =>
    (sI w .int x18 v4 v2).bind fun w19 =>
    f_X11_would_139 fu w19 v0 v3
  else
    f_X11_would_139 fu w v0 v3
def f_X11_would_98 (fu : Nat) : Nat → MW → Nat → Int32 → Int32 → Int32 → Int32 → Option (Int32 × MW)
  | 0, _, _, _, _, _, _ => none
  | n + 1, w, v0, v2, v3, v4, v5 =>
    if v5 ≤ v4 then
      f_X11_would_127 fu w v0 v2 v3 v4
    else
      (gR w 11 v0 10).bind fun x20 =>
      (gR w 11 v0 10).bind fun x21 =>
      (aI w .int x21 (v5 - (1 : Int32))).bind fun x22 =>
      (sI w .int x20 v5 x22).bind fun w23 =>
      bnd (v5 + (-1)) fun x24 =>
      (f_X11_would_98 fu n) w23 v0 v2 v3 v4 x24
def f_X11_would_56 (fu : Nat) : Nat → MW → Nat → Int32 → Int32 → Int32 → Int32 → Option (Int32 × MW)
  | 0, _, _, _, _, _, _ => none
  | n + 1, w, v0, v2, v3, v4, v5 =>
    (gI w 11 v0 11).bind fun x26 =>
    if x26 ≤ (v5 + (1 : Int32)) then
      f_X11_would_127 fu w v0 v2 v3 v4
    else
      (gR w 11 v0 10).bind fun x27 =>
      (gR w 11 v0 10).bind fun x28 =>
      (aI w .int x28 (v5 + (1 : Int32))).bind fun x29 =>
      (sI w .int x27 v5 x29).bind fun w30 =>
      bnd (v5 + 1) fun x31 =>
      (f_X11_would_56 fu n) w30 v0 v2 v3 v4 x31
def f_X11_would_29 (fu : Nat) (w : MW) (v0 : Nat) (v1 : Int32) (v2 : Int32) (v3 : Int32) (s0 : Int32) : Option (Int32 × MW) :=
  if s0 = v3 then
    (cl w 11 v0 (f_X11_laysRow fu w v0 v1)).bind fun q4 =>
    (cl q4 11 v0 (f_X11_below fu q4 v0 v1 v2)).bind fun q7 =>
    bnd q7 fun x10 =>
    if v3 = 0 then
      (gI q4 11 v0 11).bind fun x11 =>
      bnd x11 fun x12 =>
      f_X11_would_98 fu fu q4 v0 v2 v3 x10 x12
    else
      bnd x10 fun x25 =>
      f_X11_would_56 fu fu q4 v0 v2 v3 x10 x25
  else
    some ((-1 : Int32), w)
def f_X11_would (fu : Nat) (w : MW) (v0 : Nat) (v1 : Int32) (v2 : Int32) (v3 : Int32) : Option (Int32 × MW) :=
  if (f_X11_isSet v1) = 0 then
    some ((-1 : Int32), w)
  else
    if (f_X11_isKey v2) = 0 then
      some ((-1 : Int32), w)
    else
      (cl w 11 v0 (f_X11_placeOf fu w v0 v1 v2)).bind fun q1 =>
      if q1 = (-1 : Int32) then
        f_X11_would_29 fu w v0 v1 v2 v3 (0 : Int32)
      else
        f_X11_would_29 fu w v0 v1 v2 v3 (1 : Int32)
def f_X11_halves (w : MW) (v0 : Nat) (v1 : Int32) : Option Int32 :=
  if (f_X11_isSet v1) = 0 then
    some (-1 : Int32)
  else
    (cl w 11 v0 (f_X11_many w v0 v1)).bind fun q1 =>
    if q1 ≤ (1 : Int32) then
      some (-1 : Int32)
    else
      (cl w 11 v0 (f_X11_many w v0 v1)).bind fun q4 =>
      (cl w 11 v0 (f_X11_keyAt w v0 v1 (((q4 + (1 : Int32)) / (2 : Int32)) - (1 : Int32)))).bind fun q7 =>
      some q7
def f_X11_tells (w : MW) (v0 : Nat) (v1 : Int32) : Option MW :=
  (gR w 11 v0 2).bind fun x1 =>
  (gI w 11 v0 5).bind fun x2 =>
  (sI w .int x1 x2 v1).bind fun w3 =>
  (gI w3 11 v0 5).bind fun x4 =>
  (pV w3 11 v0 5 (.int (x4 + (1 : Int32)))).bind fun w5 =>
  some w5
def f_X11_number_18 (fu : Nat) : Nat → MW → Nat → Int32 → Int32 → Option MW
  | 0, _, _, _, _ => none
  | n + 1, w, v0, v1, v2 =>
    if v2 ≤ 0 then
      some w
    else
      (dv v1 v2).bind fun x3 =>
      (cl w 11 v0 (f_X11_tells w v0 ((48 : Int32) + (x3 - x3 / (10 : Int32) * (10 : Int32))))).bind fun q4 =>
      bnd (v2 / (10 : Int32)) fun x7 =>
      (f_X11_number_18 fu n) q4 v0 v1 x7
def f_X11_number_2 (fu : Nat) : Nat → MW → Nat → Int32 → Int32 → Option MW
  | 0, _, _, _, _ => none
  | n + 1, w, v0, v1, v2 =>
    (dv v1 v2).bind fun x2 =>
    if x2 ≤ (9 : Int32) then
      f_X11_number_18 fu fu w v0 v1 v2
    else
      bnd (v2 * (10 : Int32)) fun x8 =>
      (f_X11_number_2 fu n) w v0 v1 x8
def f_X11_number (fu : Nat) (w : MW) (v0 : Nat) (v1 : Int32) : Option MW :=
  bnd (1 : Int32) fun x1 =>
  f_X11_number_2 fu fu w v0 v1 x1
def f_X11_tell_146 (fu : Nat) (lr16 : MW → Nat → Int32 → Int32 → Option (Int32 × MW)) (w : MW) (v0 : Nat) (v1 : Int32) (v3 : Int32) : Option (Int32 × MW) :=
  bnd v3 fun x20 =>
  bnd (x20 + 1) fun x21 =>
  lr16 w v0 v1 x21
def f_X11_tell_130 (fu : Nat) (lr16 : MW → Nat → Int32 → Int32 → Option (Int32 × MW)) (w : MW) (v0 : Nat) (v1 : Int32) (v2 : Int32) (v3 : Int32) : Option (Int32 × MW) :=
  (cl w 11 v0 (f_X11_markAt w v0 v1 v2)).bind fun q17 =>
  if q17 = (1 : Int32) then
    (cl w 11 v0 (f_X11_tells w v0 (42 : Int32))).bind fun q22 =>
    f_X11_tell_146 fu lr16 q22 v0 v1 v3
  else
    f_X11_tell_146 fu lr16 w v0 v1 v3
def f_X11_tell_99 (fu : Nat) (lr16 : MW → Nat → Int32 → Int32 → Option (Int32 × MW)) (w : MW) (v0 : Nat) (v1 : Int32) (v2 : Int32) (v3 : Int32) : Option (Int32 × MW) :=
  (cl w 11 v0 (f_X11_keyAt w v0 v1 v2)).bind fun q11 =>
  (cl w 11 v0 (f_X11_number fu w v0 q11)).bind fun q14 =>
  if v3 ≤ v2 then
    f_X11_tell_130 fu lr16 q14 v0 v1 v2 v3
  else
    (cl q14 11 v0 (f_X11_tells q14 v0 (45 : Int32))).bind fun q25 =>
    (cl q25 11 v0 (f_X11_keyAt q25 v0 v1 v3)).bind fun q28 =>
    (cl q25 11 v0 (f_X11_number fu q25 v0 q28)).bind fun q31 =>
    f_X11_tell_130 fu lr16 q31 v0 v1 v2 v3
def f_X11_tell_89 (fu : Nat) (lr16 : MW → Nat → Int32 → Int32 → Option (Int32 × MW)) (w : MW) (v0 : Nat) (v1 : Int32) (v2 : Int32) (v3 : Int32) : Option (Int32 × MW) :=
  if v2 ≤ 0 then
    f_X11_tell_99 fu lr16 w v0 v1 v2 v3
  else
    (cl w 11 v0 (f_X11_tells w v0 (32 : Int32))).bind fun q34 =>
    f_X11_tell_99 fu lr16 q34 v0 v1 v2 v3
def f_X11_tell_80 (fu : Nat) (lr16 : MW → Nat → Int32 → Int32 → Option (Int32 × MW)) (w : MW) (v0 : Nat) (v1 : Int32) (v2 : Int32) (v3 : Int32) : Option (Int32 × MW) :=
  if (2 : Int32) ≤ (v3 - v2) then
    f_X11_tell_89 fu lr16 w v0 v1 v2 v3
  else
    bnd v2 fun x37 =>
    f_X11_tell_89 fu lr16 w v0 v1 v2 x37
def f_X11_tell_27 (fu : Nat) (lr16 : MW → Nat → Int32 → Int32 → Option (Int32 × MW)) : Nat → MW → Nat → Int32 → Int32 → Int32 → Option (Int32 × MW)
  | 0, _, _, _, _, _ => none
  | n + 1, w, v0, v1, v2, v3 =>
    (cl w 11 v0 (f_X11_many w v0 v1)).bind fun q8 =>
    if q8 ≤ (v3 + (1 : Int32)) then
      f_X11_tell_80 fu lr16 w v0 v1 v2 v3
    else
      (cl w 11 v0 (f_X11_keyAt w v0 v1 (v3 + (1 : Int32)))).bind fun q38 =>
      (cl w 11 v0 (f_X11_keyAt w v0 v1 v3)).bind fun q41 =>
      if q38 = (q41 + (1 : Int32)) then
        (cl w 11 v0 (f_X11_markAt w v0 v1 (v3 + (1 : Int32)))).bind fun q44 =>
        (cl w 11 v0 (f_X11_markAt w v0 v1 v2)).bind fun q47 =>
        if q44 = q47 then
          bnd (v3 + 1) fun x50 =>
          (f_X11_tell_27 fu lr16 n) w v0 v1 v2 x50
        else
          f_X11_tell_80 fu lr16 w v0 v1 v2 v3
      else
        f_X11_tell_80 fu lr16 w v0 v1 v2 v3
def f_X11_tell_16 (fu : Nat) : Nat → MW → Nat → Int32 → Int32 → Option (Int32 × MW)
  | 0, _, _, _, _ => none
  | n + 1, w, v0, v1, v2 =>
    (cl w 11 v0 (f_X11_many w v0 v1)).bind fun q3 =>
    if q3 ≤ v2 then
      (gI w 11 v0 5).bind fun x6 =>
      some (x6, w)
    else
      bnd v2 fun x7 =>
      f_X11_tell_27 fu (f_X11_tell_16 fu n) fu w v0 v1 v2 x7
def f_X11_tell (fu : Nat) (w : MW) (v0 : Nat) (v1 : Int32) : Option (Int32 × MW) :=
  if (f_X11_isSet v1) = 0 then
    some ((-1 : Int32), w)
  else
    (pV w 11 v0 5 (.int (0 : Int32))).bind fun w1 =>
    bnd (0 : Int32) fun x2 =>
    f_X11_tell_16 fu fu w1 v0 v1 x2
def f_X11_octet (w : MW) (v0 : Nat) (v1 : Int32) : Option Int32 :=
  (gI w 11 v0 5).bind fun x1 =>
  if (f_X11_isIn v1 (0 : Int32) (x1 - (1 : Int32))) = 0 then
    some (-1 : Int32)
  else
    (gR w 11 v0 2).bind fun x2 =>
    (aI w .int x2 v1).bind fun x3 =>
    some x3
def f_X11_feed_71 (fu : Nat) (lr18 : MW → Nat → Int32 → Int32 → Int32 → Int32 → Int32 → Int32 → Option (Int32 × MW)) (w : MW) (v0 : Nat) (v1 : Int32) (v2 : Int32) (v3 : Int32) (v4 : Int32) (v5 : Int32) (v6 : Int32) (s0 : Int32) : Option (Int32 × MW) :=
  bnd s0 fun x6 =>
  (gR w 11 v0 1).bind fun x7 =>
  (gI w 11 v0 4).bind fun x8 =>
  (sI w .int x7 (x8 + v6) ((x6 >>> (((24 : Int32) - ((8 : Int32) * (v6 &&& (3 : Int32)))) &&& 31)) &&& (255 : Int32))).bind fun w9 =>
  bnd (v6 + 1) fun x10 =>
  lr18 w9 v0 v1 v2 v3 v4 v5 x10
def f_X11_feed_18 (fu : Nat) : Nat → MW → Nat → Int32 → Int32 → Int32 → Int32 → Int32 → Int32 → Option (Int32 × MW)
  | 0, _, _, _, _, _, _, _, _ => none
  | n + 1, w, v0, v1, v2, v3, v4, v5, v6 =>
    if (20 : Int32) ≤ v6 then
      (gI w 11 v0 4).bind fun x3 =>
      (pV w 11 v0 4 (.int (x3 + (20 : Int32)))).bind fun w4 =>
      (gI w4 11 v0 4).bind fun x5 =>
      some (x5, w4)
    else
      if (4 : Int32) ≤ v6 then
        if (8 : Int32) ≤ v6 then
          if (12 : Int32) ≤ v6 then
            if (16 : Int32) ≤ v6 then
              f_X11_feed_71 fu (f_X11_feed_18 fu n) w v0 v1 v2 v3 v4 v5 v6 v5
            else
              f_X11_feed_71 fu (f_X11_feed_18 fu n) w v0 v1 v2 v3 v4 v5 v6 v4
          else
            f_X11_feed_71 fu (f_X11_feed_18 fu n) w v0 v1 v2 v3 v4 v5 v6 v3
        else
          f_X11_feed_71 fu (f_X11_feed_18 fu n) w v0 v1 v2 v3 v4 v5 v6 v2
      else
        f_X11_feed_71 fu (f_X11_feed_18 fu n) w v0 v1 v2 v3 v4 v5 v6 v1
def f_X11_feed (fu : Nat) (w : MW) (v0 : Nat) (v1 : Int32) (v2 : Int32) (v3 : Int32) (v4 : Int32) (v5 : Int32) : Option (Int32 × MW) :=
  (gI w 11 v0 4).bind fun x1 =>
  if (x1 + (20 : Int32)) ≤ (800 : Int32) then
    bnd (0 : Int32) fun x2 =>
    f_X11_feed_18 fu fu w v0 v1 v2 v3 v4 v5 x2
  else
    some ((-1 : Int32), w)
def f_X11_end (w : MW) (v0 : Nat) (v1 : Int32) : Option (Int32 × MW) :=
  (gI w 11 v0 4).bind fun x1 =>
  if (f_X11_isIn v1 (0 : Int32) x1) = 0 then
    some ((-1 : Int32), w)
  else
    (pV w 11 v0 4 (.int v1)).bind fun w2 =>
    some (v1, w2)
def f_X11_fault (w : MW) (v0 : Nat) (v1 : Int32) : Option Int32 :=
  if v1 = 0 then
    (gI w 11 v0 6).bind fun x2 =>
    some x2
  else
    if v1 = (1 : Int32) then
      (gI w 11 v0 7).bind fun x1 =>
      some x1
    else
      some (-1 : Int32)
def f_X11_byteAt (w : MW) (v0 : Nat) (v1 : Int32) : Option Int32 :=
  (gI w 11 v0 22).bind fun x1 =>
  if x1 ≤ v1 then
    some (-1 : Int32)
  else
    (gR w 11 v0 1).bind fun x2 =>
    (aI w .int x2 v1).bind fun x3 =>
    some x3
def f_X11_isLetter (v0 : Int32) : Int32 :=
  if v0 < (97 : Int32) then
    (0 : Int32)
  else
    if (122 : Int32) < v0 then
      (0 : Int32)
    else
      (1 : Int32)
def f_X11_isDigit (v0 : Int32) : Int32 :=
  if v0 < (48 : Int32) then
    (0 : Int32)
  else
    if (57 : Int32) < v0 then
      (0 : Int32)
    else
      (1 : Int32)
def f_X11_takes_26 (fu : Nat) (lr0 : MW → Nat → Option MW) (w : MW) (v0 : Nat) : Option MW :=
  (gI w 11 v0 23).bind fun x5 =>
  (pV w 11 v0 23 (.int (x5 + (1 : Int32)))).bind fun w6 =>
  lr0 w6 v0
def f_X11_takes_302 (fu : Nat) (w : MW) (s0 : Nat) (s1 : Int32) : Option MW :=
  (pV w 11 s0 24 (.int s1)).bind fun w22 =>
  some w22
def f_X11_takes_262 (fu : Nat) (w : MW) (s0 : Nat) (s1 : Int32) : Option MW :=
  (pV w 11 s0 24 (.int s1)).bind fun w29 =>
  some w29
def f_X11_takes_227 (fu : Nat) (lr170 : MW → Nat → Option MW) (w : MW) (v0 : Nat) (s0 : Nat) (s1 : Int64) : Option MW :=
  (pV w 11 s0 26 (.long s1)).bind fun w33 =>
  (gI w33 11 v0 23).bind fun x34 =>
  (pV w33 11 v0 23 (.int (x34 + (1 : Int32)))).bind fun w35 =>
  lr170 w35 v0
def f_X11_takes_170 (fu : Nat) : Nat → MW → Nat → Option MW
  | 0, _, _ => none
  | n + 1, w, v0 =>
    (gI w 11 v0 23).bind fun x23 =>
    (cl w 11 v0 (f_X11_byteAt w v0 x23)).bind fun q24 =>
    if (f_X11_isDigit q24) = 0 then
      (gI w 11 v0 23).bind fun x27 =>
      (gI w 11 v0 25).bind fun x28 =>
      if (x27 - x28) ≤ (4 : Int32) then
        f_X11_takes_262 fu w v0 (2 : Int32)
      else
        f_X11_takes_262 fu w v0 (4 : Int32)
    else
      (gI w 11 v0 23).bind fun x30 =>
      (gI w 11 v0 25).bind fun x31 =>
      if (4 : Int32) ≤ (x30 - x31) then
        (gJ w 11 v0 26).bind fun x32 =>
        f_X11_takes_227 fu (f_X11_takes_170 fu n) w v0 v0 x32
      else
        (gJ w 11 v0 26).bind fun x36 =>
        (gI w 11 v0 23).bind fun x37 =>
        (cl w 11 v0 (f_X11_byteAt w v0 x37)).bind fun q38 =>
        f_X11_takes_227 fu (f_X11_takes_170 fu n) w v0 v0 ((((10 : Int64) * x36) + q38.toInt64) - (48 : Int64))
def f_X11_takes_139 (fu : Nat) (lr80 : MW → Nat → Option MW) (w : MW) (v0 : Nat) (s0 : Nat) (s1 : Int64) : Option MW :=
  (pV w 11 s0 26 (.long s1)).bind fun w48 =>
  (gI w48 11 v0 23).bind fun x49 =>
  (pV w48 11 v0 23 (.int (x49 + (1 : Int32)))).bind fun w50 =>
  lr80 w50 v0
def f_X11_takes_80 (fu : Nat) : Nat → MW → Nat → Option MW
  | 0, _, _ => none
  | n + 1, w, v0 =>
    (gI w 11 v0 23).bind fun x41 =>
    (cl w 11 v0 (f_X11_byteAt w v0 x41)).bind fun q42 =>
    if (f_X11_isLetter q42) = 0 then
      (pV w 11 v0 24 (.int (1 : Int32))).bind fun w45 =>
      some w45
    else
      (gI w 11 v0 23).bind fun x46 =>
      (gI w 11 v0 25).bind fun x47 =>
      if (9 : Int32) ≤ (x46 - x47) then
        f_X11_takes_139 fu (f_X11_takes_80 fu n) w v0 v0 (-1 : Int64)
      else
        (gJ w 11 v0 26).bind fun x51 =>
        (gI w 11 v0 23).bind fun x52 =>
        (cl w 11 v0 (f_X11_byteAt w v0 x52)).bind fun q53 =>
        f_X11_takes_139 fu (f_X11_takes_80 fu n) w v0 v0 (((((27 : Int64) * x51) + q53.toInt64) - (97 : Int64)) + (1 : Int64))
def f_X11_takes_0 (fu : Nat) : Nat → MW → Nat → Option MW
  | 0, _, _ => none
  | n + 1, w, v0 =>
    (gI w 11 v0 23).bind fun x1 =>
    (cl w 11 v0 (f_X11_byteAt w v0 x1)).bind fun q2 =>
    if q2 = (32 : Int32) then
      f_X11_takes_26 fu (f_X11_takes_0 fu n) w v0
    else
      (gI w 11 v0 23).bind fun x7 =>
      (cl w 11 v0 (f_X11_byteAt w v0 x7)).bind fun q8 =>
      if q8 = (10 : Int32) then
        f_X11_takes_26 fu (f_X11_takes_0 fu n) w v0
      else
        (gI w 11 v0 23).bind fun x11 =>
        (pV w 11 v0 25 (.int x11)).bind fun w12 =>
        (gI w12 11 v0 23).bind fun x13 =>
        (cl w12 11 v0 (f_X11_byteAt w12 v0 x13)).bind fun q14 =>
        bnd q14 fun x17 =>
        (pV w12 11 v0 26 (.long (0 : Int64))).bind fun w18 =>
        if 0 ≤ x17 then
          if (f_X11_isLetter x17) = 0 then
            if (f_X11_isDigit x17) = 0 then
              (gI w18 11 v0 23).bind fun x19 =>
              (pV w18 11 v0 23 (.int (x19 + (1 : Int32)))).bind fun w20 =>
              (pV w20 11 v0 26 (.long x17.toInt64)).bind fun w21 =>
              if x17 = (59 : Int32) then
                f_X11_takes_302 fu w21 v0 (3 : Int32)
              else
                if x17 = (45 : Int32) then
                  f_X11_takes_302 fu w21 v0 (3 : Int32)
                else
                  f_X11_takes_302 fu w21 v0 (4 : Int32)
            else
              f_X11_takes_170 fu fu w18 v0
          else
            f_X11_takes_80 fu fu w18 v0
        else
          (pV w18 11 v0 24 (.int (0 : Int32))).bind fun w56 =>
          some w56
def f_X11_takes (fu : Nat) (w : MW) (v0 : Nat) : Option MW :=
  f_X11_takes_0 fu fu w v0
def f_X11_fails (w : MW) (v0 : Nat) (v1 : Int32) (v2 : Int32) : Option MW :=
  (gI w 11 v0 6).bind fun x1 =>
  if x1 ≤ 0 then
    (pV w 11 v0 6 (.int v1)).bind fun w2 =>
    (pV w2 11 v0 7 (.int v2)).bind fun w3 =>
    some w3
  else
    some w
def f_X11_isGood (w : MW) (v0 : Nat) : Option Int32 :=
  (gI w 11 v0 6).bind fun x1 =>
  if x1 = 0 then
    some (1 : Int32)
  else
    some (0 : Int32)
def f_X11_hasWord_29 (fu : Nat) (w : MW) (v0 : Nat) (s0 : Int32) : Option (Int32 × MW) :=
  bnd s0 fun x4 =>
  if x4 = 0 then
    (zr .boolean x4).bind fun x5 =>
    some (x5, w)
  else
    (cl w 11 v0 (f_X11_takes fu w v0)).bind fun q6 =>
    (zr .boolean x4).bind fun x9 =>
    some (x9, q6)
def f_X11_hasWord (fu : Nat) (w : MW) (v0 : Nat) (v1 : Int64) : Option (Int32 × MW) :=
  (cl w 11 v0 (f_X11_isGood w v0)).bind fun q1 =>
  if q1 = 0 then
    f_X11_hasWord_29 fu w v0 (0 : Int32)
  else
    (gI w 11 v0 24).bind fun x10 =>
    if x10 = (1 : Int32) then
      (gJ w 11 v0 26).bind fun x11 =>
      if (lg_cmp x11 v1) = 0 then
        f_X11_hasWord_29 fu w v0 (1 : Int32)
      else
        f_X11_hasWord_29 fu w v0 (0 : Int32)
    else
      f_X11_hasWord_29 fu w v0 (0 : Int32)
def f_X11_hasSign_30 (fu : Nat) (w : MW) (v0 : Nat) (s0 : Int32) : Option (Int32 × MW) :=
  bnd s0 fun x4 =>
  if x4 = 0 then
    (zr .boolean x4).bind fun x5 =>
    some (x5, w)
  else
    (cl w 11 v0 (f_X11_takes fu w v0)).bind fun q6 =>
    (zr .boolean x4).bind fun x9 =>
    some (x9, q6)
def f_X11_hasSign (fu : Nat) (w : MW) (v0 : Nat) (v1 : Int32) : Option (Int32 × MW) :=
  (cl w 11 v0 (f_X11_isGood w v0)).bind fun q1 =>
  if q1 = 0 then
    f_X11_hasSign_30 fu w v0 (0 : Int32)
  else
    (gI w 11 v0 24).bind fun x10 =>
    if x10 = (3 : Int32) then
      (gJ w 11 v0 26).bind fun x11 =>
      if (lg_cmp x11 v1.toInt64) = 0 then
        f_X11_hasSign_30 fu w v0 (1 : Int32)
      else
        f_X11_hasSign_30 fu w v0 (0 : Int32)
    else
      f_X11_hasSign_30 fu w v0 (0 : Int32)
def f_X11_numeral_24 (fu : Nat) (w : MW) (v0 : Nat) : Option (Int32 × MW) :=
  (cl w 11 v0 (f_X11_isGood w v0)).bind fun q4 =>
  if q4 = 0 then
    some ((0 : Int32), w)
  else
    (gJ w 11 v0 26).bind fun x7 =>
    bnd x7.toInt32 fun x8 =>
    (cl w 11 v0 (f_X11_takes fu w v0)).bind fun q9 =>
    some (x8, q9)
def f_X11_numeral (fu : Nat) (w : MW) (v0 : Nat) : Option (Int32 × MW) :=
  (cl w 11 v0 (f_X11_isGood w v0)).bind fun q1 =>
  if q1 = 0 then
    f_X11_numeral_24 fu w v0
  else
    (gI w 11 v0 24).bind fun x12 =>
    if x12 = (2 : Int32) then
      f_X11_numeral_24 fu w v0
    else
      (gI w 11 v0 25).bind fun x13 =>
      (cl w 11 v0 (f_X11_fails w v0 (1 : Int32) x13)).bind fun q14 =>
      f_X11_numeral_24 fu q14 v0
def f_X11_setNumber_30 (fu : Nat) (w : MW) (v0 : Nat) (v2 : Int32) : Option (Int32 × MW) :=
  (cl w 11 v0 (f_X11_isGood w v0)).bind fun q10 =>
  if q10 = 0 then
    some ((0 : Int32), w)
  else
    some (v2, w)
def f_X11_setNumber (fu : Nat) (w : MW) (v0 : Nat) : Option (Int32 × MW) :=
  (gI w 11 v0 25).bind fun x1 =>
  bnd x1 fun x2 =>
  (cl w 11 v0 (f_X11_numeral fu w v0)).bind fun q3 =>
  bnd q3.1 fun x6 =>
  (cl q3.2 11 v0 (f_X11_isGood q3.2 v0)).bind fun q7 =>
  if q7 = 0 then
    f_X11_setNumber_30 fu q3.2 v0 x6
  else
    if (f_X11_isSet x6) = 0 then
      (cl q3.2 11 v0 (f_X11_fails q3.2 v0 (2 : Int32) x2)).bind fun q13 =>
      f_X11_setNumber_30 fu q13 v0 x6
    else
      f_X11_setNumber_30 fu q3.2 v0 x6
def f_X11_readsKeys_105 (fu : Nat) (lr57 : MW → Nat → Int32 → Int32 → Int32 → Int32 → Option MW) (w : MW) (v0 : Nat) (v1 : Int32) (v2 : Int32) (v4 : Int32) (v5 : Int32) : Option MW :=
  bnd (v5 + 1) fun x19 =>
  lr57 w v0 v1 v2 v4 x19
def f_X11_readsKeys_92 (fu : Nat) (lr57 : MW → Nat → Int32 → Int32 → Int32 → Int32 → Option MW) (w : MW) (v0 : Nat) (v1 : Int32) (v2 : Int32) (v4 : Int32) (v5 : Int32) (v6 : Int32) : Option MW :=
  if v6 = 0 then
    (cl w 11 v0 (f_X11_puts fu w v0 v1 v5 (0 : Int32))).bind fun q20 =>
    f_X11_readsKeys_105 fu lr57 q20 v0 v1 v2 v4 v5
  else
    f_X11_readsKeys_105 fu lr57 w v0 v1 v2 v4 v5
def f_X11_readsKeys_57 (fu : Nat) : Nat → MW → Nat → Int32 → Int32 → Int32 → Int32 → Option MW
  | 0, _, _, _, _, _, _ => none
  | n + 1, w, v0, v1, v2, v4, v5 =>
    if v4 < v5 then
      some w
    else
      (cl w 11 v0 (f_X11_isGood w v0)).bind fun q12 =>
      if q12 = 0 then
        some w
      else
        (cl w 11 v0 (f_X11_refusesPut fu w v0 v1 v5)).bind fun q15 =>
        bnd q15 fun x18 =>
        if x18 = (4 : Int32) then
          (cl w 11 v0 (f_X11_fails w v0 (3 : Int32) v2)).bind fun q23 =>
          f_X11_readsKeys_92 fu (f_X11_readsKeys_57 fu n) q23 v0 v1 v2 v4 v5 x18
        else
          f_X11_readsKeys_92 fu (f_X11_readsKeys_57 fu n) w v0 v1 v2 v4 v5 x18
def f_X11_readsKeys (fu : Nat) (w : MW) (v0 : Nat) (v1 : Int32) : Option MW :=
  (gI w 11 v0 25).bind fun x1 =>
  bnd x1 fun x2 =>
  (cl w 11 v0 (f_X11_numeral fu w v0)).bind fun q3 =>
  bnd q3.1 fun x6 =>
  bnd x6 fun x7 =>
  (cl q3.2 11 v0 (f_X11_hasSign fu q3.2 v0 (45 : Int32))).bind fun q8 =>
  if q8.1 = 0 then
    bnd x6 fun x11 =>
    f_X11_readsKeys_57 fu fu q8.2 v0 v1 x2 x7 x11
  else
    (gI q8.2 11 v0 25).bind fun x26 =>
    bnd x26 fun x27 =>
    (cl q8.2 11 v0 (f_X11_numeral fu q8.2 v0)).bind fun q28 =>
    bnd q28.1 fun x31 =>
    (cl q28.2 11 v0 (f_X11_isGood q28.2 v0)).bind fun q32 =>
    if q32 = 0 then
      bnd x6 fun x35 =>
      f_X11_readsKeys_57 fu fu q28.2 v0 v1 x2 x31 x35
    else
      if x6 ≤ x31 then
        bnd x6 fun x36 =>
        f_X11_readsKeys_57 fu fu q28.2 v0 v1 x2 x31 x36
      else
        (cl q28.2 11 v0 (f_X11_fails q28.2 v0 (2 : Int32) x27)).bind fun q37 =>
        bnd x6 fun x40 =>
        f_X11_readsKeys_57 fu fu q37 v0 v1 x2 x31 x40
def f_X11_ends (fu : Nat) (w : MW) (v0 : Nat) : Option MW :=
  (cl w 11 v0 (f_X11_isGood w v0)).bind fun q1 =>
  if q1 = 0 then
    some w
  else
    (cl w 11 v0 (f_X11_hasSign fu w v0 (59 : Int32))).bind fun q4 =>
    if q4.1 = 0 then
      (gI q4.2 11 v0 25).bind fun x7 =>
      (cl q4.2 11 v0 (f_X11_fails q4.2 v0 (1 : Int32) x7)).bind fun q8 =>
      some q8
    else
      some q4.2
def f_X11_readsSet_28 (fu : Nat) (w : MW) (v0 : Nat) : Option MW :=
  (cl w 11 v0 (f_X11_ends fu w v0)).bind fun q8 =>
  some q8
def f_X11_readsSet_5 (fu : Nat) : Nat → MW → Nat → Int32 → Option MW
  | 0, _, _, _ => none
  | n + 1, w, v0, v1 =>
    (cl w 11 v0 (f_X11_isGood w v0)).bind fun q5 =>
    if q5 = 0 then
      f_X11_readsSet_28 fu w v0
    else
      (gI w 11 v0 24).bind fun x11 =>
      if x11 = (2 : Int32) then
        (cl w 11 v0 (f_X11_readsKeys fu w v0 v1)).bind fun q12 =>
        (f_X11_readsSet_5 fu n) q12 v0 v1
      else
        f_X11_readsSet_28 fu w v0
def f_X11_readsSet (fu : Nat) (w : MW) (v0 : Nat) : Option MW :=
  (cl w 11 v0 (f_X11_setNumber fu w v0)).bind fun q1 =>
  bnd q1.1 fun x4 =>
  f_X11_readsSet_5 fu fu q1.2 v0 x4
def f_X11_readsAct_383 (fu : Nat) (w : MW) (s0 : Int32) : Option (Int32 × MW) :=
  bnd s0 fun x28 =>
  if x28 ≤ 0 then
    some ((1 : Int32), w)
  else
    some ((0 : Int32), w)
def f_X11_readsAct_346 (fu : Nat) (w : MW) (v0 : Nat) (v3 : Int32) (v5 : Int32) : Option (Int32 × MW) :=
  (cl w 11 v0 (f_X11_goOver fu w v0 v5 (0 : Int32) (9999 : Int32) v3)).bind fun q25 =>
  f_X11_readsAct_383 fu q25.2 q25.1
def f_X11_readsAct_283 (fu : Nat) (w : MW) (v0 : Nat) (v1 : Int64) (v3 : Int32) (v5 : Int32) (v6 : Int32) (v7 : Int32) : Option (Int32 × MW) :=
  if (lg_cmp v1 (257105 : Int64)) = 0 then
    (cl w 11 v0 (f_X11_marked fu w v0 v3 v5 v6 (1 : Int32) (1 : Int32))).bind fun q35 =>
    f_X11_readsAct_383 fu q35.2 q35.1
  else
    if (lg_cmp v1 (2774 : Int64)) = 0 then
      (cl w 11 v0 (f_X11_goOver fu w v0 v3 (v5 + (1 : Int32)) (9999 : Int32) v6)).bind fun q32 =>
      f_X11_readsAct_383 fu q32.2 q32.1
    else
      if (lg_cmp v1 (208022 : Int64)) = 0 then
        f_X11_readsAct_346 fu w v0 v3 v5
      else
        if (lg_cmp v1 (259868 : Int64)) = 0 then
          f_X11_readsAct_346 fu w v0 v3 v5
        else
          if (lg_cmp v1 (267413 : Int64)) = 0 then
            (cl w 11 v0 (f_X11_goOver fu w v0 v3 v5 v6 v7)).bind fun q29 =>
            f_X11_readsAct_383 fu q29.2 q29.1
          else
            f_X11_readsAct_383 fu w (1 : Int32)
def f_X11_readsAct_280 (fu : Nat) (w : MW) (v0 : Nat) (v1 : Int64) (v3 : Int32) (v5 : Int32) (v6 : Int32) (v7 : Int32) (s0 : Nat) (s1 : Int32) (s2 : Int32) : Option (Int32 × MW) :=
  (cl w 11 s0 (f_X11_shifts fu w s0 s1 s2)).bind fun q38 =>
  f_X11_readsAct_283 fu q38 v0 v1 v3 v5 v6 v7
def f_X11_readsAct_247 (fu : Nat) (w : MW) (v0 : Nat) (v1 : Int64) (v3 : Int32) (v4 : Int32) (v5 : Int32) (v6 : Int32) (v7 : Int32) (s0 : Int32) : Option (Int32 × MW) :=
  bnd s0 fun x24 =>
  if x24 ≤ 0 then
    if (lg_cmp v1 (10261586 : Int64)) = 0 then
      if v4 = 0 then
        f_X11_readsAct_280 fu w v0 v1 v3 v5 v6 v7 v0 v3 v5
      else
        f_X11_readsAct_280 fu w v0 v1 v3 v5 v6 v7 v0 v3 (-v5)
    else
      f_X11_readsAct_283 fu w v0 v1 v3 v5 v6 v7
  else
    some (x24, w)
def f_X11_readsAct_230 (fu : Nat) (w : MW) (v0 : Nat) (v1 : Int64) (v3 : Int32) (v4 : Int32) (v5 : Int32) (v6 : Int32) (v7 : Int32) (s0 : Nat) (s1 : Int32) (s2 : Int32) : Option (Int32 × MW) :=
  (cl w 11 s0 (f_X11_refusesShift w s0 s1 s2)).bind fun q41 =>
  f_X11_readsAct_247 fu w v0 v1 v3 v4 v5 v6 v7 q41
def f_X11_readsAct_115 (fu : Nat) (w : MW) (v0 : Nat) (v1 : Int64) (v3 : Int32) (v4 : Int32) (v5 : Int32) (v6 : Int32) (s0 : Int32) : Option (Int32 × MW) :=
  bnd s0 fun x14 =>
  (cl w 11 v0 (f_X11_ends fu w v0)).bind fun q15 =>
  (cl q15 11 v0 (f_X11_isGood q15 v0)).bind fun q18 =>
  if q18 = 0 then
    some ((0 : Int32), q15)
  else
    if (lg_cmp v1 (257105 : Int64)) = 0 then
      (cl q15 11 v0 (f_X11_refusesMark fu q15 v0 v3 v5 v6 (1 : Int32))).bind fun q53 =>
      f_X11_readsAct_247 fu q53.2 v0 v1 v3 v4 v5 v6 x14 q53.1
    else
      if (lg_cmp v1 (2774 : Int64)) = 0 then
        (cl q15 11 v0 (f_X11_refusesCut fu q15 v0 v3 v5 v6)).bind fun q50 =>
        f_X11_readsAct_247 fu q15 v0 v1 v3 v4 v5 v6 x14 q50
      else
        if (lg_cmp v1 (208022 : Int64)) = 0 then
          (cl q15 11 v0 (f_X11_refusesJoin q15 v0 v3 v5)).bind fun q47 =>
          f_X11_readsAct_247 fu q15 v0 v1 v3 v4 v5 v6 x14 q47
        else
          if (lg_cmp v1 (259868 : Int64)) = 0 then
            (cl q15 11 v0 (f_X11_refusesMelt fu q15 v0 v3 v5)).bind fun q44 =>
            f_X11_readsAct_247 fu q15 v0 v1 v3 v4 v5 v6 x14 q44
          else
            if (lg_cmp v1 (10261586 : Int64)) = 0 then
              if v4 = 0 then
                f_X11_readsAct_230 fu q15 v0 v1 v3 v4 v5 v6 x14 v0 v3 v5
              else
                f_X11_readsAct_230 fu q15 v0 v1 v3 v4 v5 v6 x14 v0 v3 (-v5)
            else
              (cl q15 11 v0 (f_X11_refusesMove fu q15 v0 v3 v5 v6 x14)).bind fun q21 =>
              f_X11_readsAct_247 fu q15 v0 v1 v3 v4 v5 v6 x14 q21
def f_X11_readsAct_97 (fu : Nat) (w : MW) (v0 : Nat) (v1 : Int64) (v3 : Int32) (v4 : Int32) (v5 : Int32) (s0 : Int32) : Option (Int32 × MW) :=
  bnd s0 fun x13 =>
  if (lg_cmp v1 (267413 : Int64)) = 0 then
    (cl w 11 v0 (f_X11_setNumber fu w v0)).bind fun q56 =>
    f_X11_readsAct_115 fu q56.2 v0 v1 v3 v4 v5 x13 q56.1
  else
    f_X11_readsAct_115 fu w v0 v1 v3 v4 v5 x13 (0 : Int32)
def f_X11_readsAct_89 (fu : Nat) (w : MW) (v0 : Nat) (v1 : Int64) (v3 : Int32) (v4 : Int32) (v5 : Int32) : Option (Int32 × MW) :=
  (cl w 11 v0 (f_X11_numeral fu w v0)).bind fun q10 =>
  f_X11_readsAct_97 fu q10.2 v0 v1 v3 v4 v5 q10.1
def f_X11_readsAct_56 (fu : Nat) (w : MW) (v0 : Nat) (v1 : Int64) (v3 : Int32) (v4 : Int32) (s0 : Int32) : Option (Int32 × MW) :=
  bnd s0 fun x9 =>
  if (lg_cmp v1 (2774 : Int64)) = 0 then
    (cl w 11 v0 (f_X11_setNumber fu w v0)).bind fun q59 =>
    f_X11_readsAct_97 fu q59.2 v0 v1 v3 v4 x9 q59.1
  else
    if (lg_cmp v1 (257105 : Int64)) = 0 then
      f_X11_readsAct_89 fu w v0 v1 v3 v4 x9
    else
      if (lg_cmp v1 (267413 : Int64)) = 0 then
        f_X11_readsAct_89 fu w v0 v1 v3 v4 x9
      else
        f_X11_readsAct_97 fu w v0 v1 v3 v4 x9 (0 : Int32)
def f_X11_readsAct_45 (fu : Nat) (w : MW) (v0 : Nat) (v1 : Int64) (v3 : Int32) (v4 : Int32) : Option (Int32 × MW) :=
  (cl w 11 v0 (f_X11_setNumber fu w v0)).bind fun q6 =>
  f_X11_readsAct_56 fu q6.2 v0 v1 v3 v4 q6.1
def f_X11_readsAct_27 (fu : Nat) (w : MW) (v0 : Nat) (v1 : Int64) (v3 : Int32) (s0 : Int32) : Option (Int32 × MW) :=
  bnd s0 fun x5 =>
  if (lg_cmp v1 (208022 : Int64)) = 0 then
    f_X11_readsAct_45 fu w v0 v1 v3 x5
  else
    if (lg_cmp v1 (259868 : Int64)) = 0 then
      f_X11_readsAct_45 fu w v0 v1 v3 x5
    else
      (cl w 11 v0 (f_X11_numeral fu w v0)).bind fun q62 =>
      f_X11_readsAct_56 fu q62.2 v0 v1 v3 x5 q62.1
def f_X11_readsAct (fu : Nat) (w : MW) (v0 : Nat) (v1 : Int64) : Option (Int32 × MW) :=
  (cl w 11 v0 (f_X11_setNumber fu w v0)).bind fun q1 =>
  bnd q1.1 fun x4 =>
  if (lg_cmp v1 (10261586 : Int64)) = 0 then
    (cl q1.2 11 v0 (f_X11_hasSign fu q1.2 v0 (45 : Int32))).bind fun q65 =>
    if q65.1 = 0 then
      f_X11_readsAct_27 fu q65.2 v0 v1 x4 (0 : Int32)
    else
      f_X11_readsAct_27 fu q65.2 v0 v1 x4 (1 : Int32)
  else
    f_X11_readsAct_27 fu q1.2 v0 v1 x4 (0 : Int32)
def f_X11_readsLine_99 (fu : Nat) (w : MW) (v0 : Nat) (v1 : Int32) (v2 : Int64) : Option MW :=
  (cl w 11 v0 (f_X11_readsAct fu w v0 v2)).bind fun q11 =>
  if q11.1 ≤ 0 then
    some q11.2
  else
    (cl q11.2 11 v0 (f_X11_fails q11.2 v0 (4 : Int32) v1)).bind fun q14 =>
    some q14
def f_X11_readsLine_21 (fu : Nat) (w : MW) (v0 : Nat) (v1 : Int32) (s0 : Int64) : Option MW :=
  bnd s0 fun x4 =>
  (cl w 11 v0 (f_X11_hasWord fu w v0 (14006 : Int64))).bind fun q5 =>
  if q5.1 = 0 then
    (cl q5.2 11 v0 (f_X11_hasWord fu q5.2 v0 (257105 : Int64))).bind fun q8 =>
    if q8.1 = 0 then
      (cl q8.2 11 v0 (f_X11_hasWord fu q8.2 v0 (2774 : Int64))).bind fun q17 =>
      if q17.1 = 0 then
        (cl q17.2 11 v0 (f_X11_hasWord fu q17.2 v0 (208022 : Int64))).bind fun q20 =>
        if q20.1 = 0 then
          (cl q20.2 11 v0 (f_X11_hasWord fu q20.2 v0 (259868 : Int64))).bind fun q23 =>
          if q23.1 = 0 then
            (cl q23.2 11 v0 (f_X11_hasWord fu q23.2 v0 (10261586 : Int64))).bind fun q26 =>
            if q26.1 = 0 then
              (cl q26.2 11 v0 (f_X11_hasWord fu q26.2 v0 (267413 : Int64))).bind fun q29 =>
              if q29.1 = 0 then
                (gI q29.2 11 v0 25).bind fun x32 =>
                (cl q29.2 11 v0 (f_X11_fails q29.2 v0 (1 : Int32) x32)).bind fun q33 =>
                some q33
              else
                f_X11_readsLine_99 fu q29.2 v0 v1 x4
            else
              f_X11_readsLine_99 fu q26.2 v0 v1 x4
          else
            f_X11_readsLine_99 fu q23.2 v0 v1 x4
        else
          f_X11_readsLine_99 fu q20.2 v0 v1 x4
      else
        f_X11_readsLine_99 fu q17.2 v0 v1 x4
    else
      f_X11_readsLine_99 fu q8.2 v0 v1 x4
  else
    (cl q5.2 11 v0 (f_X11_readsSet fu q5.2 v0)).bind fun q36 =>
    some q36
def f_X11_readsLine (fu : Nat) (w : MW) (v0 : Nat) : Option MW :=
  (gI w 11 v0 25).bind fun x1 =>
  bnd x1 fun x2 =>
  (gI w 11 v0 24).bind fun x3 =>
  if x3 = (1 : Int32) then
    (gJ w 11 v0 26).bind fun x39 =>
    f_X11_readsLine_21 fu w v0 x2 x39
  else
    f_X11_readsLine_21 fu w v0 x2 (0 : Int64)
def f_X11_text_67 (fu : Nat) (w : MW) (v0 : Nat) : Option (Int32 × MW) :=
  (pV w 11 v0 9 (.int (0 : Int32))).bind fun w17 =>
  (cl w17 11 v0 (f_X11_isGood w17 v0)).bind fun q18 =>
  if q18 = 0 then
    some ((-1 : Int32), w17)
  else
    (cl w17 11 v0 (f_X11_copies fu w17 v0 (976 : Int32) (0 : Int32) (976 : Int32))).bind fun q21 =>
    (pV q21 11 v0 8 (.int (0 : Int32))).bind fun w24 =>
    (cl w24 11 v0 (f_X11_total fu w24 v0)).bind fun q25 =>
    some (q25, w24)
def f_X11_text_46 (fu : Nat) : Nat → MW → Nat → Option (Int32 × MW)
  | 0, _, _ => none
  | n + 1, w, v0 =>
    (cl w 11 v0 (f_X11_isGood w v0)).bind fun q14 =>
    if q14 = 0 then
      f_X11_text_67 fu w v0
    else
      (gI w 11 v0 24).bind fun x28 =>
      if x28 = 0 then
        f_X11_text_67 fu w v0
      else
        (cl w 11 v0 (f_X11_readsLine fu w v0)).bind fun q29 =>
        (f_X11_text_46 fu n) q29 v0
def f_X11_text (fu : Nat) (w : MW) (v0 : Nat) : Option (Int32 × MW) :=
  (gI w 11 v0 4).bind fun x1 =>
  (pV w 11 v0 22 (.int x1)).bind fun w2 =>
  (pV w2 11 v0 4 (.int (0 : Int32))).bind fun w3 =>
  (pV w3 11 v0 6 (.int (0 : Int32))).bind fun w4 =>
  (pV w4 11 v0 7 (.int (-1 : Int32))).bind fun w5 =>
  (pV w5 11 v0 23 (.int (0 : Int32))).bind fun w6 =>
  (cl w6 11 v0 (f_X11_empties fu w6 v0 (976 : Int32))).bind fun q7 =>
  (pV q7 11 v0 9 (.int (976 : Int32))).bind fun w10 =>
  (cl w10 11 v0 (f_X11_takes fu w10 v0)).bind fun q11 =>
  f_X11_text_46 fu fu q11 v0
def f_X11_image_65 (fu : Nat) : Nat → MW → Nat → Int32 → Int32 → Int32 → Option (Int32 × MW)
  | 0, _, _, _, _, _ => none
  | n + 1, w, v0, v1, v2, v3 =>
    if (400 : Int32) ≤ v3 then
      (gR w 11 v0 0).bind fun x7 =>
      (gI w 11 v0 4).bind fun x8 =>
      (sI w .int x7 (((v2 + (976 : Int32)) + (800 : Int32)) + (400 : Int32)) x8).bind fun w9 =>
      (gR w9 11 v0 0).bind fun x10 =>
      (gI w9 11 v0 6).bind fun x11 =>
      (sI w9 .int x10 (((v2 + (976 : Int32)) + (800 : Int32)) + (401 : Int32)) x11).bind fun w12 =>
      (gR w12 11 v0 0).bind fun x13 =>
      (gI w12 11 v0 7).bind fun x14 =>
      (sI w12 .int x13 (((v2 + (976 : Int32)) + (800 : Int32)) + (402 : Int32)) x14).bind fun w15 =>
      (gR w15 11 v0 0).bind fun x16 =>
      (gI w15 11 v0 5).bind fun x17 =>
      (sI w15 .int x16 (((v2 + (976 : Int32)) + (800 : Int32)) + (403 : Int32)) x17).bind fun w18 =>
      (gR w18 11 v0 3).bind fun x19 =>
      (sI w18 .boolean x19 v1 (vp_nar .boolean (1 : Int32))).bind fun w20 =>
      some ((1 : Int32), w20)
    else
      (gR w 11 v0 0).bind fun x21 =>
      (gR w 11 v0 2).bind fun x22 =>
      (aI w .int x22 v3).bind fun x23 =>
      (sI w .int x21 (((v2 + (976 : Int32)) + (800 : Int32)) + v3) x23).bind fun w24 =>
      bnd (v3 + 1) fun x25 =>
      (f_X11_image_65 fu n) w24 v0 v1 v2 x25
def f_X11_image_32 (fu : Nat) : Nat → MW → Nat → Int32 → Int32 → Int32 → Option (Int32 × MW)
  | 0, _, _, _, _, _ => none
  | n + 1, w, v0, v1, v2, v3 =>
    if (800 : Int32) ≤ v3 then
      bnd (0 : Int32) fun x6 =>
      f_X11_image_65 fu fu w v0 v1 v2 x6
    else
      (gR w 11 v0 0).bind fun x26 =>
      (gR w 11 v0 1).bind fun x27 =>
      (aI w .int x27 v3).bind fun x28 =>
      (sI w .int x26 ((v2 + (976 : Int32)) + v3) x28).bind fun w29 =>
      bnd (v3 + 1) fun x30 =>
      (f_X11_image_32 fu n) w29 v0 v1 v2 x30
def f_X11_image (fu : Nat) (w : MW) (v0 : Nat) (v1 : Int32) : Option (Int32 × MW) :=
  if (f_X11_isIn v1 (0 : Int32) (2 : Int32)) = 0 then
    some ((0 : Int32), w)
  else
    bnd ((13664 : Int32) + ((2180 : Int32) * v1)) fun x1 =>
    (cl w 11 v0 (f_X11_copies fu w v0 (0 : Int32) x1 (976 : Int32))).bind fun q2 =>
    bnd (0 : Int32) fun x5 =>
    f_X11_image_32 fu fu q2 v0 v1 x1 x5
def f_X11_again_74 (fu : Nat) : Nat → MW → Nat → Int32 → Int32 → Option (Int32 × MW)
  | 0, _, _, _, _ => none
  | n + 1, w, v0, v2, v3 =>
    if (400 : Int32) ≤ v3 then
      (gR w 11 v0 0).bind fun x9 =>
      (aI w .int x9 (((v2 + (976 : Int32)) + (800 : Int32)) + (400 : Int32))).bind fun x10 =>
      (pV w 11 v0 4 (.int x10)).bind fun w11 =>
      (gR w11 11 v0 0).bind fun x12 =>
      (aI w11 .int x12 (((v2 + (976 : Int32)) + (800 : Int32)) + (401 : Int32))).bind fun x13 =>
      (pV w11 11 v0 6 (.int x13)).bind fun w14 =>
      (gR w14 11 v0 0).bind fun x15 =>
      (aI w14 .int x15 (((v2 + (976 : Int32)) + (800 : Int32)) + (402 : Int32))).bind fun x16 =>
      (pV w14 11 v0 7 (.int x16)).bind fun w17 =>
      (gR w17 11 v0 0).bind fun x18 =>
      (aI w17 .int x18 (((v2 + (976 : Int32)) + (800 : Int32)) + (403 : Int32))).bind fun x19 =>
      (pV w17 11 v0 5 (.int x19)).bind fun w20 =>
      (pV w20 11 v0 8 (.int (0 : Int32))).bind fun w21 =>
      some ((1 : Int32), w21)
    else
      (gR w 11 v0 2).bind fun x22 =>
      (gR w 11 v0 0).bind fun x23 =>
      (aI w .int x23 (((v2 + (976 : Int32)) + (800 : Int32)) + v3)).bind fun x24 =>
      (sI w .int x22 v3 x24).bind fun w25 =>
      bnd (v3 + 1) fun x26 =>
      (f_X11_again_74 fu n) w25 v0 v2 x26
def f_X11_again_41 (fu : Nat) : Nat → MW → Nat → Int32 → Int32 → Option (Int32 × MW)
  | 0, _, _, _, _ => none
  | n + 1, w, v0, v2, v3 =>
    if (800 : Int32) ≤ v3 then
      bnd (0 : Int32) fun x8 =>
      f_X11_again_74 fu fu w v0 v2 x8
    else
      (gR w 11 v0 1).bind fun x27 =>
      (gR w 11 v0 0).bind fun x28 =>
      (aI w .int x28 ((v2 + (976 : Int32)) + v3)).bind fun x29 =>
      (sI w .int x27 v3 x29).bind fun w30 =>
      bnd (v3 + 1) fun x31 =>
      (f_X11_again_41 fu n) w30 v0 v2 x31
def f_X11_again (fu : Nat) (w : MW) (v0 : Nat) (v1 : Int32) : Option (Int32 × MW) :=
  if (f_X11_isIn v1 (0 : Int32) (2 : Int32)) = 0 then
    some ((0 : Int32), w)
  else
    (gR w 11 v0 3).bind fun x1 =>
    (aI w .boolean x1 v1).bind fun x2 =>
    if x2 = 0 then
      some ((0 : Int32), w)
    else
      bnd ((13664 : Int32) + ((2180 : Int32) * v1)) fun x3 =>
      (cl w 11 v0 (f_X11_copies fu w v0 x3 (0 : Int32) (976 : Int32))).bind fun q4 =>
      bnd (0 : Int32) fun x7 =>
      f_X11_again_41 fu fu q4 v0 x3 x7
