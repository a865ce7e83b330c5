def scr (Ln : Nat) (xs : Nat → Int32) (i : Int32) : Option Int32 := if 0 ≤ i ∧ i.toNatClampNeg < Ln then some (xs i.toNatClampNeg) else none
theorem bnd_eq0 {α β : Type} (x : α) (k : α → β) : bnd x k = k x := rfl
def f_law_1196 (fu Ln : Nat) (xs : Nat → Int32) (lr18 : MW → Nat → Nat → Int32 → Option Int32) (w : MW) (v1 : Nat) (v2 : Nat) (v3 : Int32) : Option Int32 :=
  bnd (v3 + 6) fun x19 =>
  lr18 w v1 v2 x19
def f_law_612 (fu Ln : Nat) (xs : Nat → Int32) (lr18 : MW → Nat → Nat → Int32 → Option Int32) (w : MW) (v1 : Nat) (v2 : Nat) (v3 : Int32) (s0 : Int32) (s1 : Nat) (s2 : Int32) (s3 : Int32) (s4 : Int32) (s5 : Int32) : Option Int32 :=
  (cl w 11 s1 (f_X11_mark fu w s1 s2 s3 s4 s5)).bind fun q140 =>
  if s0 = q140.1 then
    f_law_1196 fu Ln xs lr18 q140.2 v1 v2 v3
  else
    some 0
def f_law_580 (fu Ln : Nat) (xs : Nat → Int32) (lr18 : MW → Nat → Nat → Int32 → Option Int32) (w : MW) (v1 : Nat) (v2 : Nat) (v3 : Int32) (s0 : Nat) (s1 : Int32) (s2 : Int32) (s3 : Int32) (s4 : Int32) : Option Int32 :=
  (cl w 10 s0 (f_X10_mark fu w s0 s1 s2 s3 s4)).bind fun q133 =>
  (scr Ln xs (v3 + (1 : Int32))).bind fun x136 =>
  (scr Ln xs (v3 + (2 : Int32))).bind fun x137 =>
  (scr Ln xs (v3 + (3 : Int32))).bind fun x138 =>
  (scr Ln xs (v3 + (4 : Int32))).bind fun x139 =>
  if x139 = 0 then
    f_law_612 fu Ln xs lr18 q133.2 v1 v2 v3 q133.1 v2 x136 x137 x138 (0 : Int32)
  else
    f_law_612 fu Ln xs lr18 q133.2 v1 v2 v3 q133.1 v2 x136 x137 x138 (1 : Int32)
def f_law_836 (fu Ln : Nat) (xs : Nat → Int32) (lr18 : MW → Nat → Nat → Int32 → Option Int32) (w : MW) (v1 : Nat) (v2 : Nat) (v3 : Int32) (s0 : Int32) (s1 : Nat) (s2 : Int32) (s3 : Int32) (s4 : Int32) (s5 : Int32) : Option Int32 :=
  (cl w 11 s1 (f_X11_within fu w s1 s2 s3 s4 s5)).bind fun q208 =>
  if s0 = q208 then
    f_law_1196 fu Ln xs lr18 w v1 v2 v3
  else
    some 0
def f_law_804 (fu Ln : Nat) (xs : Nat → Int32) (lr18 : MW → Nat → Nat → Int32 → Option Int32) (w : MW) (v1 : Nat) (v2 : Nat) (v3 : Int32) (s0 : Nat) (s1 : Int32) (s2 : Int32) (s3 : Int32) (s4 : Int32) : Option Int32 :=
  (cl w 10 s0 (f_X10_within fu w s0 s1 s2 s3 s4)).bind fun q201 =>
  (scr Ln xs (v3 + (1 : Int32))).bind fun x204 =>
  (scr Ln xs (v3 + (2 : Int32))).bind fun x205 =>
  (scr Ln xs (v3 + (3 : Int32))).bind fun x206 =>
  (scr Ln xs (v3 + (4 : Int32))).bind fun x207 =>
  if x207 = 0 then
    f_law_836 fu Ln xs lr18 w v1 v2 v3 q201 v2 x204 x205 x206 (0 : Int32)
  else
    f_law_836 fu Ln xs lr18 w v1 v2 v3 q201 v2 x204 x205 x206 (1 : Int32)
def f_law_1073 (fu Ln : Nat) (xs : Nat → Int32) (lr18 : MW → Nat → Nat → Int32 → Option Int32) (w : MW) (v1 : Nat) (v2 : Nat) (v3 : Int32) (s0 : Int32) (s1 : Nat) (s2 : Int32) (s3 : Int32) (s4 : Int32) : Option Int32 :=
  (cl w 11 s1 (f_X11_would fu w s1 s2 s3 s4)).bind fun q283 =>
  if s0 = q283.1 then
    f_law_1196 fu Ln xs lr18 q283.2 v1 v2 v3
  else
    some 0
def f_law_1046 (fu Ln : Nat) (xs : Nat → Int32) (lr18 : MW → Nat → Nat → Int32 → Option Int32) (w : MW) (v1 : Nat) (v2 : Nat) (v3 : Int32) (s0 : Nat) (s1 : Int32) (s2 : Int32) (s3 : Int32) : Option Int32 :=
  (cl w 10 s0 (f_X10_would fu w s0 s1 s2 s3)).bind fun q277 =>
  (scr Ln xs (v3 + (1 : Int32))).bind fun x280 =>
  (scr Ln xs (v3 + (2 : Int32))).bind fun x281 =>
  (scr Ln xs (v3 + (3 : Int32))).bind fun x282 =>
  if x282 = 0 then
    f_law_1073 fu Ln xs lr18 q277.2 v1 v2 v3 q277.1 v2 x280 x281 (0 : Int32)
  else
    f_law_1073 fu Ln xs lr18 q277.2 v1 v2 v3 q277.1 v2 x280 x281 (1 : Int32)
def f_law_18 (fu Ln : Nat) (xs : Nat → Int32) : Nat → MW → Nat → Nat → Int32 → Option Int32
  | 0, _, _, _, _ => none
  | n + 1, w, v1, v2, v3 =>
    if ((nI Ln) - (6 : Int32)) < v3 then
      some 1
    else
      (scr Ln xs v3).bind fun x1 =>
      if (x1 &&& (31 : Int32)) = 0 then
        (scr Ln xs (v3 + (1 : Int32))).bind fun x3 =>
        (scr Ln xs (v3 + (2 : Int32))).bind fun x4 =>
        (scr Ln xs (v3 + (3 : Int32))).bind fun x5 =>
        (scr Ln xs (v3 + (4 : Int32))).bind fun x6 =>
        (scr Ln xs (v3 + (5 : Int32))).bind fun x7 =>
        (cl w 10 v1 (f_X10_feed w v1 x3 x4 x5 x6 x7)).bind fun q8 =>
        (scr Ln xs (v3 + (1 : Int32))).bind fun x11 =>
        (scr Ln xs (v3 + (2 : Int32))).bind fun x12 =>
        (scr Ln xs (v3 + (3 : Int32))).bind fun x13 =>
        (scr Ln xs (v3 + (4 : Int32))).bind fun x14 =>
        (scr Ln xs (v3 + (5 : Int32))).bind fun x15 =>
        (cl q8.2 11 v2 (f_X11_feed fu q8.2 v2 x11 x12 x13 x14 x15)).bind fun q16 =>
        if q8.1 = q16.1 then
          f_law_1196 fu Ln xs (f_law_18 fu Ln xs n) q16.2 v1 v2 v3
        else
          some 0
      else if (x1 &&& (31 : Int32)) = 1 then
        (scr Ln xs (v3 + (1 : Int32))).bind fun x21 =>
        (cl w 10 v1 (f_X10_end w v1 x21)).bind fun q22 =>
        (scr Ln xs (v3 + (1 : Int32))).bind fun x25 =>
        (cl q22.2 11 v2 (f_X11_end q22.2 v2 x25)).bind fun q26 =>
        if q22.1 = q26.1 then
          f_law_1196 fu Ln xs (f_law_18 fu Ln xs n) q26.2 v1 v2 v3
        else
          some 0
      else if (x1 &&& (31 : Int32)) = 2 then
        (cl w 10 v1 (f_X10_text fu w v1)).bind fun q30 =>
        (cl q30.2 11 v2 (f_X11_text fu q30.2 v2)).bind fun q33 =>
        if q30.1 = q33.1 then
          f_law_1196 fu Ln xs (f_law_18 fu Ln xs n) q33.2 v1 v2 v3
        else
          some 0
      else if (x1 &&& (31 : Int32)) = 3 then
        (scr Ln xs (v3 + (1 : Int32))).bind fun x37 =>
        (cl w 10 v1 (f_X10_fault w v1 x37)).bind fun q38 =>
        (scr Ln xs (v3 + (1 : Int32))).bind fun x41 =>
        (cl w 11 v2 (f_X11_fault w v2 x41)).bind fun q42 =>
        if q38 = q42 then
          f_law_1196 fu Ln xs (f_law_18 fu Ln xs n) w v1 v2 v3
        else
          some 0
      else if (x1 &&& (31 : Int32)) = 4 then
        (scr Ln xs (v3 + (1 : Int32))).bind fun x46 =>
        (scr Ln xs (v3 + (2 : Int32))).bind fun x47 =>
        (cl w 10 v1 (f_X10_put fu w v1 x46 x47)).bind fun q48 =>
        (scr Ln xs (v3 + (1 : Int32))).bind fun x51 =>
        (scr Ln xs (v3 + (2 : Int32))).bind fun x52 =>
        (cl q48.2 11 v2 (f_X11_put fu q48.2 v2 x51 x52)).bind fun q53 =>
        if q48.1 = q53.1 then
          f_law_1196 fu Ln xs (f_law_18 fu Ln xs n) q53.2 v1 v2 v3
        else
          some 0
      else if (x1 &&& (31 : Int32)) = 5 then
        (scr Ln xs (v3 + (1 : Int32))).bind fun x57 =>
        (scr Ln xs (v3 + (2 : Int32))).bind fun x58 =>
        (cl w 10 v1 (f_X10_drop fu w v1 x57 x58)).bind fun q59 =>
        (scr Ln xs (v3 + (1 : Int32))).bind fun x62 =>
        (scr Ln xs (v3 + (2 : Int32))).bind fun x63 =>
        (cl q59.2 11 v2 (f_X11_drop fu q59.2 v2 x62 x63)).bind fun q64 =>
        if q59.1 = q64.1 then
          f_law_1196 fu Ln xs (f_law_18 fu Ln xs n) q64.2 v1 v2 v3
        else
          some 0
      else if (x1 &&& (31 : Int32)) = 6 then
        (scr Ln xs (v3 + (1 : Int32))).bind fun x68 =>
        (scr Ln xs (v3 + (2 : Int32))).bind fun x69 =>
        (scr Ln xs (v3 + (3 : Int32))).bind fun x70 =>
        (cl w 10 v1 (f_X10_cut fu w v1 x68 x69 x70)).bind fun q71 =>
        (scr Ln xs (v3 + (1 : Int32))).bind fun x74 =>
        (scr Ln xs (v3 + (2 : Int32))).bind fun x75 =>
        (scr Ln xs (v3 + (3 : Int32))).bind fun x76 =>
        (cl q71.2 11 v2 (f_X11_cut fu q71.2 v2 x74 x75 x76)).bind fun q77 =>
        if q71.1 = q77.1 then
          f_law_1196 fu Ln xs (f_law_18 fu Ln xs n) q77.2 v1 v2 v3
        else
          some 0
      else if (x1 &&& (31 : Int32)) = 7 then
        (scr Ln xs (v3 + (1 : Int32))).bind fun x81 =>
        (scr Ln xs (v3 + (2 : Int32))).bind fun x82 =>
        (cl w 10 v1 (f_X10_join fu w v1 x81 x82)).bind fun q83 =>
        (scr Ln xs (v3 + (1 : Int32))).bind fun x86 =>
        (scr Ln xs (v3 + (2 : Int32))).bind fun x87 =>
        (cl q83.2 11 v2 (f_X11_join fu q83.2 v2 x86 x87)).bind fun q88 =>
        if q83.1 = q88.1 then
          f_law_1196 fu Ln xs (f_law_18 fu Ln xs n) q88.2 v1 v2 v3
        else
          some 0
      else if (x1 &&& (31 : Int32)) = 8 then
        (scr Ln xs (v3 + (1 : Int32))).bind fun x92 =>
        (scr Ln xs (v3 + (2 : Int32))).bind fun x93 =>
        (cl w 10 v1 (f_X10_melt fu w v1 x92 x93)).bind fun q94 =>
        (scr Ln xs (v3 + (1 : Int32))).bind fun x97 =>
        (scr Ln xs (v3 + (2 : Int32))).bind fun x98 =>
        (cl q94.2 11 v2 (f_X11_melt fu q94.2 v2 x97 x98)).bind fun q99 =>
        if q94.1 = q99.1 then
          f_law_1196 fu Ln xs (f_law_18 fu Ln xs n) q99.2 v1 v2 v3
        else
          some 0
      else if (x1 &&& (31 : Int32)) = 9 then
        (scr Ln xs (v3 + (1 : Int32))).bind fun x103 =>
        (scr Ln xs (v3 + (2 : Int32))).bind fun x104 =>
        (cl w 10 v1 (f_X10_shift fu w v1 x103 x104)).bind fun q105 =>
        (scr Ln xs (v3 + (1 : Int32))).bind fun x108 =>
        (scr Ln xs (v3 + (2 : Int32))).bind fun x109 =>
        (cl q105.2 11 v2 (f_X11_shift fu q105.2 v2 x108 x109)).bind fun q110 =>
        if q105.1 = q110.1 then
          f_law_1196 fu Ln xs (f_law_18 fu Ln xs n) q110.2 v1 v2 v3
        else
          some 0
      else if (x1 &&& (31 : Int32)) = 10 then
        (scr Ln xs (v3 + (1 : Int32))).bind fun x114 =>
        (scr Ln xs (v3 + (2 : Int32))).bind fun x115 =>
        (scr Ln xs (v3 + (3 : Int32))).bind fun x116 =>
        (scr Ln xs (v3 + (4 : Int32))).bind fun x117 =>
        (cl w 10 v1 (f_X10_move fu w v1 x114 x115 x116 x117)).bind fun q118 =>
        (scr Ln xs (v3 + (1 : Int32))).bind fun x121 =>
        (scr Ln xs (v3 + (2 : Int32))).bind fun x122 =>
        (scr Ln xs (v3 + (3 : Int32))).bind fun x123 =>
        (scr Ln xs (v3 + (4 : Int32))).bind fun x124 =>
        (cl q118.2 11 v2 (f_X11_move fu q118.2 v2 x121 x122 x123 x124)).bind fun q125 =>
        if q118.1 = q125.1 then
          f_law_1196 fu Ln xs (f_law_18 fu Ln xs n) q125.2 v1 v2 v3
        else
          some 0
      else if (x1 &&& (31 : Int32)) = 11 then
        (scr Ln xs (v3 + (1 : Int32))).bind fun x129 =>
        (scr Ln xs (v3 + (2 : Int32))).bind fun x130 =>
        (scr Ln xs (v3 + (3 : Int32))).bind fun x131 =>
        (scr Ln xs (v3 + (4 : Int32))).bind fun x132 =>
        if x132 = 0 then
          f_law_580 fu Ln xs (f_law_18 fu Ln xs n) w v1 v2 v3 v1 x129 x130 x131 (0 : Int32)
        else
          f_law_580 fu Ln xs (f_law_18 fu Ln xs n) w v1 v2 v3 v1 x129 x130 x131 (1 : Int32)
      else if (x1 &&& (31 : Int32)) = 12 then
        (scr Ln xs (v3 + (1 : Int32))).bind fun x144 =>
        (scr Ln xs (v3 + (2 : Int32))).bind fun x145 =>
        (cl w 10 v1 (f_X10_seek fu w v1 x144 x145)).bind fun q146 =>
        (scr Ln xs (v3 + (1 : Int32))).bind fun x149 =>
        (scr Ln xs (v3 + (2 : Int32))).bind fun x150 =>
        (cl q146.2 11 v2 (f_X11_seek fu q146.2 v2 x149 x150)).bind fun q151 =>
        if q146.1 = q151.1 then
          f_law_1196 fu Ln xs (f_law_18 fu Ln xs n) q151.2 v1 v2 v3
        else
          some 0
      else if (x1 &&& (31 : Int32)) = 13 then
        (cl w 10 v1 (f_X10_undo fu w v1)).bind fun q155 =>
        (cl q155.2 11 v2 (f_X11_undo fu q155.2 v2)).bind fun q158 =>
        if q155.1 = q158.1 then
          f_law_1196 fu Ln xs (f_law_18 fu Ln xs n) q158.2 v1 v2 v3
        else
          some 0
      else if (x1 &&& (31 : Int32)) = 14 then
        (scr Ln xs (v3 + (1 : Int32))).bind fun x162 =>
        (scr Ln xs (v3 + (2 : Int32))).bind fun x163 =>
        (cl w 10 v1 (f_X10_set fu w v1 x162 x163)).bind fun q164 =>
        (scr Ln xs (v3 + (1 : Int32))).bind fun x167 =>
        (scr Ln xs (v3 + (2 : Int32))).bind fun x168 =>
        (cl q164.2 11 v2 (f_X11_set fu q164.2 v2 x167 x168)).bind fun q169 =>
        if q164.1 = q169.1 then
          f_law_1196 fu Ln xs (f_law_18 fu Ln xs n) q169.2 v1 v2 v3
        else
          some 0
      else if (x1 &&& (31 : Int32)) = 15 then
        (scr Ln xs (v3 + (1 : Int32))).bind fun x173 =>
        (scr Ln xs (v3 + (2 : Int32))).bind fun x174 =>
        (cl w 10 v1 (f_X10_key w v1 x173 x174)).bind fun q175 =>
        (scr Ln xs (v3 + (1 : Int32))).bind fun x178 =>
        (scr Ln xs (v3 + (2 : Int32))).bind fun x179 =>
        (cl w 11 v2 (f_X11_key w v2 x178 x179)).bind fun q180 =>
        if q175 = q180 then
          f_law_1196 fu Ln xs (f_law_18 fu Ln xs n) w v1 v2 v3
        else
          some 0
      else if (x1 &&& (31 : Int32)) = 16 then
        (scr Ln xs (v3 + (1 : Int32))).bind fun x184 =>
        (scr Ln xs (v3 + (2 : Int32))).bind fun x185 =>
        (scr Ln xs (v3 + (3 : Int32))).bind fun x186 =>
        (cl w 10 v1 (f_X10_of fu w v1 x184 x185 x186)).bind fun q187 =>
        (scr Ln xs (v3 + (1 : Int32))).bind fun x190 =>
        (scr Ln xs (v3 + (2 : Int32))).bind fun x191 =>
        (scr Ln xs (v3 + (3 : Int32))).bind fun x192 =>
        (cl q187.2 11 v2 (f_X11_of fu q187.2 v2 x190 x191 x192)).bind fun q193 =>
        if q187.1 = q193.1 then
          f_law_1196 fu Ln xs (f_law_18 fu Ln xs n) q193.2 v1 v2 v3
        else
          some 0
      else if (x1 &&& (31 : Int32)) = 17 then
        (scr Ln xs (v3 + (1 : Int32))).bind fun x197 =>
        (scr Ln xs (v3 + (2 : Int32))).bind fun x198 =>
        (scr Ln xs (v3 + (3 : Int32))).bind fun x199 =>
        (scr Ln xs (v3 + (4 : Int32))).bind fun x200 =>
        if x200 = 0 then
          f_law_804 fu Ln xs (f_law_18 fu Ln xs n) w v1 v2 v3 v1 x197 x198 x199 (0 : Int32)
        else
          f_law_804 fu Ln xs (f_law_18 fu Ln xs n) w v1 v2 v3 v1 x197 x198 x199 (1 : Int32)
      else if (x1 &&& (31 : Int32)) = 18 then
        (scr Ln xs (v3 + (1 : Int32))).bind fun x212 =>
        (scr Ln xs (v3 + (2 : Int32))).bind fun x213 =>
        (scr Ln xs (v3 + (3 : Int32))).bind fun x214 =>
        (cl w 10 v1 (f_X10_far fu w v1 x212 x213 x214)).bind fun q215 =>
        (scr Ln xs (v3 + (1 : Int32))).bind fun x218 =>
        (scr Ln xs (v3 + (2 : Int32))).bind fun x219 =>
        (scr Ln xs (v3 + (3 : Int32))).bind fun x220 =>
        (cl q215.2 11 v2 (f_X11_far fu q215.2 v2 x218 x219 x220)).bind fun q221 =>
        if q215.1 = q221.1 then
          f_law_1196 fu Ln xs (f_law_18 fu Ln xs n) q221.2 v1 v2 v3
        else
          some 0
      else if (x1 &&& (31 : Int32)) = 19 then
        (scr Ln xs (v3 + (1 : Int32))).bind fun x225 =>
        (cl w 10 v1 (f_X10_where fu w v1 x225)).bind fun q226 =>
        (scr Ln xs (v3 + (1 : Int32))).bind fun x229 =>
        (cl w 11 v2 (f_X11_where fu w v2 x229)).bind fun q230 =>
        if q226 = q230 then
          f_law_1196 fu Ln xs (f_law_18 fu Ln xs n) w v1 v2 v3
        else
          some 0
      else if (x1 &&& (31 : Int32)) = 20 then
        (scr Ln xs (v3 + (1 : Int32))).bind fun x234 =>
        (cl w 10 v1 (f_X10_count fu w v1 x234)).bind fun q235 =>
        (scr Ln xs (v3 + (1 : Int32))).bind fun x238 =>
        (cl q235.2 11 v2 (f_X11_count fu q235.2 v2 x238)).bind fun q239 =>
        if q235.1 = q239.1 then
          f_law_1196 fu Ln xs (f_law_18 fu Ln xs n) q239.2 v1 v2 v3
        else
          some 0
      else if (x1 &&& (31 : Int32)) = 21 then
        (scr Ln xs (v3 + (1 : Int32))).bind fun x243 =>
        (scr Ln xs (v3 + (2 : Int32))).bind fun x244 =>
        (scr Ln xs (v3 + (3 : Int32))).bind fun x245 =>
        (cl w 10 v1 (f_X10_pair fu w v1 x243 x244 x245)).bind fun q246 =>
        (scr Ln xs (v3 + (1 : Int32))).bind fun x249 =>
        (scr Ln xs (v3 + (2 : Int32))).bind fun x250 =>
        (scr Ln xs (v3 + (3 : Int32))).bind fun x251 =>
        (cl q246.2 11 v2 (f_X11_pair fu q246.2 v2 x249 x250 x251)).bind fun q252 =>
        if q246.1 = q252.1 then
          f_law_1196 fu Ln xs (f_law_18 fu Ln xs n) q252.2 v1 v2 v3
        else
          some 0
      else if (x1 &&& (31 : Int32)) = 22 then
        (scr Ln xs (v3 + (1 : Int32))).bind fun x256 =>
        (cl w 10 v1 (f_X10_cheapest fu w v1 x256)).bind fun q257 =>
        (scr Ln xs (v3 + (1 : Int32))).bind fun x260 =>
        (cl q257.2 11 v2 (f_X11_cheapest fu q257.2 v2 x260)).bind fun q261 =>
        if q257.1 = q261.1 then
          f_law_1196 fu Ln xs (f_law_18 fu Ln xs n) q261.2 v1 v2 v3
        else
          some 0
      else if (x1 &&& (31 : Int32)) = 23 then
        (scr Ln xs (v3 + (1 : Int32))).bind fun x265 =>
        (cl w 10 v1 (f_X10_merged fu w v1 x265)).bind fun q266 =>
        (scr Ln xs (v3 + (1 : Int32))).bind fun x269 =>
        (cl q266.2 11 v2 (f_X11_merged fu q266.2 v2 x269)).bind fun q270 =>
        if q266.1 = q270 then
          f_law_1196 fu Ln xs (f_law_18 fu Ln xs n) q266.2 v1 v2 v3
        else
          some 0
      else if (x1 &&& (31 : Int32)) = 24 then
        (scr Ln xs (v3 + (1 : Int32))).bind fun x274 =>
        (scr Ln xs (v3 + (2 : Int32))).bind fun x275 =>
        (scr Ln xs (v3 + (3 : Int32))).bind fun x276 =>
        if x276 = 0 then
          f_law_1046 fu Ln xs (f_law_18 fu Ln xs n) w v1 v2 v3 v1 x274 x275 (0 : Int32)
        else
          f_law_1046 fu Ln xs (f_law_18 fu Ln xs n) w v1 v2 v3 v1 x274 x275 (1 : Int32)
      else if (x1 &&& (31 : Int32)) = 25 then
        (scr Ln xs (v3 + (1 : Int32))).bind fun x287 =>
        (cl w 10 v1 (f_X10_halves w v1 x287)).bind fun q288 =>
        (scr Ln xs (v3 + (1 : Int32))).bind fun x291 =>
        (cl w 11 v2 (f_X11_halves w v2 x291)).bind fun q292 =>
        if q288 = q292 then
          f_law_1196 fu Ln xs (f_law_18 fu Ln xs n) w v1 v2 v3
        else
          some 0
      else if (x1 &&& (31 : Int32)) = 26 then
        (scr Ln xs (v3 + (1 : Int32))).bind fun x296 =>
        (cl w 10 v1 (f_X10_tell fu w v1 x296)).bind fun q297 =>
        (scr Ln xs (v3 + (1 : Int32))).bind fun x300 =>
        (cl q297.2 11 v2 (f_X11_tell fu q297.2 v2 x300)).bind fun q301 =>
        if q297.1 = q301.1 then
          f_law_1196 fu Ln xs (f_law_18 fu Ln xs n) q301.2 v1 v2 v3
        else
          some 0
      else if (x1 &&& (31 : Int32)) = 27 then
        (scr Ln xs (v3 + (1 : Int32))).bind fun x305 =>
        (cl w 10 v1 (f_X10_octet w v1 x305)).bind fun q306 =>
        (scr Ln xs (v3 + (1 : Int32))).bind fun x309 =>
        (cl w 11 v2 (f_X11_octet w v2 x309)).bind fun q310 =>
        if q306 = q310 then
          f_law_1196 fu Ln xs (f_law_18 fu Ln xs n) w v1 v2 v3
        else
          some 0
      else if (x1 &&& (31 : Int32)) = 28 then
        (scr Ln xs (v3 + (1 : Int32))).bind fun x314 =>
        (cl w 10 v1 (f_X10_image fu w v1 x314)).bind fun q315 =>
        (scr Ln xs (v3 + (1 : Int32))).bind fun x318 =>
        (cl q315.2 11 v2 (f_X11_image fu q315.2 v2 x318)).bind fun q319 =>
        if q315.1 = q319.1 then
          f_law_1196 fu Ln xs (f_law_18 fu Ln xs n) q319.2 v1 v2 v3
        else
          some 0
      else if (x1 &&& (31 : Int32)) = 29 then
        (scr Ln xs (v3 + (1 : Int32))).bind fun x323 =>
        (cl w 10 v1 (f_X10_again fu w v1 x323)).bind fun q324 =>
        (scr Ln xs (v3 + (1 : Int32))).bind fun x327 =>
        (cl q324.2 11 v2 (f_X11_again fu q324.2 v2 x327)).bind fun q328 =>
        if q324.1 = q328.1 then
          f_law_1196 fu Ln xs (f_law_18 fu Ln xs n) q328.2 v1 v2 v3
        else
          some 0
      else 
        f_law_1196 fu Ln xs (f_law_18 fu Ln xs n) w v1 v2 v3
noncomputable def f_law (fu Ln : Nat) (xs : Nat → Int32) : Option Int32 :=
  (nwC 0 ([] : MW) [.ref 40000] (.inr (10, [.null, .null, .null, .null, .null, .null, .null, .int 0, .int 0]))).bind fun w1 =>
  (clA 0 w1 10 0 [.ref 40000, .ref 0] (f_X10_init w1 0)).bind fun w2 =>
  (nwC 0 w2 [.ref 0, .ref 40000] (.inr (11, [.null, .null, .null, .null, .int 0, .int 0, .int 0, .int 0, .int 0, .int 0, .null, .int 0, .int 0, .int 0, .int 0, .int 0, .int 0, .int 0, .int 0, .int 0, .int 0, .null, .int 0, .int 0, .int 0, .int 0, .long 0]))).bind fun w3 =>
  bnd w2.length fun m0 =>
  (clA 0 w3 11 m0 [.ref 0, .ref 40000, .ref m0] (f_X11_init fu w3 m0)).bind fun w4 =>
  bnd (0 : Int32) fun x3 =>
  f_law_18 fu Ln xs fu w4 0 m0 x3
