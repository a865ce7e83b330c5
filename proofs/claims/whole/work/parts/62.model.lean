/-! the model's seven cells behind 123 others -/
def mF (F : Nat → Int32) (v : Int64) : List Value := [.ref 124, .ref 125, .ref 126, .ref 127, .int (F 4), .int (F 5), .int (F 6), .int (F 7), .int (F 8), .int (F 9), .ref 128, .int (F 11), .int (F 12), .int (F 13), .int (F 14), .int (F 15), .int (F 16), .int (F 17), .int (F 18), .int (F 19), .int (F 20), .ref 129, .int (F 22), .int (F 23), .int (F 24), .int (F 25), .long v]
def mC (F : Nat → Int32) (v : Int64) (ar : Nat → Nat → Int32) : MW := [.inr (11, mF F v), .inl (.int, 20204, .inl (ar 0)), .inl (.int, 800, .inl (ar 1)), .inl (.int, 400, .inl (ar 2)), .inl (.boolean, 3, .inl (ar 3)), .inl (.int, 64, .inl (ar 4)), .inl (.int, 8, .inl (ar 5))]
def mW (C : MW) (F : Nat → Int32) (v : Int64) (ar : Nat → Nat → Int32) : MW := C ++ mC F v ar
theorem mW_get {C : MW} (hC : C.length = 123) (F : Nat → Int32) (v : Int64) (ar : Nat → Nat → Int32) (i : Nat) : (mW C F v ar)[123 + i]? = (mC F v ar)[i]? := by
  unfold mW
  rw [List.getElem?_append_right (by omega), show 123 + i - C.length = i by omega]
theorem mW_low {C : MW} (hC : C.length = 123) (F : Nat → Int32) (v : Int64) (ar : Nat → Nat → Int32) {k : Nat} (hk : k < 123) : (mW C F v ar)[k]? = C[k]? := by
  unfold mW
  rw [List.getElem?_append_left (by omega)]
theorem mW_set {C : MW} (hC : C.length = 123) (F : Nat → Int32) (v : Int64) (ar : Nat → Nat → Int32) (i : Nat) (x : MC) : (mW C F v ar).set (123 + i) x = C ++ (mC F v ar).set i x := by
  unfold mW
  rw [List.set_append_right _ _ (by omega), show 123 + i - C.length = i by omega]
def ua (ar : Nat → Nat → Int32) (i : Nat) (g : Nat → Int32) : Nat → Nat → Int32 := fun k => if k = i then g else ar k
theorem m_cl {C : MW} (hC : C.length = 123) (F : Nat → Int32) (v : Int64) (ar : Nat → Nat → Int32) {α : Type} (x : Option α) : cl (mW C F v ar) 11 123 x = x := cl_ob (mW_get hC F v ar 0) x
theorem m_gI {C : MW} (hC : C.length = 123) (F : Nat → Int32) (v : Int64) (ar : Nat → Nat → Int32) (k : Nat) {y : Int32} (hk : (mF F v)[k]? = some (.int y)) : gI (mW C F v ar) 11 123 k = some y := gI_ob (mW_get hC F v ar 0) hk
theorem m_gJ {C : MW} (hC : C.length = 123) (F : Nat → Int32) (v : Int64) (ar : Nat → Nat → Int32) : gJ (mW C F v ar) 11 123 26 = some v := gJ_ob (mW_get hC F v ar 0) rfl
theorem m_gR {C : MW} (hC : C.length = 123) (F : Nat → Int32) (v : Int64) (ar : Nat → Nat → Int32) (k : Nat) {y : Nat} (hk : (mF F v)[k]? = some (.ref y)) : gR (mW C F v ar) 11 123 k = some y := gR_ob (mW_get hC F v ar 0) hk
theorem m_p {C : MW} (hC : C.length = 123) (F : Nat → Int32) (v : Int64) (ar : Nat → Nat → Int32) (k : Nat) {x : Value} {F' : Nat → Int32} {v' : Int64} (hl : k < 27) (hk : (mF F v).set k x = mF F' v') : pV (mW C F v ar) 11 123 k x = some (mW C F' v' ar) := by
  rw [pV_ob (mW_get hC F v ar 0) (by show k < 27; exact hl), mW_set hC F v ar 0, hk]
  rfl
theorem m_a0 {C : MW} (hC : C.length = 123) (F : Nat → Int32) (v : Int64) (ar : Nat → Nat → Int32) {j : Nat} (hj : j < 20204) : aI (mW C F v ar) .int 124 (nI j) = some (ar 0 j) := aI_ar (mW_get hC F v ar 1) hj (by decide)
theorem m_a1 {C : MW} (hC : C.length = 123) (F : Nat → Int32) (v : Int64) (ar : Nat → Nat → Int32) {j : Nat} (hj : j < 800) : aI (mW C F v ar) .int 125 (nI j) = some (ar 1 j) := aI_ar (mW_get hC F v ar 2) hj (by decide)
theorem m_a2 {C : MW} (hC : C.length = 123) (F : Nat → Int32) (v : Int64) (ar : Nat → Nat → Int32) {j : Nat} (hj : j < 400) : aI (mW C F v ar) .int 126 (nI j) = some (ar 2 j) := aI_ar (mW_get hC F v ar 3) hj (by decide)
theorem m_a3 {C : MW} (hC : C.length = 123) (F : Nat → Int32) (v : Int64) (ar : Nat → Nat → Int32) {j : Nat} (hj : j < 3) : aI (mW C F v ar) .boolean 127 (nI j) = some (ar 3 j) := aI_ar (mW_get hC F v ar 4) hj (by decide)
theorem m_a4 {C : MW} (hC : C.length = 123) (F : Nat → Int32) (v : Int64) (ar : Nat → Nat → Int32) {j : Nat} (hj : j < 64) : aI (mW C F v ar) .int 128 (nI j) = some (ar 4 j) := aI_ar (mW_get hC F v ar 5) hj (by decide)
theorem m_a5 {C : MW} (hC : C.length = 123) (F : Nat → Int32) (v : Int64) (ar : Nat → Nat → Int32) {j : Nat} (hj : j < 8) : aI (mW C F v ar) .int 129 (nI j) = some (ar 5 j) := aI_ar (mW_get hC F v ar 6) hj (by decide)
theorem m_s0 {C : MW} (hC : C.length = 123) (F : Nat → Int32) (v : Int64) (ar : Nat → Nat → Int32) {j : Nat} (x : Int32) (hj : j < 20204) : sI (mW C F v ar) .int 124 (nI j) x = some (mW C F v (ua ar 0 (upd (ar 0) j x))) := by
  rw [sI_ar (mW_get hC F v ar 1) hj (by decide), mW_set hC F v ar 1]; rfl
theorem m_s1 {C : MW} (hC : C.length = 123) (F : Nat → Int32) (v : Int64) (ar : Nat → Nat → Int32) {j : Nat} (x : Int32) (hj : j < 800) : sI (mW C F v ar) .int 125 (nI j) x = some (mW C F v (ua ar 1 (upd (ar 1) j x))) := by
  rw [sI_ar (mW_get hC F v ar 2) hj (by decide), mW_set hC F v ar 2]; rfl
theorem m_s2 {C : MW} (hC : C.length = 123) (F : Nat → Int32) (v : Int64) (ar : Nat → Nat → Int32) {j : Nat} (x : Int32) (hj : j < 400) : sI (mW C F v ar) .int 126 (nI j) x = some (mW C F v (ua ar 2 (upd (ar 2) j x))) := by
  rw [sI_ar (mW_get hC F v ar 3) hj (by decide), mW_set hC F v ar 3]; rfl
theorem m_s3 {C : MW} (hC : C.length = 123) (F : Nat → Int32) (v : Int64) (ar : Nat → Nat → Int32) {j : Nat} (x : Int32) (hj : j < 3) : sI (mW C F v ar) .boolean 127 (nI j) x = some (mW C F v (ua ar 3 (upd (ar 3) j x))) := by
  rw [sI_ar (mW_get hC F v ar 4) hj (by decide), mW_set hC F v ar 4]; rfl
theorem m_s4 {C : MW} (hC : C.length = 123) (F : Nat → Int32) (v : Int64) (ar : Nat → Nat → Int32) {j : Nat} (x : Int32) (hj : j < 64) : sI (mW C F v ar) .int 128 (nI j) x = some (mW C F v (ua ar 4 (upd (ar 4) j x))) := by
  rw [sI_ar (mW_get hC F v ar 5) hj (by decide), mW_set hC F v ar 5]; rfl
theorem m_s5 {C : MW} (hC : C.length = 123) (F : Nat → Int32) (v : Int64) (ar : Nat → Nat → Int32) {j : Nat} (x : Int32) (hj : j < 8) : sI (mW C F v ar) .int 129 (nI j) x = some (mW C F v (ua ar 5 (upd (ar 5) j x))) := by
  rw [sI_ar (mW_get hC F v ar 6) hj (by decide), mW_set hC F v ar 6]; rfl
theorem ua_eq (ar : Nat → Nat → Int32) (i : Nat) (g : Nat → Int32) : ua ar i g i = g := by simp [ua]
theorem ua_ne (ar : Nat → Nat → Int32) {i k : Nat} (g : Nat → Int32) (h : k ≠ i) : ua ar i g k = ar k := by simp [ua, h]
theorem ua_ua (ar : Nat → Nat → Int32) (i : Nat) (g g' : Nat → Int32) : ua (ua ar i g) i g' = ua ar i g' := by
  funext k; unfold ua; by_cases h : k = i <;> simp [h]
theorem ua_self (ar : Nat → Nat → Int32) (i : Nat) : ua ar i (ar i) = ar := by
  funext k; unfold ua; by_cases h : k = i <;> simp [h]
/-- a set of the model at o -/
def MA (al : Nat → Int32) (o : Nat) (L : List Nat) (fg : Int32) : Prop := al o = nI L.length ∧ al (o + 1) = fg ∧ ∀ j, j < L.length → al (o + 2 + j) = nI (nth L j / 2) ∧ al (o + 62 + j) = nI (nth L j % 2)
theorem mo (b s : Nat) : nI b + 122 * nI s = nI (b + 122 * s) := by
  rw [show (122 : Int32) = nI 122 from rfl, nI_mul, nI_add]
theorem many_at {C : MW} (hC : C.length = 123) {F : Nat → Int32} {v : Int64} {ar : Nat → Nat → Int32} {b s : Nat} (hb : F 9 = nI b) (hb2 : b ≤ 976) (hs : s < 8) : f_X11_many (mW C F v ar) 123 (nI s) = some (ar 0 (b + 122 * s)) := by
  rw [f_X11_many, m_gR hC F v ar 0 rfl, some_bind', m_gI hC F v ar 9 rfl, some_bind', hb, mo, m_a0 hC F v ar (by omega), some_bind']
theorem many_ok {C : MW} (hC : C.length = 123) {F : Nat → Int32} {v : Int64} {ar : Nat → Nat → Int32} {b s : Nat} (hb : F 9 = nI b) (hb2 : b ≤ 976) (hs : s < 8) {L : List Nat} {fg : Int32} (M : MA (ar 0) (b + 122 * s) L fg) : f_X11_many (mW C F v ar) 123 (nI s) = some (nI L.length) := by
  rw [many_at hC hb hb2 hs, M.1]
theorem mkeyAt_at {C : MW} (hC : C.length = 123) {F : Nat → Int32} {v : Int64} {ar : Nat → Nat → Int32} {b s : Nat} (hb : F 9 = nI b) (hb2 : b ≤ 976) (hs : s < 8) {j : Nat} (hj : j < 60) : f_X11_keyAt (mW C F v ar) 123 (nI s) (nI j) = some (ar 0 (b + 122 * s + 2 + j)) := by
  rw [f_X11_keyAt, m_gR hC F v ar 0 rfl, some_bind', m_gI hC F v ar 9 rfl, some_bind', hb, mo, show (2 : Int32) = nI 2 from rfl, nI_add, nI_add, m_a0 hC F v ar (by omega), some_bind']
theorem mkeyAt_ok {C : MW} (hC : C.length = 123) {F : Nat → Int32} {v : Int64} {ar : Nat → Nat → Int32} {b s : Nat} (hb : F 9 = nI b) (hb2 : b ≤ 976) (hs : s < 8) {L : List Nat} {fg : Int32} (M : MA (ar 0) (b + 122 * s) L fg) (S : SOK L) {j : Nat} (hj : j < L.length) : f_X11_keyAt (mW C F v ar) 123 (nI s) (nI j) = some (nI (nth L j / 2)) := by
  rw [mkeyAt_at hC hb hb2 hs (by have := S.len; omega), (M.2.2 j hj).1]
theorem mmarkAt_ok {C : MW} (hC : C.length = 123) {F : Nat → Int32} {v : Int64} {ar : Nat → Nat → Int32} {b s : Nat} (hb : F 9 = nI b) (hb2 : b ≤ 976) (hs : s < 8) {L : List Nat} {fg : Int32} (M : MA (ar 0) (b + 122 * s) L fg) (S : SOK L) {j : Nat} (hj : j < L.length) : f_X11_markAt (mW C F v ar) 123 (nI s) (nI j) = some (nI (nth L j % 2)) := by
  have hl := S.len
  rw [f_X11_markAt, m_gR hC F v ar 0 rfl, some_bind', m_gI hC F v ar 9 rfl, some_bind', hb, mo, show (62 : Int32) = nI 62 from rfl, nI_add, nI_add, m_a0 hC F v ar (by omega), some_bind', (M.2.2 j hj).2]
theorem mfinger_ok {C : MW} (hC : C.length = 123) {F : Nat → Int32} {v : Int64} {ar : Nat → Nat → Int32} {b s : Nat} (hb : F 9 = nI b) (hb2 : b ≤ 976) (hs : s < 8) {L : List Nat} {fg : Int32} (M : MA (ar 0) (b + 122 * s) L fg) : f_X11_finger (mW C F v ar) 123 (nI s) = some fg := by
  rw [f_X11_finger, m_gR hC F v ar 0 rfl, some_bind', m_gI hC F v ar 9 rfl, some_bind', hb, mo, show (1 : Int32) = nI 1 from rfl, nI_add, m_a0 hC F v ar (by omega), some_bind', M.2.1]
theorem mpoints_ok {C : MW} (hC : C.length = 123) {F : Nat → Int32} {v : Int64} {ar : Nat → Nat → Int32} {b s : Nat} (hb : F 9 = nI b) (hb2 : b ≤ 976) (hs : s < 8) (x : Int32) : f_X11_points (mW C F v ar) 123 (nI s) x = some (mW C F v (ua ar 0 (upd (ar 0) (b + 122 * s + 1) x))) := by
  rw [f_X11_points, m_gR hC F v ar 0 rfl, some_bind', m_gI hC F v ar 9 rfl, some_bind', hb, mo, show (1 : Int32) = nI 1 from rfl, nI_add, m_s0 hC F v ar _ (by omega), some_bind']
theorem mbelow_loop {C : MW} (hC : C.length = 123) {F : Nat → Int32} {v : Int64} {ar : Nat → Nat → Int32} {b s : Nat} (hb : F 9 = nI b) (hb2 : b ≤ 976) (hs : s < 8) {L : List Nat} {fg : Int32} (M : MA (ar 0) (b + 122 * s) L fg) (S : SOK L) (fu : Nat) (x : Int32) : ∀ n i, i ≤ L.length → L.length - i < n → f_X11_below_2 fu (mW C F v ar) n 123 (nI s) x (nI i) = some (nI (i + ((L.drop i).takeWhile (fun e => decide (nI (e / 2) < x))).length)) := by
  have hl := S.len
  intro n
  induction n with
  | zero => intro i _ hn; omega
  | succ n ih =>
    intro i hi hn
    rw [f_X11_below_2, m_cl hC, many_ok hC hb hb2 hs M, some_bind']
    by_cases hlt : i = L.length
    · rw [if_pos (nI_le (by omega) (by omega))]
      subst hlt
      simp
    · have hi' : i < L.length := by omega
      rw [if_neg (nI_ge hi' (by omega)), m_cl hC, mkeyAt_ok hC hb hb2 hs M S hi', some_bind', drop_cons hi', List.takeWhile_cons]
      by_cases hx : nI (nth L i / 2) < x
      · rw [if_neg (Int32.not_le.mpr hx), bnd_eq, nI_1, ih (i + 1) (by omega) (by omega), if_pos (decide_eq_true hx), List.length_cons]
        congr 2
        omega
      · rw [if_pos (Int32.not_lt.mp hx), if_neg (by simp [hx])]
        rfl
theorem mbelow_ok {C : MW} (hC : C.length = 123) {F : Nat → Int32} {v : Int64} {ar : Nat → Nat → Int32} {b s : Nat} (hb : F 9 = nI b) (hb2 : b ≤ 976) (hs : s < 8) {L : List Nat} {fg : Int32} (M : MA (ar 0) (b + 122 * s) L fg) (S : SOK L) {fu : Nat} (hfu : 100 ≤ fu) (x : Int32) : f_X11_below fu (mW C F v ar) 123 (nI s) x = some (nI (bel L x)) := by
  rw [f_X11_below, bnd_eq, show (0 : Int32) = nI 0 from rfl, mbelow_loop hC hb hb2 hs M S fu x fu 0 (by omega) (by have := S.len; omega)]
  simp [bel]
theorem mplace_ok {C : MW} (hC : C.length = 123) {F : Nat → Int32} {v : Int64} {ar : Nat → Nat → Int32} {b s : Nat} (hb : F 9 = nI b) (hb2 : b ≤ 976) (hs : s < 8) {L : List Nat} {fg : Int32} (M : MA (ar 0) (b + 122 * s) L fg) (S : SOK L) {fu : Nat} (hfu : 100 ≤ fu) (x : Int32) : f_X11_placeOf fu (mW C F v ar) 123 (nI s) x = some (plc L x) := by
  have h1 := bel_le L x
  have hl := S.len
  rw [f_X11_placeOf, m_cl hC, mbelow_ok hC hb hb2 hs M S hfu, some_bind', bnd_eq, m_cl hC, many_ok hC hb hb2 hs M, some_bind']
  unfold plc
  by_cases hc : bel L x < L.length
  · rw [if_neg (nI_ge hc (by omega)), m_cl hC, mkeyAt_ok hC hb hb2 hs M S hc, some_bind']
    by_cases h4 : nI (nth L (bel L x) / 2) = x
    · rw [if_pos h4, if_pos ⟨hc, h4⟩]
    · rw [if_neg h4, if_neg (fun q => h4 q.2)]
  · rw [if_pos (nI_le (by omega) (by omega)), if_neg (fun q => hc q.1)]
/-- keys and marks behind a place go up by one -/
def shU (al : Nat → Int32) (o a k : Nat) : Nat → Int32 := fun q => if o + 2 + a < q ∧ q ≤ o + 2 + k then al (q - 1) else if o + 62 + a < q ∧ q ≤ o + 62 + k then al (q - 1) else al q
/-- they go down by one -/
def shD (al : Nat → Int32) (o a n : Nat) : Nat → Int32 := fun q => if o + 2 + a ≤ q ∧ q + 1 < o + 2 + n then al (q + 1) else if o + 62 + a ≤ q ∧ q + 1 < o + 62 + n then al (q + 1) else al q
theorem shU_step (al : Nat → Int32) (o a k : Nat) (ha : a < k) (hk : k < 60) : shU (upd (upd al (o + 2 + k) (al (o + 2 + k - 1))) (o + 62 + k) (upd al (o + 2 + k) (al (o + 2 + k - 1)) (o + 62 + k - 1))) o a (k - 1) = shU al o a k := by
  funext q
  unfold shU upd
  repeat' split
  all_goals first | rfl | omega | (congr 1; omega)
theorem shD_step (al : Nat → Int32) (o a n : Nat) (ha : a + 1 < n) (hn : n ≤ 60) : shD (upd (upd al (o + 2 + a) (al (o + 2 + a + 1))) (o + 62 + a) (upd al (o + 2 + a) (al (o + 2 + a + 1)) (o + 62 + a + 1))) o (a + 1) n = shD al o a n := by
  funext q
  unfold shD upd
  repeat' split
  all_goals first | rfl | omega | (congr 1; omega)
