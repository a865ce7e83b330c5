/-- what a step may change -/
def Chg (ks : List Nat) (w w' : MW) : Prop := w'.length = w.length ∧ ∀ k, k ∉ ks → w'[k]? = w[k]?
theorem Chg.rf (ks : List Nat) (w : MW) : Chg ks w w := ⟨rfl, fun _ _ => rfl⟩
theorem Chg.tr {ks : List Nat} {w w1 w2 : MW} (h1 : Chg ks w w1) (h2 : Chg ks w1 w2) : Chg ks w w2 := ⟨h2.1.trans h1.1, fun k hk => (h2.2 k hk).trans (h1.2 k hk)⟩
theorem Chg.mono {ks ks' : List Nat} {w w' : MW} (h : Chg ks w w') (hs : ∀ k ∈ ks, k ∈ ks') : Chg ks' w w' := ⟨h.1, fun k hk => h.2 k (fun q => hk (hs k q))⟩
theorem Chg.st {ks : List Nat} (w : MW) {a : Nat} (x : MC) (ha : a ∈ ks) : Chg ks w (w.set a x) := ⟨List.length_set, fun k hk => get_set_ne (fun e => hk (e ▸ ha))⟩
theorem Chg.at {ks : List Nat} {w w' : MW} (h : Chg ks w w') {k : Nat} (hk : k ∉ ks) {x : MC} (hx : w[k]? = some x) : w'[k]? = some x := (h.2 k hk).trans hx
theorem HA.chg {ks : List Nat} {w w' : MW} {h e : Nat} {L : List Nat} {fg : Int32} (H : HA w h e L fg) (C : Chg ks w w') (h1 : h ∉ ks) (h2 : e ∉ ks) : HA w' h e L fg := by
  obtain ⟨a, b, xs, c, d⟩ := H
  exact ⟨a, C.at h1 b, xs, C.at h2 c, d⟩
theorem nth_mem {L : List Nat} {j : Nat} (h : j < L.length) : nth L j ∈ L := by
  unfold nth
  rw [List.getD_eq_getElem?_getD, List.getElem?_eq_getElem h]
  exact List.getElem_mem h
theorem nth_get {L : List Nat} {j : Nat} (h : j < L.length) : nth L j = L[j] := by
  unfold nth
  rw [List.getD_eq_getElem?_getD, List.getElem?_eq_getElem h]; rfl
theorem SOK.inc {L : List Nat} (S : SOK L) {i j : Nat} (hij : i < j) (hj : j < L.length) : nth L i / 2 < nth L j / 2 := by
  rw [nth_get hj, nth_get (by omega : i < L.length)]
  exact List.pairwise_iff_getElem.mp S.1 i j _ _ hij
theorem keyAt_in {w : MW} {h e : Nat} {L : List Nat} {fg : Int32} (H : HA w h e L fg) (S : SOK L) {j : Nat} (hj : j < L.length) : f_X0_keyAt w h (nI j) = some (nI (nth L j / 2)) := by
  obtain ⟨hne, h1, xs, h2, h3⟩ := H
  have hl := S.len
  have he := S.lt hj
  rw [f_X0_keyAt, if_neg (nI_pos (by omega)), gI_ob h1 rfl, some_bind', if_neg (nI_ge hj (by omega)), gR_ob h1 rfl, some_bind', aI_ar h2 (by omega) (by omega), some_bind', h3 j hj, nI_half (by omega)]
theorem keyAt_out {w : MW} {h e : Nat} {L : List Nat} {fg : Int32} (H : HA w h e L fg) {j : Nat} (hj : L.length ≤ j) (hj2 : j < 2 ^ 31) : f_X0_keyAt w h (nI j) = some (-1) := by
  obtain ⟨hne, h1, xs, h2, h3⟩ := H
  rw [f_X0_keyAt, if_neg (nI_pos (by omega)), gI_ob h1 rfl, some_bind', if_pos (nI_le hj (by omega))]
theorem keyAt_m1 {w : MW} {h : Nat} : f_X0_keyAt w h (-1) = some (-1) := by
  rw [f_X0_keyAt, if_pos (by decide)]
theorem keyAt_neg {w : MW} {h : Nat} {x : Int32} (hx : x < 0) : f_X0_keyAt w h x = some (-1) := by
  rw [f_X0_keyAt, if_pos hx]
theorem markAt_in {w : MW} {h e : Nat} {L : List Nat} {fg : Int32} (H : HA w h e L fg) (S : SOK L) {j : Nat} (hj : j < L.length) : f_X0_markAt w h (nI j) = some (nI (nth L j % 2)) := by
  obtain ⟨hne, h1, xs, h2, h3⟩ := H
  have hl := S.len
  have he := S.lt hj
  rw [f_X0_markAt, if_neg (nI_pos (by omega)), gI_ob h1 rfl, some_bind', if_neg (nI_ge hj (by omega)), gR_ob h1 rfl, some_bind', aI_ar h2 (by omega) (by omega), some_bind', h3 j hj, nI_odd (by omega)]
theorem notAbove_loop {w : MW} {h e : Nat} {L : List Nat} {fg : Int32} (H : HA w h e L fg) (S : SOK L) (fu : Nat) (x : Int32) : ∀ n i, i ≤ L.length → L.length - i < n → f_X0_notAbove_2 fu w n h x (nI i) = some (nI (i + ((L.drop i).takeWhile (fun e => decide (nI (e / 2) ≤ x))).length)) := by
  obtain ⟨hne, h1, xs, h2, h3⟩ := H
  have hl := S.len
  intro n
  induction n with
  | zero => intro i _ hn; omega
  | succ n ih =>
    intro i hi hn
    rw [f_X0_notAbove_2, gI_ob h1 rfl, some_bind']
    by_cases hlt : i = L.length
    · rw [if_pos (nI_le (by omega) (by omega))]
      subst hlt
      simp
    · have hi' : i < L.length := by omega
      rw [if_neg (nI_ge hi' (by omega)), gR_ob h1 rfl, some_bind', aI_ar h2 (by omega) (by omega), some_bind', h3 i hi']
      have he := S.lt hi'
      rw [nI_half (by omega), drop_cons hi', List.takeWhile_cons]
      by_cases hx : nI (nth L i / 2) ≤ x
      · rw [if_neg (Int32.not_lt.mpr hx)]
        rw [bnd_eq, nI_1, ih (i + 1) (by omega) (by omega), if_pos (decide_eq_true hx), List.length_cons]
        congr 2
        omega
      · rw [if_pos (Int32.not_le.mp hx), if_neg (by simp [hx])]
        rfl
theorem notAbove_ok {w : MW} {h e : Nat} {L : List Nat} {fg : Int32} (H : HA w h e L fg) (S : SOK L) {fu : Nat} (hfu : 100 ≤ fu) (x : Int32) : f_X0_notAbove fu w h x = some (nI (nab L x)) := by
  rw [f_X0_notAbove, bnd_eq]
  have := notAbove_loop H S fu x fu 0 (by omega) (by have := S.len; omega)
  rw [show (0 : Int32) = nI 0 from rfl, this]
  simp [nab]
theorem bel_le (L : List Nat) (x : Int32) : bel L x ≤ L.length := List.Sublist.length_le (List.takeWhile_sublist _)
theorem nab_le (L : List Nat) (x : Int32) : nab L x ≤ L.length := List.Sublist.length_le (List.takeWhile_sublist _)
theorem HA.cl {α : Type} {w : MW} {h e : Nat} {L : List Nat} {fg : Int32} (H : HA w h e L fg) (x : Option α) : cl w 0 h x = x := cl_ob H.2.1 x
theorem rankOf_ok {w : MW} {h e : Nat} {L : List Nat} {fg : Int32} (H : HA w h e L fg) (S : SOK L) {fu : Nat} (hfu : 100 ≤ fu) (x : Int32) : f_X0_rankOf fu w h x = some (plc L x) := by
  have hb := bel_le L x
  have hl := S.len
  rw [f_X0_rankOf, H.cl, below_ok H S hfu, some_bind', bnd_eq]
  obtain ⟨hne, h1, xs, h2, h3⟩ := H
  rw [gI_ob h1 rfl, some_bind']
  unfold plc
  by_cases hc : bel L x < L.length
  · have he := S.lt hc
    rw [if_neg (nI_ge hc (by omega)), gR_ob h1 rfl, some_bind', aI_ar h2 (by omega) (by omega), some_bind', h3 _ hc, nI_half (by omega)]
    by_cases h4 : nI (nth L (bel L x) / 2) = x
    · rw [if_pos h4, if_pos ⟨hc, h4⟩]
    · rw [if_neg h4, if_neg (fun q => h4 q.2)]
  · rw [if_pos (nI_le (by omega) (by omega)), if_neg (fun q => hc q.1)]
theorem imax0 {a b : Nat} (ha : a < 2 ^ 30) (hb : b < 2 ^ 30) : imax 0 (nI a - nI b) = nI (a - b) := by
  unfold imax
  by_cases h : b ≤ a
  · rw [nI_sub h]
    by_cases h2 : a - b = 0
    · rw [h2]; decide
    · rw [if_pos]
      exact nI_lt (a := 0) (by omega) (by omega)
  · have e : nI a - nI b = -nI (b - a) := by
      rw [← nI_sub (by omega : a ≤ b), Int32.neg_sub]
    have h3 : ¬ (0 : Int32) < nI a - nI b := by
      rw [e]
      intro q
      have q1 := Int32.lt_iff_toInt_lt.mp q
      have q2 : (-nI (b - a)).toInt = -((b - a : Nat) : Int) := by
        rw [Int32.toInt_neg, nI_toInt (by omega)]
        apply Int.bmod_eq_of_le <;> omega
      rw [q2, Int32.toInt_zero] at q1
      omega
    rw [if_neg h3, show a - b = 0 by omega]; rfl
/-- how many keys from a number to another one -/
def hmb (L : List Nat) (a b : Int32) : Nat := nab L b - bel L a
theorem howMany_ok {w : MW} {h e : Nat} {L : List Nat} {fg : Int32} (H : HA w h e L fg) (S : SOK L) {fu : Nat} (hfu : 100 ≤ fu) (a b : Int32) : f_X0_howManyBetween fu w h a b = some (nI (hmb L a b)) := by
  have h1 := bel_le L a
  have h2 := nab_le L b
  have hl := S.len
  rw [f_X0_howManyBetween, H.cl, notAbove_ok H S hfu, some_bind', H.cl, below_ok H S hfu, some_bind', imax0 (by omega) (by omega)]
  rfl
/-- the sum of f over i .. e-1 -/
def smF (f : Nat → Nat) (i e : Nat) : Nat := ((List.range' i (e - i)).map f).sum
theorem smF_end (f : Nat → Nat) {i e : Nat} (h : e ≤ i) : smF f i e = 0 := by
  unfold smF; rw [show e - i = 0 by omega]; rfl
theorem smF_cons (f : Nat → Nat) {i e : Nat} (h : i < e) : smF f i e = f i + smF f (i + 1) e := by
  unfold smF
  rw [show e - i = (e - (i + 1)) + 1 by omega, List.range'_succ, List.map_cons, List.sum_cons]
/-- how many marked keys from a number to another one -/
def mkb (L : List Nat) (a b : Int32) : Nat := smF (fun j => nth L j % 2) (bel L a) (nab L b)
theorem marked_loop {w : MW} {h e : Nat} {L : List Nat} {fg : Int32} (H : HA w h e L fg) (S : SOK L) (fu E : Nat) (hE : E ≤ L.length) : ∀ n i acc, i ≤ 60 → E - i < n → f_X0_markedBetween_16 fu w n h (nI E) (nI acc) (nI i) = some (nI (acc + smF (fun j => nth L j % 2) i E)) := by
  have hl := S.len
  intro n
  induction n with
  | zero => intro i acc _ hn; omega
  | succ n ih =>
    intro i acc hi hn
    rw [f_X0_markedBetween_16]
    by_cases hlt : E ≤ i
    · rw [if_pos (nI_le hlt (by omega)), smF_end _ hlt]; rfl
    · have hi' : i < L.length := by omega
      rw [if_neg (nI_ge (by omega) (by omega)), H.cl, markAt_in H S hi', some_bind', bnd_eq, bnd_eq, nI_add, nI_1, ih (i + 1) _ (by omega) (by omega), smF_cons _ (by omega : i < E)]
      congr 2
      omega
theorem marked_ok {w : MW} {h e : Nat} {L : List Nat} {fg : Int32} (H : HA w h e L fg) (S : SOK L) {fu : Nat} (hfu : 100 ≤ fu) (a b : Int32) : f_X0_markedBetween fu w h a b = some (nI (mkb L a b)) := by
  have h1 := bel_le L a
  have h2 := nab_le L b
  have hl := S.len
  rw [f_X0_markedBetween, H.cl, notAbove_ok H S hfu, some_bind', bnd_eq, bnd_eq, H.cl, below_ok H S hfu, some_bind', bnd_eq, show (0 : Int32) = nI 0 from rfl, marked_loop H S fu _ h2 fu _ 0 (by omega) (by omega), Nat.zero_add]
  rfl
theorem empty_ok {w : MW} {h e : Nat} {L : List Nat} {fg : Int32} (H : HA w h e L fg) : ∃ w', f_X0_empty w h = some w' ∧ HA w' h e [] (-1) ∧ Chg [h] w w' := by
  obtain ⟨hne, h1, xs, h2, h3⟩ := H
  refine ⟨(w.set h (.inr (0, [.ref e, .int 0, .int fg]))).set h (.inr (0, [.ref e, .int 0, .int (-1)])), ?_, ⟨hne, ?_, xs, ?_, ?_⟩, ?_⟩
  · rw [f_X0_empty, pV_ob h1 (by simp), some_bind', pV_ob (get_set_eq h1) (by simp), some_bind']; rfl
  · rw [get_set_eq (get_set_eq h1)]; rfl
  · rw [get_set_ne hne, get_set_ne hne]; exact h2
  · intro j hj; simp at hj
  · exact (Chg.st _ _ (by simp)).tr (Chg.st _ _ (by simp))
theorem cpI_ar {w : MW} {a0 a1 n0 n1 sp dp n : Nat} {f g : Nat → Int32} (h0 : w[a0]? = some (.inl (.int, n0, .inl f))) (h1 : w[a1]? = some (.inl (.int, n1, .inl g))) (hs : sp + n ≤ n0) (hd : dp + n ≤ n1) (b0 : n0 < 2 ^ 31) (b1 : n1 < 2 ^ 31) : cpI w .int a0 (nI sp) a1 (nI dp) (nI n) = some (w.set a1 (.inl (.int, n1, .inl (va_cpy f g sp dp n)))) := by
  unfold cpI
  rw [h0, h1]
  dsimp only
  rw [nI_clamp (by omega : sp < 2 ^ 31), nI_clamp (by omega : dp < 2 ^ 31), nI_clamp (by omega : n < 2 ^ 31), if_pos]
  exact ⟨rfl, rfl, nI_pos' (by omega), nI_pos' (by omega), nI_pos' (by omega), hs, hd, fun i _ => rfl⟩
theorem openGap_ok {w : MW} {h e : Nat} {L : List Nat} {fg : Int32} (H : HA w h e L fg) {r n : Nat} (hr : r ≤ L.length) (hn : L.length + n ≤ 60) : ∃ w' xs, f_X0_openGap w h (nI r) (nI n) = some (1, w') ∧ w'[h]? = some (.inr (0, [.ref e, .int (nI (L.length + n)), .int (-1)])) ∧ w'[e]? = some (.inl (.int, 60, .inl xs)) ∧ (∀ j, j < r → xs j = nI (nth L j)) ∧ (∀ j, r ≤ j → j < L.length → xs (j + n) = nI (nth L j)) ∧ Chg [h, e] w w' := by
  obtain ⟨hne, h1, xs, h2, h3⟩ := H
  have hhe : (w.set e (.inl (.int, 60, .inl (va_cpy xs xs r (r + n) (L.length - r)))))[h]? = some (.inr (0, [.ref e, .int (nI L.length), .int fg])) := by rw [get_set_ne (Ne.symm hne)]; exact h1
  refine ⟨((w.set e (.inl (.int, 60, .inl (va_cpy xs xs r (r + n) (L.length - r))))).set h (.inr (0, [.ref e, .int (nI (L.length + n)), .int fg]))).set h (.inr (0, [.ref e, .int (nI (L.length + n)), .int (-1)])), va_cpy xs xs r (r + n) (L.length - r), ?_, ?_, ?_, ?_, ?_, ?_⟩
  · rw [f_X0_openGap, if_neg (nI_pos (by omega)), gI_ob h1 rfl, some_bind', if_neg (nI_nlt hr (by omega)), if_neg (nI_pos (by omega)), some_bind', show (60 : Int32) = nI 60 from rfl, nI_sub (by omega), if_pos (nI_le (by omega) (by omega)), gR_ob h1 rfl, some_bind', some_bind', some_bind', nI_sub hr, nI_add, cpI_ar h2 h2 (by omega) (by omega) (by omega) (by omega), some_bind', gI_ob hhe rfl, some_bind', nI_add, pV_ob hhe (by simp), some_bind', pV_ob (get_set_eq hhe) (by simp), some_bind']; rfl
  · rw [get_set_eq (get_set_eq hhe)]
  · rw [get_set_ne hne, get_set_ne hne, get_set_eq h2]
  · intro j hj
    unfold va_cpy
    rw [if_neg (by omega)]
    exact h3 j (by omega)
  · intro j h4 h5
    unfold va_cpy
    rw [if_pos (by omega), show r + (j + n - (r + n)) = j by omega]
    exact h3 j h5
  · exact ((Chg.st _ _ (by simp)).tr (Chg.st _ _ (by simp))).tr (Chg.st _ _ (by simp))
theorem closeGap_ok {w : MW} {h e : Nat} {L : List Nat} {fg : Int32} (H : HA w h e L fg) (hl : L.length ≤ 60) {r n : Nat} (hr : r + n ≤ L.length) : ∃ w', f_X0_closeGap w h (nI r) (nI n) = some w' ∧ HA w' h e (L.take r ++ L.drop (r + n)) (-1) ∧ Chg [h, e] w w' := by
  obtain ⟨hne, h1, xs, h2, h3⟩ := H
  have hhe : (w.set e (.inl (.int, 60, .inl (va_cpy xs xs (r + n) r (L.length - r - n)))))[h]? = some (.inr (0, [.ref e, .int (nI L.length), .int fg])) := by rw [get_set_ne (Ne.symm hne)]; exact h1
  have hlen : (L.take r ++ L.drop (r + n)).length = L.length - n := by simp; omega
  refine ⟨((w.set e (.inl (.int, 60, .inl (va_cpy xs xs (r + n) r (L.length - r - n))))).set h (.inr (0, [.ref e, .int (nI (L.length - n)), .int fg]))).set h (.inr (0, [.ref e, .int (nI (L.length - n)), .int (-1)])), ?_, ⟨hne, ?_, va_cpy xs xs (r + n) r (L.length - r - n), ?_, ?_⟩, ?_⟩
  · rw [f_X0_closeGap, if_neg (nI_pos (by omega)), if_neg (nI_pos (by omega)), gI_ob h1 rfl, some_bind', nI_sub (by omega), if_neg (nI_nlt (by omega) (by omega)), gR_ob h1 rfl, some_bind', some_bind', some_bind', nI_sub (by omega), nI_sub (by omega), nI_add, cpI_ar h2 h2 (by omega) (by omega) (by omega) (by omega), some_bind', gI_ob hhe rfl, some_bind', nI_sub (by omega), pV_ob hhe (by simp), some_bind', pV_ob (get_set_eq hhe) (by simp), some_bind']; rfl
  · rw [get_set_eq (get_set_eq hhe), hlen]
  · rw [get_set_ne hne, get_set_ne hne, get_set_eq h2]
  · intro j hj
    rw [hlen] at hj
    unfold va_cpy
    by_cases h4 : j < r
    · rw [if_neg (by omega), h3 j (by omega)]
      congr 1
      unfold nth
      rw [List.getD_eq_getElem?_getD, List.getD_eq_getElem?_getD, List.getElem?_append_left (by simp; omega), List.getElem?_take_of_lt h4]
    · rw [if_pos (by omega), h3 _ (by omega)]
      congr 1
      unfold nth
      rw [List.getD_eq_getElem?_getD, List.getD_eq_getElem?_getD, List.getElem?_append_right (by simp; omega), List.getElem?_drop]
      congr 2
      simp
      omega
  · exact ((Chg.st _ _ (by simp)).tr (Chg.st _ _ (by simp))).tr (Chg.st _ _ (by simp))
/-- a stretch is put at a place -/
def insAt (L : List Nat) (r : Nat) (M : List Nat) : List Nat := L.take r ++ M ++ L.drop r
theorem insAt_len {L M : List Nat} {r : Nat} (h : r ≤ L.length) : (insAt L r M).length = L.length + M.length := by
  simp [insAt]; omega
theorem nth_insAt {L M : List Nat} {r : Nat} (h : r ≤ L.length) (j : Nat) : nth (insAt L r M) j = if j < r then nth L j else if j < r + M.length then nth M (j - r) else nth L (j - M.length) := by
  unfold nth insAt
  simp only [List.getD_eq_getElem?_getD]
  by_cases h1 : j < r
  · rw [if_pos h1, List.append_assoc, List.getElem?_append_left (by simp; omega), List.getElem?_take_of_lt h1]
  · rw [if_neg h1]
    by_cases h2 : j < r + M.length
    · rw [if_pos h2, List.getElem?_append_left (by simp; omega), List.getElem?_append_right (by simp; omega)]
      congr 2
      simp
      omega
    · rw [if_neg h2, List.getElem?_append_right (by simp; omega), List.getElem?_drop]
      congr 2
      simp
      omega
theorem insert_ok {w : MW} {h e : Nat} {L : List Nat} {fg : Int32} (H : HA w h e L fg) (S : SOK L) {fu : Nat} (hfu : 100 ≤ fu) (hl : L.length < 60) {k : Nat} (hk : k < 10000) : ∃ w', f_X0_insert fu w h (nI k) = some (nI (bel L (nI k)), w') ∧ HA w' h e (insAt L (bel L (nI k)) [2 * k]) (-1) ∧ Chg [h, e] w w' := by
  have hb := bel_le L (nI k)
  obtain ⟨w1, xs, g1, g2, g3, g4, g5, g6⟩ := openGap_ok H hb (n := 1) (by omega)
  refine ⟨w1.set e (.inl (.int, 60, .inl (upd xs (bel L (nI k)) (nI (k * 2))))), ?_, ⟨H.1, ?_, upd xs (bel L (nI k)) (nI (k * 2)), get_set_eq g3, ?_⟩, g6.tr (Chg.st _ _ (by simp))⟩
  · rw [f_X0_insert, H.cl, below_ok H S hfu, some_bind', bnd_eq, H.cl, show (1 : Int32) = nI 1 from rfl, g1, some_bind', if_neg (show ¬ (1 : Int32) = 0 by decide), gR_ob g2 rfl, some_bind', show (2 : Int32) = nI 2 from rfl, nI_mul, sI_ar g3 (by omega) (by omega), some_bind']
  · rw [get_set_ne (Ne.symm H.1), g2, insAt_len hb]; rfl
  · intro j hj
    rw [insAt_len hb] at hj
    rw [nth_insAt hb]
    by_cases h1 : j < bel L (nI k)
    · rw [if_pos h1, upd_ne _ _ (by omega), g4 j h1]
    · rw [if_neg h1]
      by_cases h2 : j = bel L (nI k)
      · subst h2
        rw [upd_eq, if_pos (by simp)]
        simp [nth, Nat.mul_comm]
      · have h4 : ¬ j < bel L (nI k) + [2 * k].length := by show ¬ j < bel L (nI k) + 1; omega
        rw [if_neg h4, upd_ne _ _ h2]
        have := g5 (j - 1) (by omega) (by simp at hj; omega)
        rw [show j - 1 + 1 = j by omega] at this
        exact this
