abbrev hpl : List Nat := [13, 14, 15, 16, 17, 18, 19, 20, 21, 22, 23, 24, 25, 26, 27, 28]
/-- sets, fingers -/
abbrev AS : Type := (Nat → List Nat) × (Nat → Int32)
theorem hpl_in {i : Nat} (hi : i < 8) : ∀ k ∈ [13 + 2 * i, 14 + 2 * i], k ∈ hpl := by
  intro q hq
  simp only [List.mem_cons, List.not_mem_nil, or_false] at hq ⊢
  omega
theorem hpl_in2 {i j : Nat} (hi : i < 8) (hj : j < 8) : ∀ k ∈ [13 + 2 * i, 14 + 2 * i, 13 + 2 * j, 14 + 2 * j], k ∈ hpl := by
  intro q hq
  simp only [List.mem_cons, List.not_mem_nil, or_false] at hq ⊢
  omega
theorem CS.put2 {w w' : MW} {hs : Nat → List Nat} {fg : Nat → Int32} (h : CS w hs fg) {i j : Nat} (hi : i < 8) (hj : j < 8) (hij : i ≠ j) {L M : List Nat} {f g : Int32} (H : HA w' (13 + 2 * i) (14 + 2 * i) L f) (H2 : HA w' (13 + 2 * j) (14 + 2 * j) M g) (C : Chg [13 + 2 * i, 14 + 2 * i, 13 + 2 * j, 14 + 2 * j] w w') : CS w' (va_up (va_up hs i L) j M) (va_up (va_up fg i f) j g) := by
  obtain ⟨⟨a, b, c, h1⟩, ⟨p, h2, h3⟩, h4⟩ := h
  refine ⟨⟨a, b, c, C.at (by simp; omega) h1⟩, ⟨p, C.at (by simp; omega) h2, h3⟩, fun k hk => ?_⟩
  by_cases e1 : k = j
  · subst e1
    simp only [va_up, if_true]
    exact H2
  · by_cases e2 : k = i
    · subst e2
      simp only [va_up, if_neg e1, if_true]
      exact H
    · simp only [va_up, if_neg e1, if_neg e2]
      exact (h4 k hk).chg C (by simp; omega) (by simp; omega)
def cutOut (L : List Nat) (r n : Nat) : List Nat := L.take r ++ L.drop (r + n)
/-- a stretch goes over -/
def giveA (s : AS) (i j r n : Nat) : AS := (va_up (va_up s.1 i (cutOut (s.1 i) r n)) j (insAt (s.1 j) (bel (s.1 j) (nI (nth (s.1 i) r / 2))) (((s.1 i).drop r).take n)), va_up (va_up s.2 i (-1)) j (-1))
theorem cgive {w : MW} {s : AS} (h : CS w s.1 s.2) (O : AOK s.1) {fu : Nat} (hfu : 100 ≤ fu) {i j r n : Nat} (hi : i < 8) (hj : j < 8) (hij : i ≠ j) (hn : 1 ≤ n) (hr : r + n ≤ (s.1 i).length) (hm : (s.1 j).length + n ≤ 60) : ∃ w', f_X0_giveStretch fu w (13 + 2 * i) (nI r) (nI n) (13 + 2 * j) = some w' ∧ CS w' (giveA s i j r n).1 (giveA s i j r n).2 ∧ Chg hpl w w' := by
  obtain ⟨w', g1, g2, g3, g4⟩ := give_ok (h.ha hi) (h.ha hj) (O.1 i hi) (O.1 j hj) (by omega) (by omega) (by omega) (by omega) hfu hn hr hm
  exact ⟨w', g1, h.put2 hi hj hij g2 g3 g4, g4.mono (hpl_in2 hi hj)⟩
/-- DROP, CUT, JOIN, MOVE of the sets -/
def xDrop (s : AS) (i k : Nat) : Int32 × AS := if plc (s.1 i) (nI k) = -1 then (-2, s) else (nI ((s.1 i).length - 1), (va_up s.1 i (cutOut (s.1 i) (bel (s.1 i) (nI k)) 1), va_up s.2 i (-1)))
def xCut (s : AS) (i k j : Nat) : Int32 × AS := if (s.1 i).length - nab (s.1 i) (nI k) = 0 then (-2, s) else if 0 < (s.1 j).length then (-3, s) else (nI ((s.1 i).length - nab (s.1 i) (nI k)), giveA s i j (nab (s.1 i) (nI k)) ((s.1 i).length - nab (s.1 i) (nI k)))
/-- why a JOIN is refused: 0 if it isn't -/
def wJoin (s : AS) (t o : Nat) : Int32 := if (s.1 o).length = 0 then -2 else if 0 < (s.1 t).length ∧ nth (s.1 o) 0 / 2 ≤ nth (s.1 t) ((s.1 t).length - 1) / 2 then -3 else if 60 < (s.1 t).length + (s.1 o).length then -4 else 0
def xJoin (s : AS) (t o : Nat) : Int32 × AS := if wJoin s t o = 0 then (nI ((s.1 t).length + (s.1 o).length), giveA s o t 0 (s.1 o).length) else (wJoin s t o, s)
def xMove (s : AS) (i a b j : Nat) : Int32 × AS :=
  if hmb (s.1 i) (nI a) (nI b) = 0 then (-2, s)
  else if 0 < hmb (s.1 j) (nI (nth (s.1 i) (bel (s.1 i) (nI a)) / 2)) (nI (nth (s.1 i) (bel (s.1 i) (nI a) + hmb (s.1 i) (nI a) (nI b) - 1) / 2)) then (-3, s)
  else if 60 < (s.1 j).length + hmb (s.1 i) (nI a) (nI b) then (-4, s)
  else (nI (hmb (s.1 i) (nI a) (nI b)), giveA s i j (bel (s.1 i) (nI a)) (hmb (s.1 i) (nI a) (nI b)))
theorem plc_ne {L : List Nat} {x : Int32} (h : ¬ plc L x = -1) : bel L x < L.length ∧ plc L x = nI (bel L x) := by
  unfold plc at h ⊢
  by_cases c : bel L x < L.length ∧ nI (nth L (bel L x) / 2) = x
  · rw [if_pos c]; exact ⟨c.1, rfl⟩
  · rw [if_neg c] at h; exact absurd rfl h
theorem cdrop_ok {w : MW} {s : AS} (h : CS w s.1 s.2) (O : AOK s.1) {fu : Nat} (hfu : 100 ≤ fu) {i k : Nat} (hi : i < 8) (hk : k < 10000) : ∃ w', f_X7_dropKey fu w 1 (nI i) (nI k) = some ((xDrop s i k).1, w') ∧ CS w' (xDrop s i k).2.1 (xDrop s i k).2.2 ∧ Chg hpl w w' := by
  have S := O.1 i hi
  have H := h.ha hi
  have hl := S.len
  rw [f_X7_dropKey, h.cl, heapAt_in h hi, some_bind']
  dsimp only
  rw [isKey_in hk, if_neg (show ¬ (1 : Int32) = 0 by decide), H.cl, rankOf_ok H S hfu, some_bind', bnd_eq]
  unfold xDrop
  by_cases hp : plc (s.1 i) (nI k) = -1
  · rw [if_pos hp, if_pos hp]
    exact ⟨w, rfl, h, Chg.rf _ _⟩
  · obtain ⟨hb, hpe⟩ := plc_ne hp
    obtain ⟨w', g1, g2, g3⟩ := closeGap_ok H hl (r := bel (s.1 i) (nI k)) (n := 1) (by omega)
    rw [if_neg hp, if_neg hp, hpe, H.cl, show (1 : Int32) = nI 1 from rfl, g1, some_bind', gI_ob g2.2.1 rfl, some_bind']
    have e1 : ((s.1 i).take (bel (s.1 i) (nI k)) ++ (s.1 i).drop (bel (s.1 i) (nI k) + 1)).length = (s.1 i).length - 1 := by simp; omega
    rw [e1]
    exact ⟨w', rfl, h.put hi g2 g3, g3.mono (hpl_in hi)⟩
theorem nI_eq0 {n : Nat} (h : n < 2 ^ 31) : nI n = 0 ↔ n = 0 := nI_eq (b := 0) h (by omega)
theorem nI_le0 {n : Nat} (h : n < 2 ^ 31) : nI n ≤ 0 ↔ n = 0 := by
  rw [show (0 : Int32) = nI 0 from rfl, nI_leI h (by omega)]; omega
theorem set_ne {i j : Nat} (hi : i < 8) (hj : j < 8) (hij : i ≠ j) : ¬ nI i = nI j := fun q => hij ((nI_eq (by omega) (by omega)).mp q)
theorem ccut_ok {w : MW} {s : AS} (h : CS w s.1 s.2) (O : AOK s.1) {fu : Nat} (hfu : 100 ≤ fu) {i j k : Nat} (hi : i < 8) (hj : j < 8) (hij : i ≠ j) (hk : k < 10000) : ∃ w', f_X7_cutAbove fu w 1 (nI i) (nI k) (nI j) = some ((xCut s i k j).1, w') ∧ CS w' (xCut s i k j).2.1 (xCut s i k j).2.2 ∧ Chg hpl w w' := by
  have S := O.1 i hi
  have H := h.ha hi
  have H2 := h.ha hj
  have hl := S.len
  have hl2 := (O.1 j hj).len
  have hn := nab_le (s.1 i) (nI k)
  rw [f_X7_cutAbove, h.cl, heapAt_in h hi, some_bind']
  dsimp only
  rw [h.cl, heapAt_in h hj, some_bind']
  dsimp only
  rw [if_neg (set_ne hi hj hij), isKey_in hk, if_neg (show ¬ (1 : Int32) = 0 by decide), H.cl, notAbove_ok H S hfu, some_bind', bnd_eq, gI_ob H.2.1 rfl, some_bind', nI_sub hn, bnd_eq]
  unfold xCut
  by_cases c1 : (s.1 i).length - nab (s.1 i) (nI k) = 0
  · rw [if_pos ((nI_eq0 (by omega)).mpr c1), if_pos c1]
    exact ⟨w, rfl, h, Chg.rf _ _⟩
  · rw [if_neg (fun q => c1 ((nI_eq0 (by omega)).mp q)), if_neg c1, gI_ob H2.2.1 rfl, some_bind']
    by_cases c2 : 0 < (s.1 j).length
    · rw [if_neg (fun q => by have := (nI_le0 (by omega)).mp q; omega), if_pos c2]
      exact ⟨w, rfl, h, Chg.rf _ _⟩
    · obtain ⟨w', g1, g2, g3⟩ := cgive h O hfu hi hj hij (r := nab (s.1 i) (nI k)) (n := (s.1 i).length - nab (s.1 i) (nI k)) (by omega) (by omega) (by omega)
      rw [if_pos ((nI_le0 (by omega)).mpr (by omega)), if_neg c2, H.cl, g1, some_bind']
      exact ⟨w', rfl, g2, g3⟩
theorem cwhy_ok {w : MW} {s : AS} (h : CS w s.1 s.2) (O : AOK s.1) {t o : Nat} (ht : t < 8) (ho : o < 8) : f_X7_whyNotJoin w 1 (13 + 2 * t) (13 + 2 * o) = some (wJoin s t o) := by
  have S1 := O.1 t ht
  have S2 := O.1 o ho
  have H1 := h.ha ht
  have H2 := h.ha ho
  have l1 := S1.len
  have l2 := S2.len
  have fin : f_X7_whyNotJoin_38 w (13 + 2 * t) (13 + 2 * o) = some (if 60 < (s.1 t).length + (s.1 o).length then -4 else 0) := by
    rw [f_X7_whyNotJoin_38, gI_ob H1.2.1 rfl, some_bind', gI_ob H2.2.1 rfl, some_bind', nI_add, show (60 : Int32) = nI 60 from rfl]
    by_cases c : 60 < (s.1 t).length + (s.1 o).length
    · rw [if_pos c, if_neg (nI_ge c (by omega))]
    · rw [if_neg c, if_pos (nI_le (by omega) (by omega))]
  rw [f_X7_whyNotJoin, gI_ob H2.2.1 rfl, some_bind']
  unfold wJoin
  by_cases c1 : (s.1 o).length = 0
  · rw [if_pos ((nI_eq0 (by omega)).mpr c1), if_pos c1]
  · rw [if_neg (fun q => c1 ((nI_eq0 (by omega)).mp q)), if_neg c1, gI_ob H1.2.1 rfl, some_bind']
    by_cases c2 : (s.1 t).length = 0
    · rw [if_pos ((nI_le0 (by omega)).mpr c2), if_neg (show ¬ (0 < (s.1 t).length ∧ nth (s.1 o) 0 / 2 ≤ nth (s.1 t) ((s.1 t).length - 1) / 2) from fun q => by omega), fin]
    · rw [if_neg (fun q => c2 ((nI_le0 (by omega)).mp q)), some_bind', show (1 : Int32) = nI 1 from rfl, nI_sub (by omega), H1.cl, keyAt_in H1 S1 (by omega), some_bind', show (0 : Int32) = nI 0 from rfl, H2.cl, keyAt_in H2 S2 (by omega), some_bind']
      have b1 := S1.lt (show (s.1 t).length - 1 < (s.1 t).length by omega)
      have b2 := S2.lt (show 0 < (s.1 o).length by omega)
      by_cases c3 : nth (s.1 o) 0 / 2 ≤ nth (s.1 t) ((s.1 t).length - 1) / 2
      · rw [if_neg (nI_nlt c3 (by omega)), if_pos ⟨by omega, c3⟩]
      · rw [if_pos (nI_lt (by omega) (by omega)), if_neg (show ¬ (0 < (s.1 t).length ∧ nth (s.1 o) 0 / 2 ≤ nth (s.1 t) ((s.1 t).length - 1) / 2) from fun q => c3 q.2), fin]
        rfl
theorem cjoin_ok {w : MW} {s : AS} (h : CS w s.1 s.2) (O : AOK s.1) {fu : Nat} (hfu : 100 ≤ fu) {t o : Nat} (ht : t < 8) (ho : o < 8) (hto : t ≠ o) : ∃ w', f_X7_joinTo fu w 1 (nI t) (nI o) = some ((xJoin s t o).1, w') ∧ CS w' (xJoin s t o).2.1 (xJoin s t o).2.2 ∧ Chg hpl w w' := by
  have l1 := (O.1 t ht).len
  have l2 := (O.1 o ho).len
  have H2 := h.ha ho
  rw [f_X7_joinTo, h.cl, heapAt_in h ht, some_bind']
  dsimp only
  rw [h.cl, heapAt_in h ho, some_bind']
  dsimp only
  rw [if_neg (set_ne ht ho hto), h.cl, cwhy_ok h O ht ho, some_bind', bnd_eq]
  unfold xJoin
  by_cases c : wJoin s t o = 0
  · have hc := c
    unfold wJoin at hc
    have c1 : ¬ (s.1 o).length = 0 := fun q => by rw [if_pos q] at hc; exact absurd hc (by decide)
    rw [if_neg c1] at hc
    have c2 : ¬ (0 < (s.1 t).length ∧ nth (s.1 o) 0 / 2 ≤ nth (s.1 t) ((s.1 t).length - 1) / 2) := fun q => by rw [if_pos q] at hc; exact absurd hc (by decide)
    rw [if_neg c2] at hc
    have c3 : ¬ 60 < (s.1 t).length + (s.1 o).length := fun q => by rw [if_pos q] at hc; exact absurd hc (by decide)
    obtain ⟨w', g1, g2, g3⟩ := cgive h O hfu ho ht (Ne.symm hto) (r := 0) (n := (s.1 o).length) (by omega) (by omega) (by omega)
    have e0 := gI_ob (g2.ha ht).2.1 (k := 1) (x := nI ((giveA s o t 0 (s.1 o).length).1 t).length) rfl
    have e1 : ((giveA s o t 0 (s.1 o).length).1 t).length = (s.1 t).length + (s.1 o).length := by
      unfold giveA
      simp only [va_up, if_true]
      rw [insAt_len (bel_le _ _), dt_len (by omega)]
    rw [if_pos c, if_pos c, gI_ob H2.2.1 rfl, some_bind', H2.cl, show (0 : Int32) = nI 0 from rfl, g1, some_bind', e0, some_bind', e1]
    exact ⟨w', rfl, g2, g3⟩
  · rw [if_neg c, if_neg c]
    exact ⟨w, rfl, h, Chg.rf _ _⟩
theorem cmove_ok {w : MW} {s : AS} (h : CS w s.1 s.2) (O : AOK s.1) {fu : Nat} (hfu : 100 ≤ fu) {i j a b : Nat} (hi : i < 8) (hj : j < 8) (hij : i ≠ j) (ha : a < 10000) (hb : b < 10000) : ∃ w', f_X7_moveStretch fu w 1 (nI i) (nI a) (nI b) (nI j) = some ((xMove s i a b j).1, w') ∧ CS w' (xMove s i a b j).2.1 (xMove s i a b j).2.2 ∧ Chg hpl w w' := by
  have S := O.1 i hi
  have S2 := O.1 j hj
  have H := h.ha hi
  have H2 := h.ha hj
  have hl := S.len
  have hl2 := S2.len
  have n1 := bel_le (s.1 i) (nI a)
  have n2 := nab_le (s.1 i) (nI b)
  rw [f_X7_moveStretch, h.cl, heapAt_in h hi, some_bind']
  dsimp only
  rw [h.cl, heapAt_in h hj, some_bind']
  dsimp only
  rw [if_neg (set_ne hi hj hij), isKey_in ha, if_neg (show ¬ (1 : Int32) = 0 by decide), isKey_in hb, if_neg (show ¬ (1 : Int32) = 0 by decide), H.cl, howMany_ok H S hfu, some_bind', bnd_eq]
  unfold xMove
  have hg : hmb (s.1 i) (nI a) (nI b) ≤ 60 := by unfold hmb; omega
  by_cases c1 : hmb (s.1 i) (nI a) (nI b) = 0
  · rw [if_pos ((nI_eq0 (by omega)).mpr c1), if_pos c1]
    exact ⟨w, rfl, h, Chg.rf _ _⟩
  · have hr : bel (s.1 i) (nI a) + hmb (s.1 i) (nI a) (nI b) ≤ (s.1 i).length := by unfold hmb at c1 ⊢; omega
    have n3 := nab_le (s.1 j) (nI (nth (s.1 i) (bel (s.1 i) (nI a) + hmb (s.1 i) (nI a) (nI b) - 1) / 2))
    have hg2 : hmb (s.1 j) (nI (nth (s.1 i) (bel (s.1 i) (nI a)) / 2)) (nI (nth (s.1 i) (bel (s.1 i) (nI a) + hmb (s.1 i) (nI a) (nI b) - 1) / 2)) ≤ 60 := Nat.le_trans (Nat.sub_le _ _) (by omega)
    rw [if_neg (fun q => c1 ((nI_eq0 (by omega)).mp q)), if_neg c1, H.cl, below_ok H S hfu, some_bind', bnd_eq, H.cl, keyAt_in H S (by omega), some_bind', nI_add, show (1 : Int32) = nI 1 from rfl, nI_sub (by omega), H.cl, keyAt_in H S (by omega), some_bind', H2.cl, howMany_ok H2 S2 hfu, some_bind']
    by_cases c2 : 0 < hmb (s.1 j) (nI (nth (s.1 i) (bel (s.1 i) (nI a)) / 2)) (nI (nth (s.1 i) (bel (s.1 i) (nI a) + hmb (s.1 i) (nI a) (nI b) - 1) / 2))
    · rw [if_neg (fun q => by have := (nI_le0 (by omega)).mp q; omega), if_pos c2]
      exact ⟨w, rfl, h, Chg.rf _ _⟩
    · rw [if_pos ((nI_le0 (by omega)).mpr (by omega)), if_neg c2, gI_ob H2.2.1 rfl, some_bind', nI_add, show (60 : Int32) = nI 60 from rfl]
      by_cases c3 : 60 < (s.1 j).length + hmb (s.1 i) (nI a) (nI b)
      · rw [if_neg (nI_ge c3 (by omega)), if_pos c3]
        exact ⟨w, rfl, h, Chg.rf _ _⟩
      · obtain ⟨w', g1, g2, g3⟩ := cgive h O hfu hi hj hij (r := bel (s.1 i) (nI a)) (n := hmb (s.1 i) (nI a) (nI b)) (by omega) hr (by omega)
        rw [if_pos (nI_le (by omega) (by omega)), if_neg c3, H.cl, g1, some_bind']
        exact ⟨w', rfl, g2, g3⟩
