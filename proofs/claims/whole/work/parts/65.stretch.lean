theorem SOK.tail {e : Nat} {L : List Nat} (S : SOK (e :: L)) : SOK L := ⟨(List.pairwise_cons.mp S.1).2, fun x hx => S.2.1 x (List.mem_cons_of_mem _ hx), by have := S.2.2; simp at this; omega⟩
theorem nth_0 (e : Nat) (L : List Nat) : nth (e :: L) 0 = e := rfl
theorem nth_s (e : Nat) (L : List Nat) (j : Nat) : nth (e :: L) (j + 1) = nth L j := by simp [nth]
theorem bel_cons (e : Nat) (L : List Nat) (a : Int32) : bel (e :: L) a = if nI (e / 2) < a then bel L a + 1 else 0 := by
  unfold bel
  rw [List.takeWhile_cons]
  by_cases h : nI (e / 2) < a
  · rw [if_pos (decide_eq_true h), if_pos h, List.length_cons]
  · rw [if_neg (by simp [h]), if_neg h]; rfl
theorem nab_cons (e : Nat) (L : List Nat) (a : Int32) : nab (e :: L) a = if nI (e / 2) ≤ a then nab L a + 1 else 0 := by
  unfold nab
  rw [List.takeWhile_cons]
  by_cases h : nI (e / 2) ≤ a
  · rw [if_pos (decide_eq_true h), if_pos h, List.length_cons]
  · rw [if_neg (by simp [h]), if_neg h]; rfl
/-- which are below a number, and which not above it -/
theorem bel_iff (a : Int32) : ∀ (L : List Nat), SOK L → ∀ j, j < L.length → (j < bel L a ↔ nI (nth L j / 2) < a)
  | [], _, j, hj => absurd hj (by simp)
  | e :: L, S, j, hj => by
    have he := S.2.1 e List.mem_cons_self
    rw [bel_cons]
    by_cases h : nI (e / 2) < a
    · rw [if_pos h]
      cases j with
      | zero => rw [nth_0]; exact ⟨fun _ => h, fun _ => by omega⟩
      | succ j =>
        rw [nth_s, ← bel_iff a L S.tail j (by simp at hj; omega)]
        omega
    · rw [if_neg h]
      refine ⟨fun q => by omega, fun q => absurd (Int32.lt_of_le_of_lt ?_ q) h⟩
      have hn := S.lt hj
      cases j with
      | zero => rw [nth_0]; exact Int32.le_refl _
      | succ j =>
        have h1 := S.inc (i := 0) (j := j + 1) (by omega) hj
        rw [nth_0] at h1
        exact nI_le (by omega) (by omega)
theorem nab_iff (a : Int32) : ∀ (L : List Nat), SOK L → ∀ j, j < L.length → (j < nab L a ↔ nI (nth L j / 2) ≤ a)
  | [], _, j, hj => absurd hj (by simp)
  | e :: L, S, j, hj => by
    have he := S.2.1 e List.mem_cons_self
    rw [nab_cons]
    by_cases h : nI (e / 2) ≤ a
    · rw [if_pos h]
      cases j with
      | zero => rw [nth_0]; exact ⟨fun _ => h, fun _ => by omega⟩
      | succ j =>
        rw [nth_s, ← nab_iff a L S.tail j (by simp at hj; omega)]
        omega
    · rw [if_neg h]
      refine ⟨fun q => by omega, fun q => absurd (Int32.le_trans ?_ q) h⟩
      have hn := S.lt hj
      cases j with
      | zero => rw [nth_0]; exact Int32.le_refl _
      | succ j =>
        have h1 := S.inc (i := 0) (j := j + 1) (by omega) hj
        rw [nth_0] at h1
        exact nI_le (by omega) (by omega)
/-- counted, or by the two places -/
theorem cnt_hmb (a b : Int32) : ∀ (L : List Nat), SOK L → cnt L a b = hmb L a b
  | [], _ => by simp [cnt, hmb, nab, bel]
  | e :: L, S => by
    have ih := cnt_hmb a b L S.tail
    rw [cnt_cons, ih]
    unfold hmb
    rw [bel_cons, nab_cons]
    by_cases h1 : nI (e / 2) < a
    · rw [if_pos h1, if_neg (fun q => absurd q.1 (Int32.not_le.mpr h1))]
      by_cases h2 : nI (e / 2) ≤ b
      · rw [if_pos h2]; omega
      · rw [if_neg h2]
        have h3 : nab L b = 0 := by
          cases L with
          | nil => rfl
          | cons e2 L2 =>
            rw [nab_cons, if_neg]
            intro q
            have h4 := S.inc (i := 0) (j := 1) (by omega) (by simp)
            rw [nth_0, nth_s, nth_0] at h4
            have h5 := S.tail.2.1 e2 List.mem_cons_self
            exact h2 (Int32.le_trans (nI_le (by omega) (by omega)) q)
        rw [h3]; omega
    · have h0 : bel L a = 0 := by
        cases L with
        | nil => rfl
        | cons e2 L2 =>
          rw [bel_cons, if_neg]
          intro q
          have h4 := S.inc (i := 0) (j := 1) (by omega) (by simp)
          rw [nth_0, nth_s, nth_0] at h4
          have h5 := S.tail.2.1 e2 List.mem_cons_self
          exact h1 (Int32.lt_of_le_of_lt (nI_le (by omega) (by omega)) q)
      rw [if_neg h1, h0]
      by_cases h2 : nI (e / 2) ≤ b
      · rw [if_pos ⟨Int32.not_lt.mp h1, h2⟩, if_pos h2]; omega
      · rw [if_neg (fun q => h2 q.2), if_neg h2]
        have h3 : nab L b = 0 := by
          cases L with
          | nil => rfl
          | cons e2 L2 =>
            rw [nab_cons, if_neg]
            intro q
            have h4 := S.inc (i := 0) (j := 1) (by omega) (by simp)
            rw [nth_0, nth_s, nth_0] at h4
            have h5 := S.tail.2.1 e2 List.mem_cons_self
            exact h2 (Int32.le_trans (nI_le (by omega) (by omega)) q)
        rw [h3]
theorem nth_dt {L : List Nat} {r n q : Nat} (hq : q < n) : nth ((L.drop r).take n) q = nth L (r + q) := by
  unfold nth
  rw [List.getD_eq_getElem?_getD, List.getD_eq_getElem?_getD, List.getElem?_take_of_lt hq, List.getElem?_drop]
theorem dt_len {L : List Nat} {r n : Nat} (h : r + n ≤ L.length) : ((L.drop r).take n).length = n := by
  simp; omega
theorem give_ok {w : MW} {h e h2 e2 : Nat} {L M : List Nat} {fg fg2 : Int32} (H : HA w h e L fg) (H2 : HA w h2 e2 M fg2) (S : SOK L) (S2 : SOK M) (d1 : h ≠ h2) (d2 : h ≠ e2) (d3 : e ≠ h2) (d4 : e ≠ e2) {fu : Nat} (hfu : 100 ≤ fu) {r n : Nat} (hn : 1 ≤ n) (hr : r + n ≤ L.length) (hm : M.length + n ≤ 60) : ∃ w', f_X0_giveStretch fu w h (nI r) (nI n) h2 = some w' ∧ HA w' h e (L.take r ++ L.drop (r + n)) (-1) ∧ HA w' h2 e2 (insAt M (bel M (nI (nth L r / 2))) ((L.drop r).take n)) (-1) ∧ Chg [h, e, h2, e2] w w' := by
  have hl := S.len
  have hnr := S.lt (show r < L.length by omega)
  have hb := bel_le M (nI (nth L r / 2))
  obtain ⟨w1, ys, g1, g2, g3, g4, g5, g6⟩ := openGap_ok H2 hb (n := n) hm
  have H1 : HA w1 h e L fg := H.chg g6 (by simp; omega) (by simp; omega)
  obtain ⟨hne, k1, xs, k2, k3⟩ := id H1
  have hcp : cpI w1 .int e (nI r) e2 (nI (bel M (nI (nth L r / 2)))) (nI n) = some (w1.set e2 (.inl (.int, 60, .inl (va_cpy xs ys r (bel M (nI (nth L r / 2))) n)))) := cpI_ar k2 g3 (by omega) (by omega) (by omega) (by omega)
  have c2 : Chg [e2] w1 (w1.set e2 (.inl (.int, 60, .inl (va_cpy xs ys r (bel M (nI (nth L r / 2))) n)))) := Chg.st _ _ (by simp)
  have H3 := H1.chg c2 (by simp; omega) (by simp; omega)
  obtain ⟨w3, q1, q2, q3⟩ := closeGap_ok H3 hl hr
  obtain ⟨hne0, k10, xs0, k20, k30⟩ := id H
  refine ⟨w3, ?_, q2, ⟨H2.1, ?_, va_cpy xs ys r (bel M (nI (nth L r / 2))) n, ?_, ?_⟩, ?_⟩
  · rw [f_X0_giveStretch, if_neg (nI_pos (by omega)), if_neg (show ¬ nI n < (1 : Int32) from nI_nlt (b := 1) hn (by omega)), gI_ob k10 rfl, some_bind', nI_sub (by omega), if_pos (nI_le (by omega) (by omega)), gR_ob k10 rfl, some_bind', aI_ar k20 (by omega) (by omega), some_bind', k30 r (by omega), nI_half (by omega), H2.cl, below_ok H2 S2 hfu, some_bind', bnd_eq, H2.cl, g1, some_bind', if_neg (show ¬ (1 : Int32) = 0 by decide), gR_ob k1 rfl, some_bind', gR_ob g2 rfl, some_bind', hcp, some_bind', H3.cl, q1, some_bind']
  · refine q3.at (by simp; omega) ?_
    rw [get_set_ne (Ne.symm H2.1), g2, insAt_len hb, dt_len hr]
  · exact q3.at (by simp; omega) (get_set_eq g3)
  · intro j hj
    rw [insAt_len hb, dt_len hr] at hj
    rw [nth_insAt hb, dt_len hr]
    unfold va_cpy
    by_cases c1 : j < bel M (nI (nth L r / 2))
    · rw [if_neg (by omega), if_pos c1, g4 j c1]
    · rw [if_neg c1]
      by_cases c3 : j < bel M (nI (nth L r / 2)) + n
      · rw [if_pos ⟨by omega, c3⟩, if_pos c3, nth_dt (by omega), k3 _ (by omega)]
      · rw [if_neg (by omega), if_neg c3]
        have := g5 (j - n) (by omega) (by omega)
        rw [show j - n + n = j by omega] at this
        exact this
  · exact ((g6.mono (by simp)).tr (c2.mono (by simp))).tr (q3.mono (by simp))
