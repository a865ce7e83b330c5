/-! the class's WEAVE -/
def WC (w : MW) (tw ks : Nat) (R : RS) : Prop := w[11]? = some (.inr (9, [.int (nI R.1), .int (nI tw), .int (nI R.2.1), .int (nI R.2.2.1), .int (nI ks)]))
theorem endRun_loop (fu : Nat) {a t l k : Int32} : ∀ N n c w, n < 2 ^ 31 → n < N → w[11]? = some (.inr (9, [.int a, .int t, .int (nI c), .int l, .int k])) → ∃ w', f_X9_endRun_40 fu N w 11 (nI n) = some w' ∧ w'[11]? = some (.inr (9, [.int a, .int t, .int (nI (c + Nat.log2 n)), .int l, .int k])) ∧ Chg [11] w w' := by
  intro N
  induction N with
  | zero => intro n c w _ h _; omega
  | succ N ih =>
    intro n c w hn h hw
    rw [f_X9_endRun_40]
    by_cases c1 : n ≤ 1
    · rw [if_pos (show nI n ≤ (1 : Int32) from nI_le (b := 1) c1 (by omega)), log2_1 (by omega)]
      exact ⟨w, rfl, hw, Chg.rf _ _⟩
    · have c2 := Chg.st (ks := [11]) w (a := 11) (.inr (9, [.int a, .int t, .int (nI (c + 1)), .int l, .int k])) (by simp)
      obtain ⟨w', g1, g2, g3⟩ := ih (n / 2) (c + 1) (w.set 11 (.inr (9, [.int a, .int t, .int (nI (c + 1)), .int l, .int k]))) (by omega) (by omega) (get_set_eq hw)
      rw [if_neg (show ¬ nI n ≤ (1 : Int32) from nI_ge (a := 1) (by omega) hn), gI_ob hw rfl, some_bind', nI_1, pV_ob hw (by simp), some_bind', bnd_eq, nI_half hn]
      refine ⟨w', g1, ?_, c2.tr g3⟩
      rw [g2, log2_s (n := n) (by omega), show c + 1 + (n / 2).log2 = c + ((n / 2).log2 + 1) by omega]
theorem endRun_ok {fu : Nat} (hfu : 2000 ≤ fu) {w : MW} {tw ks : Nat} {R : RS} (h : WC w tw ks R) (hb : RB R 0) : ∃ w', f_X9_endRun fu w 11 (nI R.2.2.2.1) = some w' ∧ WC w' tw ks (rEnd R) ∧ Chg [11] w w' := by
  obtain ⟨b1, b2⟩ := hb
  unfold WC at h
  rw [f_X9_endRun]
  unfold rEnd
  by_cases c : R.2.2.2.1 = 0
  · rw [if_pos c, c, if_neg (by decide)]
    exact ⟨w, rfl, h, Chg.rf _ _⟩
  · rw [if_neg c, if_pos (show (1 : Int32) ≤ nI R.2.2.2.1 from nI_le (a := 1) (by omega) (by omega)), gI_ob h rfl, some_bind', nI_1, pV_ob h (by simp), some_bind']
    have h1 : (w.set 11 (.inr (9, [.int (nI (R.1 + 1)), .int (nI tw), .int (nI R.2.1), .int (nI R.2.2.1), .int (nI ks)])))[11]? = _ := get_set_eq h
    have e1 : [Value.int (nI R.1), .int (nI tw), .int (nI R.2.1), .int (nI R.2.2.1), .int (nI ks)].set 0 (.int (nI (R.1 + 1))) = [.int (nI (R.1 + 1)), .int (nI tw), .int (nI R.2.1), .int (nI R.2.2.1), .int (nI ks)] := rfl
    rw [e1, gI_ob h1 rfl, some_bind', imax_n (by omega) (by omega), pV_ob h1 (by simp), some_bind']
    have e2 : [Value.int (nI (R.1 + 1)), .int (nI tw), .int (nI R.2.1), .int (nI R.2.2.1), .int (nI ks)].set 3 (.int (nI (max R.2.2.1 R.2.2.2.1))) = [.int (nI (R.1 + 1)), .int (nI tw), .int (nI R.2.1), .int (nI (max R.2.2.1 R.2.2.2.1)), .int (nI ks)] := rfl
    rw [e2]
    have h2 : ((w.set 11 (.inr (9, [.int (nI (R.1 + 1)), .int (nI tw), .int (nI R.2.1), .int (nI R.2.2.1), .int (nI ks)]))).set 11 (.inr (9, [.int (nI (R.1 + 1)), .int (nI tw), .int (nI R.2.1), .int (nI (max R.2.2.1 R.2.2.2.1)), .int (nI ks)])))[11]? = _ := get_set_eq h1
    rw [gI_ob h2 rfl, some_bind', nI_1, pV_ob h2 (by simp), some_bind', bnd_eq]
    have h3 := get_set_eq (x := .inr (9, [.int (nI (R.1 + 1)), .int (nI tw), .int (nI (R.2.1 + 1)), .int (nI (max R.2.2.1 R.2.2.2.1)), .int (nI ks)])) h2
    obtain ⟨w', g1, g2, g3⟩ := endRun_loop fu fu R.2.2.2.1 (R.2.1 + 1) _ (by omega) (by omega) h3
    refine ⟨w', g1, g2, ?_⟩
    exact (((Chg.st _ _ (by simp)).tr (Chg.st _ _ (by simp))).tr (Chg.st _ _ (by simp))).tr g3
def cmpV (t : Nat) : Int32 := if t = 0 then -1 else if t = 1 then 0 else 1
theorem cmp_lt {a b : Nat} (h : a < b) (hb : b < 2 ^ 31) : f_J6_compare_7cf53 (nI a) (nI b) = cmpV 0 := by
  rw [f_J6_compare_7cf53, if_neg (nI_ge h hb)]; rfl
theorem cmp_eq {a : Nat} : f_J6_compare_7cf53 (nI a) (nI a) = cmpV 1 := by
  rw [f_J6_compare_7cf53, if_pos (Int32.le_refl _), if_pos rfl]; rfl
theorem cmp_gt {a b : Nat} (h : b < a) (hb : a < 2 ^ 31) : f_J6_compare_7cf53 (nI a) (nI b) = cmpV 2 := by
  rw [f_J6_compare_7cf53, if_pos (nI_le (by omega) hb), if_neg (fun q => by have := (nI_eq hb (by omega)).mp q; omega)]; rfl
section W
variable {fu : Nat} {lr : MW → Nat → Nat → Nat → Int32 → Int32 → Int32 → Int32 → Int32 → Option MW} {w : MW} {tw ks : Nat} {R : RS} {h1 h2 i j lf : Nat}
theorem weave_129 (h : WC w tw ks R) {run : Nat} {v6 v8 : Int32} {a1 a2 a3 a4 : Nat} (e1 : (if v8 = 0 then (1 : Int32) else 0) = nI a1) (e2 : (if 0 < v8 then (0 : Int32) else 1) = nI a2) (e3 : (if v8 < 0 then (0 : Int32) else 1) = nI a3) (e4 : (if v8 = 0 then (2 : Int32) else 1) = nI a4) (hl : a4 ≤ lf) : ∃ w', f_X9_weave_129 fu lr w 11 h1 h2 (nI i) (nI j) (nI run) v6 (nI lf) v8 = lr w' 11 h1 h2 (nI (i + a2)) (nI (j + a3)) (nI (run + 1)) v6 (nI (lf - a4)) ∧ WC w' (tw + a1) (ks + 1) R ∧ Chg [11] w w' := by
  unfold WC at h
  have g1 := get_set_eq (x := .inr (9, [.int (nI R.1), .int (nI tw), .int (nI R.2.1), .int (nI R.2.2.1), .int (nI (ks + 1))])) h
  have g2 := get_set_eq (x := .inr (9, [.int (nI R.1), .int (nI (tw + a1)), .int (nI R.2.1), .int (nI R.2.2.1), .int (nI (ks + 1))])) g1
  refine ⟨_, ?_, g2, (Chg.st _ _ (by simp)).tr (Chg.st _ _ (by simp))⟩
  have k4 : ∀ w x y z v5, f_X9_weave_186 fu lr w 11 h1 h2 x v5 v6 (nI lf) v8 y z = lr w 11 h1 h2 x (y + z) v5 v6 (nI (lf - a4)) := by
    intro w x y z v5
    rw [f_X9_weave_186, bnd_eq]
    have : nI lf - nI a4 = nI (lf - a4) := nI_sub hl
    by_cases q : v8 = 0
    · rw [if_pos q] at e4; rw [if_pos q, f_X9_weave_201, bnd_eq, ← this, ← e4]
    · rw [if_neg q] at e4; rw [if_neg q, f_X9_weave_201, bnd_eq, ← this, ← e4]
  have k3 : ∀ w x y v5, f_X9_weave_172 fu lr w 11 h1 h2 (nI j) v5 v6 (nI lf) v8 x y = lr w 11 h1 h2 (x + y) (nI (j + a3)) v5 v6 (nI (lf - a4)) := by
    intro w x y v5
    rw [f_X9_weave_172, bnd_eq, ← nI_add j a3]
    by_cases q : v8 < 0
    · rw [if_pos q] at e3; rw [if_pos q, k4, ← e3]
    · rw [if_neg q] at e3; rw [if_neg q, k4, ← e3]
  have k2 : ∀ x y v5 w w1, pV w 9 11 1 (.int (x + y)) = some w1 → f_X9_weave_157 fu lr w 11 h1 h2 (nI i) (nI j) v5 v6 (nI lf) v8 11 x y = lr w1 11 h1 h2 (nI (i + a2)) (nI (j + a3)) v5 v6 (nI (lf - a4)) := by
    intro x y v5 w w1 hw
    rw [f_X9_weave_157, hw, some_bind', ← nI_add i a2]
    by_cases q : 0 < v8
    · rw [if_pos q] at e2; rw [if_pos q, k3, ← e2]
    · rw [if_neg q] at e2; rw [if_neg q, k3, ← e2]
  rw [f_X9_weave_129, bnd_eq, gI_ob h rfl, some_bind', nI_1, nI_1, pV_ob h (by simp), some_bind']
  have ee : [Value.int (nI R.1), .int (nI tw), .int (nI R.2.1), .int (nI R.2.2.1), .int (nI ks)].set 4 (.int (nI (ks + 1))) = [.int (nI R.1), .int (nI tw), .int (nI R.2.1), .int (nI R.2.2.1), .int (nI (ks + 1))] := rfl
  rw [ee, gI_ob g1 rfl, some_bind']
  have k1 : pV (w.set 11 (.inr (9, [.int (nI R.1), .int (nI tw), .int (nI R.2.1), .int (nI R.2.2.1), .int (nI (ks + 1))]))) 9 11 1 (.int (nI tw + nI a1)) = some ((w.set 11 (.inr (9, [.int (nI R.1), .int (nI tw), .int (nI R.2.1), .int (nI R.2.2.1), .int (nI (ks + 1))]))).set 11 (.inr (9, [.int (nI R.1), .int (nI (tw + a1)), .int (nI R.2.1), .int (nI R.2.2.1), .int (nI (ks + 1))]))) := by
    rw [nI_add, pV_ob g1 (by simp)]; rfl
  by_cases q : v8 = 0
  · rw [if_pos q] at e1; rw [← e1] at k1; rw [if_pos q, k2 _ _ _ _ _ k1]
  · rw [if_neg q] at e1; rw [← e1] at k1; rw [if_neg q, k2 _ _ _ _ _ k1]
def ofE (t : Nat) : Nat := if t ≤ 1 then 0 else 1
theorem weave_91 (hfu : 2000 ≤ fu) (h : WC w tw ks R) (hB : RB R 1) (hof : R.2.2.2.2 ≤ 1) {t : Nat} (ht : t < 3) (hl : 2 ≤ lf ∨ (1 ≤ lf ∧ t ≠ 1)) : ∃ w', f_X9_weave_91 fu lr w 11 h1 h2 (nI i) (nI j) (nI R.2.2.2.1) (nI (1 - R.2.2.2.2)) (nI lf) (cmpV t) = lr w' 11 h1 h2 (nI (i + if t ≤ 1 then 1 else 0)) (nI (j + if 1 ≤ t then 1 else 0)) (nI (rGo (ofE t) R).2.2.2.1) (nI (1 - ofE t)) (nI (lf - if t = 1 then 2 else 1)) ∧ WC w' (tw + if t = 1 then 1 else 0) (ks + 1) (rGo (ofE t) R) ∧ Chg [11] w w' := by
  have e1 : (if cmpV t = 0 then (1 : Int32) else 0) = nI (if t = 1 then 1 else 0) ∧ (if 0 < cmpV t then (0 : Int32) else 1) = nI (if t ≤ 1 then 1 else 0) ∧ (if cmpV t < 0 then (0 : Int32) else 1) = nI (if 1 ≤ t then 1 else 0) ∧ (if cmpV t = 0 then (2 : Int32) else 1) = nI (if t = 1 then 2 else 1) ∧ (if 0 < cmpV t then (0 : Int32) else 1) = nI (1 - ofE t) := by
    have : t = 0 ∨ t = 1 ∨ t = 2 := by omega
    rcases this with rfl | rfl | rfl <;> decide
  obtain ⟨e1, e2, e3, e4, e5⟩ := e1
  have hl2 : (if t = 1 then 2 else 1) ≤ lf := by split <;> omega
  have ho : ofE t ≤ 1 := by unfold ofE; split <;> omega
  have k0 : f_X9_weave_91 fu lr w 11 h1 h2 (nI i) (nI j) (nI R.2.2.2.1) (nI (1 - R.2.2.2.2)) (nI lf) (cmpV t) = f_X9_weave_105 fu lr w 11 h1 h2 (nI i) (nI j) (nI R.2.2.2.1) (nI (1 - R.2.2.2.2)) (nI lf) (cmpV t) (nI (1 - R.2.2.2.2)) (nI (1 - ofE t)) := by
    rw [f_X9_weave_91, bnd_eq]
    by_cases q : 0 < cmpV t
    · rw [if_pos q] at e5; rw [if_pos q, ← e5]
    · rw [if_neg q] at e5; rw [if_neg q, ← e5]
  rw [k0, f_X9_weave_105]
  by_cases c : R.2.2.2.2 = ofE t
  · obtain ⟨w', g1, g2, g3⟩ := weave_129 (fu := fu) (lr := lr) (h1 := h1) (h2 := h2) (i := i) (j := j) (lf := lf) h (run := R.2.2.2.1) (v6 := nI (1 - R.2.2.2.2)) e1 e2 e3 e4 hl2
    have er : rGo (ofE t) R = (R.1, R.2.1, R.2.2.1, R.2.2.2.1 + 1, ofE t) := by unfold rGo; rw [if_pos c.symm]
    rw [if_pos (by rw [c]), g1, er, c]
    exact ⟨w', rfl, g2, g3⟩
  · obtain ⟨w1, k1, k2, k3⟩ := endRun_ok hfu h ⟨hB.1, by have := hB.2; omega⟩
    obtain ⟨w', g1, g2, g3⟩ := weave_129 (fu := fu) (lr := lr) (h1 := h1) (h2 := h2) (i := i) (j := j) (lf := lf) k2 (run := 0) (v6 := nI (1 - ofE t)) e1 e2 e3 e4 hl2
    have er : rGo (ofE t) R = ((rEnd R).1, (rEnd R).2.1, (rEnd R).2.2.1, 1, ofE t) := by unfold rGo; rw [if_neg (Ne.symm c)]
    rw [if_neg (fun q => by have := (nI_eq (by omega) (by omega)).mp q; omega), cl_ob h, k1, some_bind', bnd_eq, er]
    refine ⟨w', ?_, g2, k3.tr g3⟩
    by_cases q : 0 < cmpV t
    · rw [if_pos q] at e5; rw [← e5] at g1; rw [if_pos q, bnd_eq, ← e5]; exact g1
    · rw [if_neg q] at e5; rw [← e5] at g1; rw [if_neg q, bnd_eq, ← e5]; exact g1
end W
theorem drop_len {L : List Nat} {i : Nat} (h : L.length ≤ i) : L.drop i = [] := List.drop_eq_nil_of_le h
theorem evs_c1 {L M : List Nat} {i j : Nat} (hi : L.length ≤ i) (hj : j < M.length) : evs (L.drop i) (M.drop j) = 2 :: evs (L.drop i) (M.drop (j + 1)) := by
  rw [drop_len hi, drop_cons hj, evs]
theorem evs_c2 {L M : List Nat} {i j : Nat} (hi : i < L.length) (hj : M.length ≤ j) : evs (L.drop i) (M.drop j) = 0 :: evs (L.drop (i + 1)) (M.drop j) := by
  rw [drop_len hj, drop_cons hi, evs]
theorem evs_c3 {L M : List Nat} {i j : Nat} (hi : i < L.length) (hj : j < M.length) : evs (L.drop i) (M.drop j) = if nth L i / 2 < nth M j / 2 then 0 :: evs (L.drop (i + 1)) (M.drop j) else if nth L i / 2 = nth M j / 2 then 1 :: evs (L.drop (i + 1)) (M.drop (j + 1)) else 2 :: evs (L.drop i) (M.drop (j + 1)) := by
  rw [drop_cons hi, drop_cons hj, evs]
theorem weave_loop {fu h1 e1 h2 e2 : Nat} (hfu : 2000 ≤ fu) (d1 : 11 < h1) (d2 : 11 < e1) (d3 : 11 < h2) (d4 : 11 < e2) {L M : List Nat} {fg fg2 : Int32} (S : SOK L) (S2 : SOK M) : ∀ N i j tw ks R w, HA w h1 e1 L fg → HA w h2 e2 M fg2 → WC w tw ks R → RB R ((L.length - i) + (M.length - j)) → R.2.2.2.2 ≤ 1 → i ≤ L.length → j ≤ M.length → (L.length - i) + (M.length - j) < N → ∃ w', f_X9_weave_47 fu N w 11 h1 h2 (nI i) (nI j) (nI R.2.2.2.1) (nI (1 - R.2.2.2.2)) (nI ((L.length - i) + (M.length - j))) = some w' ∧ WC w' (tw + (evs (L.drop i) (M.drop j)).count 1) (ks + (evs (L.drop i) (M.drop j)).length) (rAll (evs (L.drop i) (M.drop j)) R) ∧ Chg [11] w w' := by
  have l1 := S.len
  have l2 := S2.len
  intro N
  induction N with
  | zero => intro i j tw ks R w _ _ _ _ _ _ _ hN; omega
  | succ N ih =>
    intro i j tw ks R w H1 H2 h hB hof hi hj hN
    rw [f_X9_weave_47]
    by_cases c0 : (L.length - i) + (M.length - j) = 0
    · obtain ⟨w', g1, g2, g3⟩ := endRun_ok hfu h ⟨hB.1, by have := hB.2; omega⟩
      rw [c0, if_pos (by decide), cl_ob h, g1, some_bind', drop_len (by omega), drop_len (by omega), evs]
      exact ⟨w', rfl, g2, g3⟩
    · rw [if_neg (fun q => by have := (nI_le0 (by omega)).mp q; omega), gI_ob H1.2.1 rfl, some_bind']
      have step : ∀ t, t < 3 → (2 ≤ (L.length - i) + (M.length - j) ∨ t ≠ 1) → (i + if t ≤ 1 then 1 else 0) ≤ L.length → (j + if 1 ≤ t then 1 else 0) ≤ M.length → evs (L.drop i) (M.drop j) = t :: evs (L.drop (i + if t ≤ 1 then 1 else 0)) (M.drop (j + if 1 ≤ t then 1 else 0)) → ∃ w', f_X9_weave_91 fu (f_X9_weave_47 fu N) w 11 h1 h2 (nI i) (nI j) (nI R.2.2.2.1) (nI (1 - R.2.2.2.2)) (nI ((L.length - i) + (M.length - j))) (cmpV t) = some w' ∧ WC w' (tw + (evs (L.drop i) (M.drop j)).count 1) (ks + (evs (L.drop i) (M.drop j)).length) (rAll (evs (L.drop i) (M.drop j)) R) ∧ Chg [11] w w' := by
        intro t ht hl hi2 hj2 he
        obtain ⟨w1, g1, g2, g3⟩ := weave_91 (fu := fu) (lr := f_X9_weave_47 fu N) (h1 := h1) (h2 := h2) (i := i) (j := j) (lf := (L.length - i) + (M.length - j)) hfu h ⟨hB.1, by have := hB.2; omega⟩ hof ht (by omega)
        have hrem : (L.length - i) + (M.length - j) - (if t = 1 then 2 else 1) = (L.length - (i + if t ≤ 1 then 1 else 0)) + (M.length - (j + if 1 ≤ t then 1 else 0)) := by
          have : t = 0 ∨ t = 1 ∨ t = 2 := by omega
          rcases this with rfl | rfl | rfl <;> simp at hi2 hj2 ⊢ <;> omega
        have hlt : (L.length - (i + if t ≤ 1 then 1 else 0)) + (M.length - (j + if 1 ≤ t then 1 else 0)) < N := by
          rw [← hrem]; split <;> omega
        have hB2 : RB (rGo (ofE t) R) ((L.length - (i + if t ≤ 1 then 1 else 0)) + (M.length - (j + if 1 ≤ t then 1 else 0))) := by
          refine RB.go ⟨hB.1, ?_⟩ _
          have := hB.2
          rw [← hrem]
          split <;> omega
        have hof2 : (rGo (ofE t) R).2.2.2.2 ≤ 1 := by rw [rGo_of]; unfold ofE; split <;> omega
        obtain ⟨w2, k1, k2, k3⟩ := ih _ _ _ _ (rGo (ofE t) R) w1 (H1.chg g3 (by simp; omega) (by simp; omega)) (H2.chg g3 (by simp; omega) (by simp; omega)) g2 hB2 hof2 hi2 hj2 hlt
        rw [rGo_of] at k1
        rw [g1, hrem, k1]
        refine ⟨w2, rfl, ?_, g3.tr k3⟩
        rw [he, List.count_cons, List.length_cons]
        have e9 : rAll (t :: evs (L.drop (i + if t ≤ 1 then 1 else 0)) (M.drop (j + if 1 ≤ t then 1 else 0))) R = rAll (evs (L.drop (i + if t ≤ 1 then 1 else 0)) (M.drop (j + if 1 ≤ t then 1 else 0))) (rGo (ofE t) R) := rfl
        rw [e9]
        have ea : tw + (List.count 1 (evs (L.drop (i + if t ≤ 1 then 1 else 0)) (M.drop (j + if 1 ≤ t then 1 else 0))) + if (t == 1) = true then 1 else 0) = tw + (if t = 1 then 1 else 0) + List.count 1 (evs (L.drop (i + if t ≤ 1 then 1 else 0)) (M.drop (j + if 1 ≤ t then 1 else 0))) := by
          by_cases q : t = 1
          · simp [q]; omega
          · simp [q]
        rw [ea, show ks + ((evs (L.drop (i + if t ≤ 1 then 1 else 0)) (M.drop (j + if 1 ≤ t then 1 else 0))).length + 1) = ks + 1 + (evs (L.drop (i + if t ≤ 1 then 1 else 0)) (M.drop (j + if 1 ≤ t then 1 else 0))).length by omega]
        exact k2
      by_cases ci : L.length ≤ i
      · rw [if_neg (nI_nlt ci (by omega))]
        exact step 2 (by omega) (by omega) (by simp; omega) (by simp; omega) (evs_c1 ci (by omega))
      · rw [if_pos (nI_lt (by omega) (by omega)), gI_ob H2.2.1 rfl, some_bind']
        by_cases cj : M.length ≤ j
        · rw [if_neg (nI_nlt cj (by omega))]
          exact step 0 (by omega) (by omega) (by simp; omega) (by simp; omega) (evs_c2 (by omega) cj)
        · have b1 := S.lt (show i < L.length by omega)
          have b2 := S2.lt (show j < M.length by omega)
          have ec := evs_c3 (show i < L.length by omega) (show j < M.length by omega)
          rw [if_pos (nI_lt (by omega) (by omega)), H1.cl, keyAt_in H1 S (by omega), some_bind', H2.cl, keyAt_in H2 S2 (by omega), some_bind']
          by_cases q1 : nth L i / 2 < nth M j / 2
          · rw [if_pos q1] at ec
            rw [cmp_lt q1 (by omega)]
            exact step 0 (by omega) (by omega) (by simp; omega) (by simp; omega) ec
          · rw [if_neg q1] at ec
            by_cases q2 : nth L i / 2 = nth M j / 2
            · rw [if_pos q2] at ec
              rw [q2, cmp_eq]
              exact step 1 (by omega) (by omega) (by simp; omega) (by simp; omega) ec
            · rw [if_neg q2] at ec
              rw [cmp_gt (by omega) (by omega)]
              exact step 2 (by omega) (by omega) (by simp; omega) (by simp; omega) ec
/-- what the runs of two sets are -/
def rsOf (L M : List Nat) : RS := rAll (evs L M) (0, 0, 0, 0, 0)
theorem weave_ok {fu h1 e1 h2 e2 : Nat} (hfu : 2000 ≤ fu) (d1 : 11 < h1) (d2 : 11 < e1) (d3 : 11 < h2) (d4 : 11 < e2) {L M : List Nat} {fg fg2 : Int32} (S : SOK L) (S2 : SOK M) {w : MW} (H1 : HA w h1 e1 L fg) (H2 : HA w h2 e2 M fg2) (h : ∃ a b c d e, w[11]? = some (.inr (9, [.int a, .int b, .int c, .int d, .int e]))) : ∃ w', f_X9_weave fu w 11 h1 h2 = some w' ∧ WC w' (twN L M) (evs L M).length (rsOf L M) ∧ Chg [11] w w' := by
  have l1 := S.len
  have l2 := S2.len
  obtain ⟨a, b, c, d, e, h⟩ := h
  have g1 := get_set_eq (x := .inr (9, [.int 0, .int b, .int c, .int d, .int e])) h
  have g2 := get_set_eq (x := .inr (9, [.int 0, .int 0, .int c, .int d, .int e])) g1
  have g3 := get_set_eq (x := .inr (9, [.int 0, .int 0, .int 0, .int d, .int e])) g2
  have g4 := get_set_eq (x := .inr (9, [.int 0, .int 0, .int 0, .int 0, .int e])) g3
  have g5 := get_set_eq (x := .inr (9, [.int 0, .int 0, .int 0, .int 0, .int 0])) g4
  have ch : Chg [11] w _ := ((((Chg.st w (a := 11) (.inr (9, [.int 0, .int b, .int c, .int d, .int e])) (by simp)).tr (Chg.st _ (a := 11) (.inr (9, [.int 0, .int 0, .int c, .int d, .int e])) (by simp))).tr (Chg.st _ (a := 11) (.inr (9, [.int 0, .int 0, .int 0, .int d, .int e])) (by simp))).tr (Chg.st _ (a := 11) (.inr (9, [.int 0, .int 0, .int 0, .int 0, .int e])) (by simp))).tr (Chg.st _ (a := 11) (.inr (9, [.int 0, .int 0, .int 0, .int 0, .int 0])) (by simp))
  have H1' := H1.chg ch (by simp; omega) (by simp; omega)
  have H2' := H2.chg ch (by simp; omega) (by simp; omega)
  obtain ⟨w', k1, k2, k3⟩ := weave_loop hfu d1 d2 d3 d4 S S2 fu 0 0 0 0 (0, 0, 0, 0, 0) _ H1' H2' g5 ⟨by decide, by show 0 + _ ≤ 1000; omega⟩ (by decide) (by omega) (by omega) (by omega)
  refine ⟨w', ?_, ?_, ch.tr k3⟩
  · rw [f_X9_weave, pV_ob h (by simp), some_bind']
    dsimp only [List.set]
    rw [pV_ob g1 (by simp), some_bind']
    dsimp only [List.set]
    rw [pV_ob g2 (by simp), some_bind']
    dsimp only [List.set]
    rw [pV_ob g3 (by simp), some_bind']
    dsimp only [List.set]
    rw [pV_ob g4 (by simp), some_bind']
    dsimp only [List.set]
    rw [bnd_eq, bnd_eq, bnd_eq, bnd_eq, gI_ob H1'.2.1 rfl, some_bind', gI_ob H2'.2.1 rfl, some_bind', bnd_eq, nI_add]
    exact k1
  · rw [Nat.zero_add, Nat.zero_add] at k2
    have := (evs_len S S2).1
    rw [← this]
    exact k2
