/-! PAIR, CHEAPEST -/
section Q
variable {C : MW} {F : Nat → Int32} {v : Int64} {ar : Nat → Nat → Int32} {s : AS} {V : List AS} {n : Nat} {fu : Nat}
theorem k11_31 : ∀ k, k ∈ [11] → 1 ≤ k ∧ k < 31 := by decide
theorem pair_res (G : Good C F v ar s V n) (hfu : 20000 ≤ fu) (a b c : Int32) : Res C F ar s V (f_X10_pair fu (mW C F v ar) 0 a b c) (fun w => f_X11_pair fu w 123 a b c) := by
  have h := G.1.2.2.1
  have B := G.1.mb
  have O := G.1.2.2.2.1
  have hfu2 : 2000 ≤ fu := by omega
  have hfu3 : 100 ≤ fu := by omega
  rcases two_cases a b with ⟨t, o, ht, ho, hto, rfl, rfl⟩ | hab
  · have S := O.1 t ht
    have S2 := O.1 o ho
    have l1 := S.len
    have l2 := S2.len
    have hl := (evs_len S S2).2
    obtain ⟨w1, g1, g2, g3, g4, g5⟩ := cweave h G.2.1 O.1 hfu2 ht ho
    obtain ⟨C1, e1, e2, G1, e4⟩ := good_q G g5 k11_31 g3 g4
    subst e1
    have B1 := G1.1.mb
    obtain ⟨F1, k1, k2, k3⟩ := lays_ok (v := v) hfu2 ht ho B1
    have B2 : MB C1 F1 ar 0 s := B1.F B1.1 (k3 9 (by omega)) B1.2.2.2.1 O.1
    obtain ⟨a1, a2, a3, a4, a5, h11⟩ := G.2.1.2.1
    have cw : f_X7_weaveOf fu (mW C F v ar) 1 (13 + 2 * t) (13 + 2 * o) = some (11, mW C1 F v ar) := by
      rw [f_X7_weaveOf, h.wv, some_bind', cl_ob h11, g1, some_bind', g3.wv, some_bind']
    have fin : ∀ x, (∀ p : Option (Int32 × MW), p = some (x, mW C1 F v ar) → True) → f_X10_pair fu (mW C F v ar) 0 (nI t) (nI o) c = some (x, mW C1 F v ar) → f_X11_pair fu (mW C1 F v ar) 123 (nI t) (nI o) c = some (x, mW C1 F1 v ar) → Res C F ar s V (f_X10_pair fu (mW C F v ar) 0 (nI t) (nI o) c) (fun w => f_X11_pair fu w 123 (nI t) (nI o) c) := fun x _ hx hy => q_res G1 e4 hx hy (fun k hk => k3 k (by omega)) (fun _ _ => rfl)
    have cpre : f_X10_pair fu (mW C F v ar) 0 (nI t) (nI o) c = (if c = 0 then (gI (mW C1 F v ar) 9 11 0).bind fun x21 => some (x21, mW C1 F v ar) else if c = 1 then (gI (mW C1 F v ar) 9 11 1).bind fun x23 => some (x23, mW C1 F v ar) else if c = 2 then (gI (mW C1 F v ar) 9 11 2).bind fun x25 => some (x25, mW C1 F v ar) else if c = 3 then (gI (mW C1 F v ar) 9 11 4).bind fun x27 => (gI (mW C1 F v ar) 9 11 1).bind fun x28 => some ((x27 - x28), mW C1 F v ar) else if c = 4 then (gI (mW C1 F v ar) 9 11 3).bind fun x30 => some (x30, mW C1 F v ar) else if c = 5 then (gR (mW C1 F v ar) 10 0 0).bind fun x32 => (cl (mW C1 F v ar) 7 x32 (f_X7_whyNotJoin (mW C1 F v ar) x32 (13 + 2 * t) (13 + 2 * o))).bind fun q33 => if q33 = 0 then some ((1 : Int32), mW C1 F v ar) else some ((0 : Int32), mW C1 F v ar) else if c = 6 then (gR (mW C1 F v ar) 10 0 0).bind fun x37 => (cl (mW C1 F v ar) 7 x37 (f_X7_whyNotMelt (mW C1 F v ar) x37 (13 + 2 * o) 11)).bind fun q38 => if q38 = 0 then some ((1 : Int32), mW C1 F v ar) else some ((0 : Int32), mW C1 F v ar) else some ((-1 : Int32), mW C1 F v ar)) := by
      rw [f_X10_pair, G.st, some_bind', h.cl, heapAt_in h ht, some_bind']
      dsimp only
      rw [some_bind', h.cl, heapAt_in h ho, some_bind']
      dsimp only
      rw [if_neg (set_ne ht ho hto), some_bind', h.cl, cw, some_bind']
    have mpre : f_X11_pair fu (mW C1 F v ar) 123 (nI t) (nI o) c = (if c = 0 then (gI (mW C1 F1 v ar) 11 123 16).bind fun x8 => some (x8, mW C1 F1 v ar) else if c = 1 then (cl (mW C1 F1 v ar) 11 123 (f_X11_twins fu (mW C1 F1 v ar) 123 (nI t) (nI o))).bind fun q10 => some (q10, mW C1 F1 v ar) else if c = 2 then (gI (mW C1 F1 v ar) 11 123 17).bind fun x14 => some (x14, mW C1 F1 v ar) else if c = 3 then (cl (mW C1 F1 v ar) 11 123 (f_X11_many (mW C1 F1 v ar) 123 (nI t))).bind fun q16 => (cl (mW C1 F1 v ar) 11 123 (f_X11_many (mW C1 F1 v ar) 123 (nI o))).bind fun q19 => (cl (mW C1 F1 v ar) 11 123 (f_X11_twins fu (mW C1 F1 v ar) 123 (nI t) (nI o))).bind fun q22 => some (((q16 + q19) - ((2 : Int32) * q22)), mW C1 F1 v ar) else if c = 4 then (gI (mW C1 F1 v ar) 11 123 18).bind fun x26 => some (x26, mW C1 F1 v ar) else if c = 5 then (cl (mW C1 F1 v ar) 11 123 (f_X11_refusesJoin (mW C1 F1 v ar) 123 (nI t) (nI o))).bind fun q28 => if q28 = 0 then some ((1 : Int32), mW C1 F1 v ar) else some ((0 : Int32), mW C1 F1 v ar) else if c = 6 then (cl (mW C1 F1 v ar) 11 123 (f_X11_refusesMelt fu (mW C1 F1 v ar) 123 (nI t) (nI o))).bind fun q32 => if q32 = 0 then some ((1 : Int32), mW C1 F1 v ar) else some ((0 : Int32), mW C1 F1 v ar) else some ((-1 : Int32), mW C1 F1 v ar)) := by
      rw [f_X11_pair, B1.cl, mTwo_in ht ho hto, some_bind', if_neg (by decide), B1.cl, k1, some_bind']
    have tr : ∀ (x : Int32) (p : Option (Int32 × MW)), p = some (x, mW C1 F v ar) → True := fun _ _ _ => trivial
    by_cases d0 : c = 0
    · exact fin _ (tr _) (by rw [cpre, if_pos d0, gI_ob g2 rfl, some_bind']) (by rw [mpre, if_pos d0, m_gI B2.1 F1 v ar 16 rfl, some_bind', k2.1])
    by_cases d1 : c = 1
    · exact fin _ (tr _) (by rw [cpre, if_neg d0, if_pos d1, gI_ob g2 rfl, some_bind']) (by rw [mpre, if_neg d0, if_pos d1, B2.cl, twins_ok hfu3 ht ho B2, some_bind'])
    by_cases d2 : c = 2
    · exact fin _ (tr _) (by rw [cpre, if_neg d0, if_neg d1, if_pos d2, gI_ob g2 rfl, some_bind']) (by rw [mpre, if_neg d0, if_neg d1, if_pos d2, m_gI B2.1 F1 v ar 17 rfl, some_bind', k2.2.1])
    by_cases d3 : c = 3
    · have tl := twN_le (s.1 t) (s.1 o)
      have hle : twN (s.1 t) (s.1 o) ≤ (evs (s.1 t) (s.1 o)).length := by
        rw [← (evs_len S S2).1]; exact List.count_le_length
      refine fin (nI ((evs (s.1 t) (s.1 o)).length - twN (s.1 t) (s.1 o))) (tr _) ?_ ?_
      · rw [cpre, if_neg d0, if_neg d1, if_neg d2, if_pos d3, gI_ob g2 rfl, some_bind', gI_ob g2 rfl, some_bind', nI_sub hle]
      · rw [mpre, if_neg d0, if_neg d1, if_neg d2, if_pos d3, B2.cl, B2.many ht, some_bind', B2.cl, B2.many ho, some_bind', B2.cl, twins_ok hfu3 ht ho B2, some_bind', nI_add, show (2 : Int32) = nI 2 from rfl, nI_mul, nI_sub (by omega)]
        congr 3
        omega
    by_cases d4 : c = 4
    · exact fin _ (tr _) (by rw [cpre, if_neg d0, if_neg d1, if_neg d2, if_neg d3, if_pos d4, gI_ob g2 rfl, some_bind']) (by rw [mpre, if_neg d0, if_neg d1, if_neg d2, if_neg d3, if_pos d4, m_gI B2.1 F1 v ar 18 rfl, some_bind', k2.2.2.1])
    by_cases d5 : c = 5
    · have e : wOf (wJoin s t o) = 0 ↔ wJoin s t o = 0 := by
        rcases wJoin_v s t o with q | q | q | q <;> rw [q] <;> decide
      by_cases q : wJoin s t o = 0
      · exact fin 1 (tr _) (by rw [cpre, if_neg d0, if_neg d1, if_neg d2, if_neg d3, if_neg d4, if_pos d5, G1.st, some_bind', g3.cl, cwhy_ok g3 O ht ho, some_bind', if_pos q]) (by rw [mpre, if_neg d0, if_neg d1, if_neg d2, if_neg d3, if_neg d4, if_pos d5, B2.cl, mrJoin B2 ht ho hto, some_bind', if_pos (e.mpr q)])
      · exact fin 0 (tr _) (by rw [cpre, if_neg d0, if_neg d1, if_neg d2, if_neg d3, if_neg d4, if_pos d5, G1.st, some_bind', g3.cl, cwhy_ok g3 O ht ho, some_bind', if_neg q]) (by rw [mpre, if_neg d0, if_neg d1, if_neg d2, if_neg d3, if_neg d4, if_pos d5, B2.cl, mrJoin B2 ht ho hto, some_bind', if_neg (fun z => q (e.mp z))])
    by_cases d6 : c = 6
    · have hc := rs_cost S S2
      have e : wOf (xMelt s t o).1 = (if (s.1 o).length = 0 then 2 else if 60 < (evs (s.1 t) (s.1 o)).length then 4 else 0) := by
        unfold xMelt
        split
        · rw [wOf_2]
        · split
          · rw [wOf_4]
          · rw [wOf_n (by omega)]
      by_cases q1 : (s.1 o).length = 0
      · exact fin 0 (tr _) (by rw [cpre, if_neg d0, if_neg d1, if_neg d2, if_neg d3, if_neg d4, if_neg d5, if_pos d6, G1.st, some_bind', g3.cl, whyNot_ok g3 O.1 ht ho g2, some_bind', if_pos q1, if_neg (by decide)]) (by rw [mpre, if_neg d0, if_neg d1, if_neg d2, if_neg d3, if_neg d4, if_neg d5, if_pos d6, B2.cl, mrMelt B2 hfu3 ht ho hto, some_bind', e, if_pos q1, if_neg (by decide)])
      · by_cases q2 : 60 < (evs (s.1 t) (s.1 o)).length
        · exact fin 0 (tr _) (by rw [cpre, if_neg d0, if_neg d1, if_neg d2, if_neg d3, if_neg d4, if_neg d5, if_pos d6, G1.st, some_bind', g3.cl, whyNot_ok g3 O.1 ht ho g2, some_bind', if_neg q1, if_pos q2, if_neg (by decide)]) (by rw [mpre, if_neg d0, if_neg d1, if_neg d2, if_neg d3, if_neg d4, if_neg d5, if_pos d6, B2.cl, mrMelt B2 hfu3 ht ho hto, some_bind', e, if_neg q1, if_pos q2, if_neg (by decide)])
        · exact fin 1 (tr _) (by rw [cpre, if_neg d0, if_neg d1, if_neg d2, if_neg d3, if_neg d4, if_neg d5, if_pos d6, G1.st, some_bind', g3.cl, whyNot_ok g3 O.1 ht ho g2, some_bind', if_neg q1, if_neg q2, if_pos rfl]) (by rw [mpre, if_neg d0, if_neg d1, if_neg d2, if_neg d3, if_neg d4, if_neg d5, if_pos d6, B2.cl, mrMelt B2 hfu3 ht ho hto, some_bind', e, if_neg q1, if_neg q2, if_pos rfl])
    exact fin (-1) (tr _) (by rw [cpre, if_neg d0, if_neg d1, if_neg d2, if_neg d3, if_neg d4, if_neg d5, if_neg d6]) (by rw [mpre, if_neg d0, if_neg d1, if_neg d2, if_neg d3, if_neg d4, if_neg d5, if_neg d6])
  · refine q_res G (fun _ _ => rfl) (x := -1) ?_ (F' := F) (v' := v) (ar' := ar) ?_ (fun _ _ => rfl) (fun _ _ => rfl)
    · rw [f_X10_pair, G.st, some_bind', h.cl]
      rcases set_cases a with ⟨i, hi, rfl⟩ | ha
      · rw [heapAt_in h hi, some_bind']
        dsimp only
        rw [some_bind', h.cl]
        rcases set_cases b with ⟨j, hj, rfl⟩ | hb
        · rw [heapAt_in h hj, some_bind']
          dsimp only
          rw [if_pos]
          rcases hab with h | h | h
          · exact absurd ⟨(in_set hi).1, (in_set hi).2, trivial⟩ (out_not (P := True) h)
          · exact absurd ⟨(in_set hj).1, (in_set hj).2, trivial⟩ (out_not (P := True) h)
          · exact h
        · rw [heapAt_out hb, some_bind']
      · rw [heapAt_out ha, some_bind']
        dsimp only
        rw [some_bind', h.cl]
        rcases set_cases b with ⟨j, hj, rfl⟩ | hb
        · rw [heapAt_in h hj, some_bind']
        · rw [heapAt_out hb, some_bind']
    · rw [f_X11_pair, B.cl, mTwo_out hab, some_bind', if_pos rfl]
/-- the cheapest so far -/
abbrev ChT : Type := Option (Nat × Nat × Nat)
def chM (o t x : Nat) (c : ChT) : ChT := match c with
  | none => some (o, t, x)
  | some q => if x < q.2.2 then some (o, t, x) else some q
def chS (hs : Nat → List Nat) (o t : Nat) (c : ChT) : ChT :=
  if (hs o).length = 0 ∨ (hs t).length = 0 ∨ 60 < (evs (hs o) (hs t)).length then c
  else chM o t (rsOf (hs o) (hs t)).2.1 c
def cv1 (c : ChT) : Int32 := match c with | none => -1 | some q => nI q.1
def cv2 (c : ChT) : Int32 := match c with | none => -1 | some q => nI q.2.1
def cv3 (c : ChT) : Int32 := match c with | none => -1 | some q => nI q.2.2
def cvm (c : ChT) : Int32 := match c with | none => 0 | some q => nI q.2.2
def ChB (c : ChT) : Prop := match c with | none => True | some q => q.1 < 8 ∧ q.2.2 < 200000
def St1 (w : MW) (c : ChT) : Prop := w[1]? = some (.inr (7, [.ref 2, .ref 3, .ref 11, .ref 29, .ref 12, .int (cv1 c), .int (cv2 c), .int (cv3 c)]))
theorem CS.st1 {w : MW} {hs : Nat → List Nat} {fg : Nat → Int32} (h : CS w hs fg) {a b c : Int32} : CS (w.set 1 (.inr (7, [.ref 2, .ref 3, .ref 11, .ref 29, .ref 12, .int a, .int b, .int c]))) hs fg := by
  obtain ⟨⟨a0, b0, c0, h1⟩, ⟨f, h2, h3⟩, h4⟩ := h
  have ch := Chg.st (ks := [1]) w (a := 1) (.inr (7, [.ref 2, .ref 3, .ref 11, .ref 29, .ref 12, .int a, .int b, .int c])) (by simp)
  exact ⟨⟨a, b, c, get_set_eq h1⟩, ⟨f, ch.at (by simp) h2, h3⟩, fun i hi => (h4 i hi).chg ch (by simp; omega) (by simp; omega)⟩
theorem take_ok2 {w : MW} (h : CS w s.1 s.2) (Z : Sc w) (O : ∀ q, q < 8 → SOK (s.1 q)) {o t : Nat} (ho : o < 8) (ht : t < 8) {c : ChT} (hc : St1 w c) (hB : ChB c) (hW : WC w (twN (s.1 o) (s.1 t)) (evs (s.1 o) (s.1 t)).length (rsOf (s.1 o) (s.1 t))) (h0 : ¬ (s.1 o).length = 0) (h1 : ¬ (s.1 t).length = 0) : ∃ w', f_X7_takeIfCheaper w 1 (nI o) (nI t) = some w' ∧ CS w' s.1 s.2 ∧ Sc w' ∧ St1 w' (chS s.1 o t c) ∧ Chg [1] w w' := by
  have hcost := rs_cost (O o ho) (O t ht)
  have why := whyNot_ok h O ho ht hW
  rw [if_neg h1] at why
  unfold St1 at hc
  have no : f_X7_takeIfCheaper_27 w 1 (nI o) (nI t) 0 = some w := by
    rw [f_X7_takeIfCheaper_27, bnd_eq, if_pos rfl]
  have yes : ∃ w', f_X7_takeIfCheaper_27 w 1 (nI o) (nI t) 1 = some w' ∧ CS w' s.1 s.2 ∧ Sc w' ∧ St1 w' (if 60 < (evs (s.1 o) (s.1 t)).length then c else some (o, t, (rsOf (s.1 o) (s.1 t)).2.1)) ∧ Chg [1] w w' := by
    rw [f_X7_takeIfCheaper_27, bnd_eq, if_neg (by decide), h.arr, some_bind', h.heap ht, some_bind', h.wv, some_bind', h.cl, why, some_bind']
    by_cases q : 60 < (evs (s.1 o) (s.1 t)).length
    · rw [if_pos q, if_neg (by decide), if_pos q]
      exact ⟨w, rfl, h, Z, hc, Chg.rf _ _⟩
    · rw [if_neg q, if_pos rfl, if_neg q, pV_ob hc (by simp), some_bind']
      dsimp only [List.set]
      have c1 := get_set_eq (x := .inr (7, [.ref 2, .ref 3, .ref 11, .ref 29, .ref 12, .int (nI o), .int (cv2 c), .int (cv3 c)])) hc
      have H1 := h.st1 (a := nI o) (b := cv2 c) (c := cv3 c)
      rw [pV_ob c1 (by simp), some_bind']
      dsimp only [List.set]
      have c2 := get_set_eq (x := .inr (7, [.ref 2, .ref 3, .ref 11, .ref 29, .ref 12, .int (nI o), .int (nI t), .int (cv3 c)])) c1
      have H2 := H1.st1 (a := nI o) (b := nI t) (c := cv3 c)
      have ch2 := (Chg.st (ks := [1]) w (a := 1) (.inr (7, [.ref 2, .ref 3, .ref 11, .ref 29, .ref 12, .int (nI o), .int (cv2 c), .int (cv3 c)])) (by simp)).tr (Chg.st (ks := [1]) _ (a := 1) (.inr (7, [.ref 2, .ref 3, .ref 11, .ref 29, .ref 12, .int (nI o), .int (nI t), .int (cv3 c)])) (by simp))
      have W2 := ch2.at (k := 11) (by simp) hW
      rw [H2.wv, some_bind', gI_ob W2 rfl, some_bind', pV_ob c2 (by simp), some_bind']
      have ch3 := ch2.tr (Chg.st (ks := [1]) _ (a := 1) (.inr (7, [.ref 2, .ref 3, .ref 11, .ref 29, .ref 12, .int (nI o), .int (nI t), .int (nI (rsOf (s.1 o) (s.1 t)).2.1)])) (by simp))
      exact ⟨_, rfl, H2.st1, Z.chg ch3 (fun k hk => by simp at hk; omega), get_set_eq c2, ch3⟩
  rw [f_X7_takeIfCheaper, gI_ob hc rfl, some_bind']
  have e0 : chS s.1 o t c = if 60 < (evs (s.1 o) (s.1 t)).length then c else chM o t (rsOf (s.1 o) (s.1 t)).2.1 c := by
    unfold chS
    by_cases q : 60 < (evs (s.1 o) (s.1 t)).length
    · rw [if_pos q, if_pos (Or.inr (Or.inr q))]
    · rw [if_neg q, if_neg (fun z => z.elim h0 (fun z => z.elim h1 q))]
  cases c with
  | none =>
    rw [if_pos (by rfl), e0]
    exact yes
  | some q =>
    have hq : q.2.2 < 200000 := hB.2
    rw [if_neg (show ¬ cv3 (some q) = -1 from m1_ne q.2.2 (by omega)), h.wv, some_bind', gI_ob hW rfl, some_bind', some_bind', e0]
    show ∃ w', _ ∧ _ ∧ _ ∧ St1 w' (if 60 < (evs (s.1 o) (s.1 t)).length then some q else if (rsOf (s.1 o) (s.1 t)).2.1 < q.2.2 then some (o, t, (rsOf (s.1 o) (s.1 t)).2.1) else some q) ∧ _
    by_cases z : q.2.2 ≤ (rsOf (s.1 o) (s.1 t)).2.1
    · rw [if_pos (show cv3 (some q) ≤ _ from nI_le z (by omega)), if_neg (show ¬ (rsOf (s.1 o) (s.1 t)).2.1 < q.2.2 by omega), no]
      refine ⟨w, rfl, h, Z, ?_, Chg.rf _ _⟩
      split
      · exact hc
      · exact hc
    · rw [if_neg (show ¬ cv3 (some q) ≤ _ from nI_ge (by omega) (by omega)), if_pos (show (rsOf (s.1 o) (s.1 t)).2.1 < q.2.2 by omega)]
      exact yes
theorem chS_b {hs : Nat → List Nat} (O : ∀ q, q < 8 → SOK (hs q)) {o t : Nat} (ho : o < 8) (ht : t < 8) {c : ChT} (h : ChB c) : ChB (chS hs o t c) := by
  have hcost := rs_cost (O o ho) (O t ht)
  unfold chS
  split
  · exact h
  · cases c with
    | none => exact ⟨ho, hcost⟩
    | some q =>
      unfold chM
      dsimp only
      split
      · exact ⟨ho, hcost⟩
      · exact h
/-- all pairs from (o, t) on -/
def chI (hs : Nat → List Nat) (o : Nat) : Nat → Nat → ChT → ChT
  | _, 0, c => c
  | t, n + 1, c => chI hs o (t + 1) n (chS hs o t c)
def chO (hs : Nat → List Nat) : Nat → Nat → ChT → ChT
  | _, 0, c => c
  | o, n + 1, c => chO hs (o + 1) n (chI hs o (o + 1) (7 - o) c)
theorem chI_b {hs : Nat → List Nat} (O : ∀ q, q < 8 → SOK (hs q)) {o : Nat} (ho : o < 8) : ∀ n t c, t + n ≤ 8 → ChB c → ChB (chI hs o t n c)
  | 0, _, _, _, h => h
  | n + 1, t, c, ht, h => chI_b O ho n (t + 1) _ (by omega) (chS_b O ho (by omega) h)
theorem cfind_in (O : AOK s.1) (hfu : 2000 ≤ fu) {lr : MW → Nat → Int32 → Option MW} {o : Nat} (ho : o < 8) : ∀ N t c w, CS w s.1 s.2 → Sc w → St1 w c → ChB c → t ≤ 8 → 8 - t < N → ∃ w', f_X7_findCheapest_27 fu lr N w 1 (nI o) (nI t) = lr w' 1 (nI (o + 1)) ∧ CS w' s.1 s.2 ∧ Sc w' ∧ St1 w' (chI s.1 o t (8 - t) c) ∧ Chg [1, 11] w w' := by
  intro N
  induction N with
  | zero => intro t c w _ _ _ _ _ hN; omega
  | succ N ih =>
    intro t c w h Z hc hB ht hN
    rw [f_X7_findCheapest_27]
    by_cases c8 : 8 ≤ t
    · rw [if_pos (show (8 : Int32) ≤ nI t from nI_le (a := 8) c8 (by omega)), bnd_eq, nI_1, show 8 - t = 0 by omega]
      exact ⟨w, rfl, h, Z, hc, Chg.rf _ _⟩
    · have ht8 : t < 8 := by omega
      have l1 := (O.1 o ho).len
      have l2 := (O.1 t ht8).len
      have e8 : 8 - t = (8 - (t + 1)) + 1 := by omega
      have skip : chS s.1 o t c = c → ∃ w', f_X7_findCheapest_82 fu lr (f_X7_findCheapest_27 fu lr N) w 1 (nI o) (nI t) = lr w' 1 (nI (o + 1)) ∧ CS w' s.1 s.2 ∧ Sc w' ∧ St1 w' (chI s.1 o t (8 - t) c) ∧ Chg [1, 11] w w' := by
        intro e
        rw [f_X7_findCheapest_82, bnd_eq, nI_1, e8]
        show ∃ w', _ ∧ _ ∧ _ ∧ St1 w' (chI s.1 o (t + 1) (8 - (t + 1)) (chS s.1 o t c)) ∧ _
        rw [e]
        exact ih (t + 1) c w h Z hc hB (by omega) (by omega)
      rw [if_neg (show ¬ (8 : Int32) ≤ nI t from nI_ge (b := 8) ht8 (by omega)), h.arr, some_bind', h.heap ho, some_bind', gI_ob (h.ha ho).2.1 rfl, some_bind']
      by_cases z0 : (s.1 o).length = 0
      · rw [if_pos ((nI_le0 (by omega)).mpr z0)]
        exact skip (by unfold chS; rw [if_pos (Or.inl z0)])
      · rw [if_neg (fun q => z0 ((nI_le0 (by omega)).mp q)), some_bind', h.heap ht8, some_bind', gI_ob (h.ha ht8).2.1 rfl, some_bind']
        by_cases z1 : (s.1 t).length = 0
        · rw [if_pos ((nI_le0 (by omega)).mpr z1)]
          exact skip (by unfold chS; rw [if_pos (Or.inr (Or.inl z1))])
        · obtain ⟨w1, g1, g2, g3, g4, g5⟩ := cweave h Z O.1 hfu ho ht8
          have hc1 : St1 w1 c := g5.at (by simp) hc
          obtain ⟨w2, k1, k2, k3, k4, k5⟩ := take_ok2 g3 g4 O.1 ho ht8 hc1 hB g2 z0 z1
          obtain ⟨w3, m1, m2, m3, m4, m5⟩ := ih (t + 1) _ w2 k2 k3 k4 (chS_b O.1 ho ht8 hB) (by omega) (by omega)
          obtain ⟨a1, a2, a3, a4, a5, h11⟩ := Z.2.1
          rw [if_neg (fun q => z1 ((nI_le0 (by omega)).mp q)), h.wv, some_bind', some_bind', h.heap ho, some_bind', some_bind', h.heap ht8, some_bind', cl_ob h11, g1, some_bind', g3.cl, k1, some_bind', f_X7_findCheapest_82, bnd_eq, nI_1, m1, e8]
          exact ⟨w3, rfl, m2, m3, m4, ((g5.mono (by simp)).tr (k5.mono (by simp))).tr m5⟩
theorem cfind_out (O : AOK s.1) (hfu : 2000 ≤ fu) : ∀ N o c w, CS w s.1 s.2 → Sc w → St1 w c → ChB c → o ≤ 8 → 8 - o < N → ∃ w', f_X7_findCheapest_17 fu N w 1 (nI o) = some w' ∧ CS w' s.1 s.2 ∧ Sc w' ∧ St1 w' (chO s.1 o (8 - o) c) ∧ Chg [1, 11] w w' := by
  intro N
  induction N with
  | zero => intro o c w _ _ _ _ _ hN; omega
  | succ N ih =>
    intro o c w h Z hc hB ho hN
    rw [f_X7_findCheapest_17]
    by_cases c8 : 8 ≤ o
    · rw [if_pos (show (8 : Int32) ≤ nI o from nI_le (a := 8) c8 (by omega)), show 8 - o = 0 by omega]
      exact ⟨w, rfl, h, Z, hc, Chg.rf _ _⟩
    · have ho8 : o < 8 := by omega
      obtain ⟨w1, g1, g2, g3, g4, g5⟩ := cfind_in (lr := f_X7_findCheapest_17 fu N) O hfu ho8 fu (o + 1) c w h Z hc hB (by omega) (by omega)
      rw [show 8 - (o + 1) = 7 - o by omega] at g4
      obtain ⟨w2, k1, k2, k3, k4, k5⟩ := ih (o + 1) _ w1 g2 g3 g4 (chI_b O.1 ho8 _ _ _ (by omega) hB) (by omega) (by omega)
      rw [if_neg (show ¬ (8 : Int32) ≤ nI o from nI_ge (b := 8) ho8 (by omega)), bnd_eq, nI_1, g1, k1, show 8 - o = (8 - (o + 1)) + 1 by omega]
      exact ⟨w2, rfl, k2, k3, k4, g5.tr k5⟩
theorem mfind_in (hfu : 2000 ≤ fu) {lr : MW → Nat → Int32 → Int32 → Int32 → Int32 → Int32 → Option (Int32 × MW)} {what : Int32} {o : Nat} (ho : o < 8) : ∀ N t c F, MB C F ar 0 s → ChB c → t ≤ 8 → o < t → 8 - t < N → ∃ F', f_X11_cheapest_23 fu lr N (mW C F v ar) 123 what (cv1 c) (cv2 c) (cvm c) (nI o) (nI t) = lr (mW C F' v ar) 123 what (cv1 (chI s.1 o t (8 - t) c)) (cv2 (chI s.1 o t (8 - t) c)) (cvm (chI s.1 o t (8 - t) c)) (nI (o + 1)) ∧ FS F F' := by
  intro N
  induction N with
  | zero => intro t c F _ _ _ _ hN; omega
  | succ N ih =>
    intro t c F B hB ht hot hN
    rw [f_X11_cheapest_23]
    by_cases c8 : 8 ≤ t
    · rw [if_pos (show (8 : Int32) ≤ nI t from nI_le (a := 8) c8 (by omega)), bnd_eq, nI_1, show 8 - t = 0 by omega]
      exact ⟨F, rfl, fun _ _ => rfl⟩
    · have ht8 : t < 8 := by omega
      have hto : o ≠ t := by omega
      have S := B.2.2.2.2 o ho
      have S2 := B.2.2.2.2 t ht8
      have l1 := S.len
      have l2 := S2.len
      have hcost := rs_cost S S2
      have e8 : 8 - t = (8 - (t + 1)) + 1 := by omega
      have nx : ∀ F1 c', FS F F1 → c' = chS s.1 o t c → ∃ F', f_X11_cheapest_90 fu lr (f_X11_cheapest_23 fu lr N) (mW C F1 v ar) 123 what (cv1 c') (cv2 c') (cvm c') (nI o) (nI t) = lr (mW C F' v ar) 123 what (cv1 (chI s.1 o t (8 - t) c)) (cv2 (chI s.1 o t (8 - t) c)) (cvm (chI s.1 o t (8 - t) c)) (nI (o + 1)) ∧ FS F F' := by
        intro F1 c' hF hc'
        subst hc'
        obtain ⟨F2, k1, k2⟩ := ih (t + 1) (chS s.1 o t c) F1 (B.F B.1 (hF 9 (by omega)) B.2.2.2.1 B.2.2.2.2) (chS_b B.2.2.2.2 ho ht8 hB) (by omega) (by omega) (by omega)
        rw [f_X11_cheapest_90, bnd_eq, nI_1, k1, e8]
        exact ⟨F2, rfl, hF.tr k2⟩
      have e : wOf (xMelt s o t).1 = (if (s.1 t).length = 0 then 2 else if 60 < (evs (s.1 o) (s.1 t)).length then 4 else 0) := by
        unfold xMelt
        split
        · rw [wOf_2]
        · split
          · rw [wOf_4]
          · rw [wOf_n (by omega)]
      rw [if_neg (show ¬ (8 : Int32) ≤ nI t from nI_ge (b := 8) ht8 (by omega)), B.cl, B.many ho, some_bind']
      by_cases z0 : (s.1 o).length = 0
      · rw [if_pos ((nI_eq0 (by omega)).mpr z0)]
        exact nx F c (fun _ _ => rfl) (by unfold chS; rw [if_pos (Or.inl z0)])
      · rw [if_neg (fun q => z0 ((nI_eq0 (by omega)).mp q)), B.cl, mrMelt B (by omega) ho ht8 hto, some_bind', e]
        by_cases z1 : (s.1 t).length = 0
        · rw [if_pos z1, if_neg (by decide)]
          exact nx F c (fun _ _ => rfl) (by unfold chS; rw [if_pos (Or.inr (Or.inl z1))])
        · rw [if_neg z1]
          by_cases z2 : 60 < (evs (s.1 o) (s.1 t)).length
          · rw [if_pos z2, if_neg (by decide)]
            exact nx F c (fun _ _ => rfl) (by unfold chS; rw [if_pos (Or.inr (Or.inr z2))])
          · obtain ⟨F1, g1, g2, g3⟩ := lays_ok (v := v) hfu ho ht8 B
            rw [if_neg z2, if_pos (by decide), B.cl, g1, some_bind']
            have ech : chS s.1 o t c = chM o t (rsOf (s.1 o) (s.1 t)).2.1 c := by
              unfold chS
              rw [if_neg (fun z => z.elim z0 (fun z => z.elim z1 z2))]
            have k78 : f_X11_cheapest_78 fu lr (f_X11_cheapest_23 fu lr N) (mW C F1 v ar) 123 what (nI o) (nI t) = f_X11_cheapest_90 fu lr (f_X11_cheapest_23 fu lr N) (mW C F1 v ar) 123 what (cv1 (some (o, t, (rsOf (s.1 o) (s.1 t)).2.1))) (cv2 (some (o, t, (rsOf (s.1 o) (s.1 t)).2.1))) (cvm (some (o, t, (rsOf (s.1 o) (s.1 t)).2.1))) (nI o) (nI t) := by
              rw [f_X11_cheapest_78, bnd_eq, bnd_eq, m_gI B.1 F1 v ar 17 rfl, some_bind', bnd_eq, g2.2.1]; rfl
            cases c with
            | none =>
              rw [if_pos (by rfl), k78]
              exact nx F1 _ g3 ech.symm
            | some q =>
              have hq := hB.2
              have hq1 := hB.1
              rw [if_neg (show ¬ cv1 (some q) = -1 from m1_ne q.1 (by omega)), m_gI B.1 F1 v ar 17 rfl, some_bind', g2.2.1]
              by_cases z : (rsOf (s.1 o) (s.1 t)).2.1 < q.2.2
              · rw [if_pos (show nI _ < cvm (some q) from nI_lt z (by omega)), k78]
                exact nx F1 _ g3 (by rw [ech]; unfold chM; dsimp only; rw [if_pos z])
              · rw [if_neg (show ¬ nI _ < cvm (some q) from nI_nlt (by omega) (by omega))]
                exact nx F1 _ g3 (by rw [ech]; unfold chM; dsimp only; rw [if_neg z])
/-- the model's answer -/
def chA (what : Int32) (c : ChT) : Int32 := if cv1 c = -1 then -1 else if what = 0 then cv1 c else if what = 1 then cv2 c else if what = 2 then cvm c else -1
theorem mfind_out (hfu : 2000 ≤ fu) {what : Int32} : ∀ N o c F, MB C F ar 0 s → ChB c → o ≤ 8 → 8 - o < N → ∃ F', f_X11_cheapest_10 fu N (mW C F v ar) 123 what (cv1 c) (cv2 c) (cvm c) (nI o) = some (chA what (chO s.1 o (8 - o) c), mW C F' v ar) ∧ FS F F' := by
  intro N
  induction N with
  | zero => intro o c F _ _ _ hN; omega
  | succ N ih =>
    intro o c F B hB ho hN
    rw [f_X11_cheapest_10]
    by_cases c8 : 8 ≤ o
    · rw [if_pos (show (8 : Int32) ≤ nI o from nI_le (a := 8) c8 (by omega)), show 8 - o = 0 by omega]
      refine ⟨F, ?_, fun _ _ => rfl⟩
      show _ = some (chA what c, _)
      unfold chA
      by_cases q : cv1 c = -1
      · rw [if_pos q, if_pos q]
      · rw [if_neg q, if_neg q]
        by_cases q0 : what = 0
        · rw [if_pos q0, if_pos q0]
        · rw [if_neg q0, if_neg q0]
          by_cases q1 : what = 1
          · rw [if_pos q1, if_pos q1]
          · rw [if_neg q1, if_neg q1]
            by_cases q2 : what = 2
            · rw [if_pos q2, if_pos q2]
            · rw [if_neg q2, if_neg q2]
    · have ho8 : o < 8 := by omega
      obtain ⟨F1, g1, g2⟩ := mfind_in (v := v) (lr := f_X11_cheapest_10 fu N) (what := what) hfu ho8 fu (o + 1) c F B hB (by omega) (by omega) (by omega)
      rw [show 8 - (o + 1) = 7 - o by omega] at g1
      obtain ⟨F2, k1, k2⟩ := ih (o + 1) (chI s.1 o (o + 1) (7 - o) c) F1 (B.F B.1 (g2 9 (by omega)) B.2.2.2.1 B.2.2.2.2) (chI_b B.2.2.2.2 ho8 _ _ _ (by omega) hB) (by omega) (by omega)
      rw [if_neg (show ¬ (8 : Int32) ≤ nI o from nI_ge (b := 8) ho8 (by omega)), bnd_eq, nI_1, g1, k1, show 8 - o = (8 - (o + 1)) + 1 by omega]
      exact ⟨F2, rfl, g2.tr k2⟩
theorem chO_b {hs : Nat → List Nat} (O : ∀ q, q < 8 → SOK (hs q)) : ∀ n o c, o + n ≤ 8 → ChB c → ChB (chO hs o n c)
  | 0, _, _, _, h => h
  | n + 1, o, c, ho, h => chO_b O n (o + 1) _ (by omega) (chI_b O (by omega) _ _ _ (by omega) h)
theorem k111_31 : ∀ k, k ∈ [1, 11] → 1 ≤ k ∧ k < 31 := by decide
theorem cheapest_res (G : Good C F v ar s V n) (hfu : 20000 ≤ fu) (what : Int32) : Res C F ar s V (f_X10_cheapest fu (mW C F v ar) 0 what) (fun w => f_X11_cheapest fu w 123 what) := by
  have h := G.1.2.2.1
  have O := G.1.2.2.2.1
  have hfu2 : 2000 ≤ fu := by omega
  obtain ⟨a, b, c, h1⟩ := id h.1
  have c1 := get_set_eq (x := .inr (7, [.ref 2, .ref 3, .ref 11, .ref 29, .ref 12, .int (-1), .int b, .int c])) h1
  have c2 := get_set_eq (x := .inr (7, [.ref 2, .ref 3, .ref 11, .ref 29, .ref 12, .int (-1), .int (-1), .int c])) c1
  have c3 := get_set_eq (x := .inr (7, [.ref 2, .ref 3, .ref 11, .ref 29, .ref 12, .int (-1), .int (-1), .int (-1)])) c2
  have ch := ((Chg.st (ks := [1]) (mW C F v ar) (a := 1) (.inr (7, [.ref 2, .ref 3, .ref 11, .ref 29, .ref 12, .int (-1), .int b, .int c])) (by simp)).tr (Chg.st (ks := [1]) _ (a := 1) (.inr (7, [.ref 2, .ref 3, .ref 11, .ref 29, .ref 12, .int (-1), .int (-1), .int c])) (by simp))).tr (Chg.st (ks := [1]) _ (a := 1) (.inr (7, [.ref 2, .ref 3, .ref 11, .ref 29, .ref 12, .int (-1), .int (-1), .int (-1)])) (by simp))
  obtain ⟨w1, g1, g2, g3, g4, g5⟩ := cfind_out (fu := fu) O hfu2 fu 0 none _ ((h.st1).st1).st1 (G.2.1.chg ch (fun k hk => by simp at hk; omega)) c3 trivial (by omega) (by omega)
  obtain ⟨C1, e1, e2, G1, e4⟩ := good_q G ((ch.mono (by simp)).tr g5) k111_31 g2 g3
  subst e1
  obtain ⟨F1, k1, k2⟩ := mfind_out (v := v) (what := what) hfu2 fu 0 none F G1.1.mb trivial (by omega) (by omega)
  have hb := chO_b (hs := s.1) O.1 8 0 none (by omega) trivial
  have cpre : f_X7_findCheapest fu (mW C F v ar) 1 = some (mW C1 F v ar) := by
    rw [f_X7_findCheapest, pV_ob h1 (by simp), some_bind']
    dsimp only [List.set]
    rw [pV_ob c1 (by simp), some_bind']
    dsimp only [List.set]
    rw [pV_ob c2 (by simp), some_bind']
    dsimp only [List.set]
    rw [bnd_eq]
    exact g1
  refine q_res G1 e4 (x := chA what (chO s.1 0 8 none)) ?_ (F' := F1) (v' := v) (ar' := ar) ?_ (fun k hk => k2 k (by omega)) (fun _ _ => rfl)
  · rw [f_X10_cheapest, G.st, some_bind', h.cl, cpre, some_bind', G1.st, some_bind', gI_ob g4 rfl, some_bind']
    show _ = some (chA what (chO s.1 0 (8 - 0) none), _)
    rw [show 8 - 0 = 8 from rfl] at g4 ⊢
    unfold chA
    cases hq : chO s.1 0 8 none with
    | none =>
      rw [hq] at g4
      rw [if_pos (show cv1 none = -1 from rfl)]
      by_cases q0 : what = 0
      · rw [if_pos q0]; rfl
      · rw [if_neg q0]
        by_cases q1 : what = 1
        · rw [if_pos q1, some_bind', gI_ob g4 rfl, some_bind']; rfl
        · rw [if_neg q1]
          by_cases q2 : what = 2
          · rw [if_pos q2, some_bind', gI_ob g4 rfl, some_bind']; rfl
          · rw [if_neg q2]
    | some z =>
      rw [hq] at g4 hb
      have hz := hb.1
      rw [if_neg (show ¬ cv1 (some z) = -1 from m1_ne z.1 (by omega))]
      by_cases q0 : what = 0
      · rw [if_pos q0, if_pos q0]
      · rw [if_neg q0, if_neg q0]
        by_cases q1 : what = 1
        · rw [if_pos q1, if_pos q1, some_bind', gI_ob g4 rfl, some_bind']
        · rw [if_neg q1, if_neg q1]
          by_cases q2 : what = 2
          · rw [if_pos q2, if_pos q2, some_bind', gI_ob g4 rfl, some_bind']; rfl
          · rw [if_neg q2, if_neg q2]
  · rw [f_X11_cheapest, bnd_eq, bnd_eq, bnd_eq, bnd_eq]
    exact k1
end Q
