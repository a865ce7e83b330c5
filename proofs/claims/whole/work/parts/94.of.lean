/-! FAR, OF -/
theorem ParV_u {P : Nat → Nat} {n x : Nat} {u u' : Int32} (hinj : ∀ i j, i < n → j < n → P i = P j → i = j) (h : ParV P n x u) (g : ParV P n x u') : u = u' := by
  rcases h with ⟨h1, h2⟩ | ⟨y, h1, h2, h3, h4, h5⟩
  · rcases g with ⟨g1, g2⟩ | ⟨z, g1, g2, g3, g4, g5⟩
    · rw [h1, g1]
    · exact absurd g4 (h2 z g2 g3)
  · rcases g with ⟨g1, g2⟩ | ⟨z, g1, g2, g3, g4, g5⟩
    · exact absurd h4 (g2 y h2 h3)
    · have e1 := anc_le (h5 z g2 g3 g4)
      have e2 := anc_le (g5 y h2 h3 h4)
      rw [h1, g1, hinj y z h2 g2 (by omega)]
/-- the key at a place, or none -/
def kV (K : List Nat) (u x : Int32) : Prop := (u = -1 ∧ x = -1) ∨ ∃ y, y < K.length ∧ u = nI y ∧ x = nI (nth K y)
theorem ckeyOf {w : MW} {K : List Nat} (T : TOK w K) (hl : K.length ≤ 61) {u x : Int32} (h : kV K u x) : f_X8_keyOf w 3 u = some x := by
  rcases h with ⟨h1, h2⟩ | ⟨y, h1, h2, h3⟩
  · rw [f_X8_keyOf, T.cl, h1, isNode_m1, some_bind', if_pos rfl, h2]
  · rw [f_X8_keyOf, T.cl, h2, isNode_in T h1 hl, some_bind', if_neg (by decide)]
    obtain ⟨ar, rt, t, t1, t2, t3⟩ := T
    rw [t.r0, some_bind', t.a0 (by omega), some_bind', t1 y h1, h3]
theorem mkeyOf {C : MW} (hC : C.length = 123) {F : Nat → Int32} {v : Int64} {ar : Nat → Nat → Int32} {K : List Nat} (hK : RH ar K) (hl : K.length ≤ 61) {u x : Int32} (h : kV K u x) : f_X11_keyOf (mW C F v ar) 123 u = some x := by
  rcases h with ⟨h1, h2⟩ | ⟨y, h1, h2, h3⟩
  · rw [f_X11_keyOf, if_pos h1, h2]
  · rw [f_X11_keyOf, h2, if_neg (m1_ne y (by omega)), m_gR hC F v ar 10 rfl, some_bind', m_a4 hC F v ar (by omega), some_bind', hK y h1, h3]
theorem count_rng {n f e : Nat} (he : e ≤ n) (hf : f ≤ e) : (List.range n).countP (fun y => decide (f ≤ y) && decide (y < e)) = e - f := by
  induction n with
  | zero => rw [show e - f = 0 by omega]; rfl
  | succ n ih =>
    rw [List.range_succ, List.countP_append, List.countP_singleton]
    rcases Nat.lt_or_ge n e with c | c
    · have e1 : e = n + 1 := by omega
      subst e1
      by_cases q : f ≤ n
      · rw [if_pos (by simp [q])]
        have : (List.range n).countP (fun y => decide (f ≤ y) && decide (y < n + 1)) = n - f := by
          clear ih
          have key : ∀ m, m ≤ n → (List.range m).countP (fun y => decide (f ≤ y) && decide (y < n + 1)) = m - f := by
            intro m
            induction m with
            | zero => intro _; rw [show 0 - f = 0 by omega]; rfl
            | succ m ih =>
              intro hm
              rw [List.range_succ, List.countP_append, List.countP_singleton, ih (by omega)]
              by_cases z : f ≤ m
              · rw [if_pos (by simp [z]; omega)]; omega
              · rw [if_neg (by simp [z])]; omega
          exact key n (Nat.le_refl _)
        rw [this]; omega
      · rw [if_neg (by simp [q])]
        have : (List.range n).countP (fun y => decide (f ≤ y) && decide (y < n + 1)) = 0 := by
          rw [List.countP_eq_zero]
          intro y hy
          have := List.mem_range.mp hy
          simp; omega
        rw [this]; omega
    · rw [if_neg (by simp; omega), ih c]; rfl
theorem und_sub {P : Nat → Nat} {n f e x : Nat} (S : SubT P n f e) (hA : ArgM P f e x) : und P n x = e - 1 - f := by
  obtain ⟨a1, a2, a3⟩ := id hA
  have h1 := count_rng S.1 (show f ≤ e by omega)
  rw [countP_or' (q := fun z => decide (z = x)) (r := fun y => decide (y ≠ x) && ancB P x y) (List.range n) (fun z hz => ?_) (fun z _ => ?_), count_one (by have := S.1; omega)] at h1
  · unfold und; omega
  · have := sub_anc S hA (List.mem_range.mp hz)
    rw [Bool.eq_iff_iff, Bool.and_eq_true, Bool.or_eq_true, Bool.and_eq_true, decide_eq_true_eq, decide_eq_true_eq, decide_eq_true_eq, decide_eq_true_eq, ancB_iff, this]
    omega
  · rw [Bool.and_eq_true, decide_eq_true_eq, decide_eq_true_eq]
    rintro ⟨q1, q2, _⟩
    exact q2 q1
section Q
variable {C : MW} {F : Nat → Int32} {v : Int64} {ar : Nat → Nat → Int32} {s : AS} {V : List AS} {n : Nat} {fu : Nat}
theorem tks_31 : ∀ k, k ∈ tKs → 1 ≤ k ∧ k < 31 := by decide
theorem g_tree (G : Good C F v ar s V n) (hfu : 100 ≤ fu) {i : Nat} (hi : i < 8) : ∃ C1, f_X7_treeOf fu (mW C F v ar) 1 (13 + 2 * i) = some (3, mW C1 F v ar) ∧ TOK (mW C1 F v ar) (kys (s.1 i)) ∧ Good C1 F v ar s V n ∧ ∀ k, k ∉ actKs → C1[k]? = C[k]? := by
  obtain ⟨w', g1, g2, g3, g4, g5⟩ := treeOf_ok hfu G.1.2.2.1 G.2.1 G.1.2.2.2.1.1 hi
  obtain ⟨C1, e1, e2, e3, e4⟩ := good_q G g5 tks_31 g3 g4
  subst e1
  exact ⟨C1, g1, g2, e3, e4⟩
theorem far_res (G : Good C F v ar s V n) (hfu : 20000 ≤ fu) (a x y : Int32) : Res C F ar s V (f_X10_far fu (mW C F v ar) 0 a x y) (fun w => f_X11_far fu w 123 a x y) := by
  have h := G.1.2.2.1
  have B := G.1.mb
  have O := G.1.2.2.2.1
  have hfu2 : 100 ≤ fu := by omega
  have hfu3 : 200 ≤ fu := by omega
  rcases set_cases a with ⟨i, hi, rfl⟩ | ha
  · have S := O.1 i hi
    have l1 := S.len
    have KK := kys_ok S
    have hkl := kys_len (s.1 i)
    obtain ⟨C1, t1, t2, G1, t4⟩ := g_tree G hfu2 hi
    have h1 := G1.1.2.2.1
    have B1 := G1.1.mb
    have pre : ∀ z, f_X8_steps fu (mW C1 F v ar) 3 (plc (s.1 i) x) (plc (s.1 i) y) = some z → f_X10_far fu (mW C F v ar) 0 (nI i) x y = some (z, mW C1 F v ar) := fun z hz => by
      rw [f_X10_far, G.st, some_bind', h.cl, heapAt_in h hi, some_bind']
      dsimp only
      rw [some_bind', h.cl, t1, some_bind', (h1.ha hi).cl, rankOf_ok (h1.ha hi) S hfu2, some_bind', (h1.ha hi).cl, rankOf_ok (h1.ha hi) S hfu2, some_bind', t2.cl, hz, some_bind']
    by_cases c1 : plc (s.1 i) x = -1
    · refine q_res G1 t4 (pre (-1) ?_) (F' := F) (v' := v) (ar' := ar) ?_ (fun _ _ => rfl) (fun _ _ => rfl)
      · rw [f_X8_steps, t2.cl, c1, isNode_m1, some_bind', if_pos rfl]
      · rw [f_X11_far, mSet_in hi, if_neg (by decide), B1.cl, B1.place hi hfu2, some_bind', if_pos c1]
    · obtain ⟨p1, p2⟩ := plc_ne c1
      by_cases c2 : plc (s.1 i) y = -1
      · refine q_res G1 t4 (pre (-1) ?_) (F' := F) (v' := v) (ar' := ar) ?_ (fun _ _ => rfl) (fun _ _ => rfl)
        · rw [f_X8_steps, t2.cl, p2, isNode_in t2 (by omega) (by omega), some_bind', if_neg (by decide), t2.cl, c2, isNode_m1, some_bind', if_pos rfl]
        · rw [f_X11_far, mSet_in hi, if_neg (by decide), B1.cl, B1.place hi hfu2, some_bind', if_neg c1, B1.cl, B1.place hi hfu2, some_bind', if_pos c2]
      · obtain ⟨q1, q2⟩ := plc_ne c2
        obtain ⟨m, hm⟩ := argm_ex (pF (kys (s.1 i))) (min (bel (s.1 i) x) (bel (s.1 i) y)) (max (bel (s.1 i) x) (bel (s.1 i) y) + 1) (by omega)
        obtain ⟨g, k1, k2, k3⟩ := laysRow_ok (v := v) hi hfu2 B1
        obtain ⟨F2, m', k4, k5, k6⟩ := mfar_ok (v := v) (F := upd F 11 (nI (s.1 i).length)) B1.1 hfu3 KK k2 (by rw [upd_eq, hkl]) (i := bel (s.1 i) x) (j := bel (s.1 i) y) (by omega) (by omega)
        have em : m' = m := argm_u (fun p q hp hq e => KK.inj hp hq e) (by omega) k5 hm
        rw [em] at k4
        refine q_res G1 t4 (pre _ (by rw [p2, q2]; exact steps_ok hfu3 t2 KK (by omega) (by omega) hm)) (F' := F2) (v' := v) (ar' := ua ar 4 g) ?_ (fun k hk => by rw [k6 k (by omega), upd_ne _ _ (by omega)]) (fun k hk => ua_ne _ _ (by omega))
        rw [f_X11_far, mSet_in hi, if_neg (by decide), B1.cl, B1.place hi hfu2, some_bind', if_neg c1, B1.cl, B1.place hi hfu2, some_bind', if_neg c2, B1.cl, k1, some_bind', k3.cl, k3.place hi hfu2, some_bind', k3.cl, k3.place hi hfu2, some_bind', p2, q2, k3.cl, k4, some_bind']
  · refine q_res G (fun _ _ => rfl) (x := -1) ?_ (F' := F) (v' := v) (ar' := ar) ?_ (fun _ _ => rfl) (fun _ _ => rfl)
    · rw [f_X10_far, G.st, some_bind', h.cl, heapAt_out ha, some_bind']
    · rw [f_X11_far, mSet_out ha, if_pos rfl]
theorem of_res (G : Good C F v ar s V n) (hfu : 20000 ≤ fu) (a b c : Int32) : Res C F ar s V (f_X10_of fu (mW C F v ar) 0 a b c) (fun w => f_X11_of fu w 123 a b c) := by
  have h := G.1.2.2.1
  have B := G.1.mb
  have O := G.1.2.2.2.1
  have hfu2 : 100 ≤ fu := by omega
  have hfu3 : 200 ≤ fu := by omega
  rcases set_cases a with ⟨i, hi, rfl⟩ | ha
  · have S := O.1 i hi
    have l1 := S.len
    have KK := kys_ok S
    have hkl := kys_len (s.1 i)
    have hinj : ∀ p q, p < (kys (s.1 i)).length → q < (kys (s.1 i)).length → pF (kys (s.1 i)) p = pF (kys (s.1 i)) q → p = q := fun p q hp hq e => KK.inj hp hq e
    have pre0 : f_X10_of fu (mW C F v ar) 0 (nI i) b c = f_X10_of_25_1 fu (mW C F v ar) 0 b c (13 + 2 * i) (plc (s.1 i) b) := by
      rw [f_X10_of, G.st, some_bind', h.cl, heapAt_in h hi, some_bind']
      dsimp only
      rw [(h.ha hi).cl, rankOf_ok (h.ha hi) S hfu2, some_bind']
    by_cases c1 : plc (s.1 i) b = -1
    · refine q_res G (fun _ _ => rfl) (x := -1) ?_ (F' := F) (v' := v) (ar' := ar) ?_ (fun _ _ => rfl) (fun _ _ => rfl)
      · rw [pre0, f_X10_of_25_1, bnd_eq, if_pos c1]
      · rw [f_X11_of, mSet_in hi, if_neg (by decide), B.cl, B.place hi hfu2, some_bind', if_pos c1]
    · obtain ⟨p1, p2⟩ := plc_ne c1
      have hpk := key_eq S c1
      have hlt := S.lt p1
      obtain ⟨at_, hat⟩ : ∃ z, z = bel (s.1 i) b := ⟨_, rfl⟩
      rw [← hat] at p1 p2 hpk hlt
      -- the model's way, over any class's cells
      have mpre : ∀ C1, Good C1 F v ar s V n → ∃ g F2 f e, RH (ua ar 4 g) (kys (s.1 i)) ∧ WayOK (kys (s.1 i)) at_ F2 f e ∧ (∀ k, k < 11 ∨ 22 < k → F2 k = F k) ∧ MB C1 F2 (ua ar 4 g) 0 s ∧ f_X11_of fu (mW C1 F v ar) 123 (nI i) b c = (if c = 0 then some (nI at_, mW C1 F2 v (ua ar 4 g)) else if c = 1 then (cl (mW C1 F2 v (ua ar 4 g)) 11 123 (f_X11_markAt (mW C1 F2 v (ua ar 4 g)) 123 (nI i) (nI at_))).bind fun q16 => some (q16, mW C1 F2 v (ua ar 4 g)) else if c = 2 then (gI (mW C1 F2 v (ua ar 4 g)) 11 123 15).bind fun x20 => some (x20, mW C1 F2 v (ua ar 4 g)) else if c = 3 then (gI (mW C1 F2 v (ua ar 4 g)) 11 123 14).bind fun x22 => (cl (mW C1 F2 v (ua ar 4 g)) 11 123 (f_X11_keyOf (mW C1 F2 v (ua ar 4 g)) 123 x22)).bind fun q23 => some (q23, mW C1 F2 v (ua ar 4 g)) else if c = 4 then (gI (mW C1 F2 v (ua ar 4 g)) 11 123 12).bind fun x27 => (cl (mW C1 F2 v (ua ar 4 g)) 11 123 (f_X11_ahead fu (mW C1 F2 v (ua ar 4 g)) 123 x27 (nI at_ - (1 : Int32)))).bind fun q28 => (cl (mW C1 F2 v (ua ar 4 g)) 11 123 (f_X11_keyOf (mW C1 F2 v (ua ar 4 g)) 123 q28)).bind fun q31 => some (q31, mW C1 F2 v (ua ar 4 g)) else if c = 5 then (gI (mW C1 F2 v (ua ar 4 g)) 11 123 13).bind fun x35 => (cl (mW C1 F2 v (ua ar 4 g)) 11 123 (f_X11_ahead fu (mW C1 F2 v (ua ar 4 g)) 123 (nI at_ + (1 : Int32)) x35)).bind fun q36 => (cl (mW C1 F2 v (ua ar 4 g)) 11 123 (f_X11_keyOf (mW C1 F2 v (ua ar 4 g)) 123 q36)).bind fun q39 => some (q39, mW C1 F2 v (ua ar 4 g)) else if c = 6 then some ((f_X11_priority b), mW C1 F2 v (ua ar 4 g)) else if c = 7 then (gI (mW C1 F2 v (ua ar 4 g)) 11 123 13).bind fun x44 => (gI (mW C1 F2 v (ua ar 4 g)) 11 123 12).bind fun x45 => some ((x44 - x45), mW C1 F2 v (ua ar 4 g)) else some ((-1 : Int32), mW C1 F2 v (ua ar 4 g))) := by
        intro C1 G1
        have B1 := G1.1.mb
        obtain ⟨g, k1, k2, k3⟩ := laysRow_ok (v := v) hi hfu2 B1
        obtain ⟨F2, f, e, m1, m2, m3⟩ := goesTo_ok (v := v) (F := upd F 11 (nI (s.1 i).length)) G1.1.1 hfu3 KK k2 (by rw [upd_eq, hkl]) (x := at_) (by omega)
        refine ⟨g, F2, f, e, k2, m2, fun k hk => by rw [m3 k (by omega), upd_ne _ _ (by omega)], k3.F k3.1 (m3 9 (by omega)) k3.2.2.2.1 O.1, ?_⟩
        rw [f_X11_of, mSet_in hi, if_neg (by decide), B1.cl, B1.place hi hfu2, some_bind', if_neg c1, B1.cl, k1, some_bind', k3.cl, k3.place hi hfu2, some_bind', p2, bnd_eq, k3.cl, m1, some_bind']
      have pre1 : f_X10_of fu (mW C F v ar) 0 (nI i) b c = f_X10_of_25_1 fu (mW C F v ar) 0 b c (13 + 2 * i) (nI at_) := by rw [pre0, p2]
      have hm1 : ¬ nI at_ = -1 := m1_ne at_ (by omega)
      obtain ⟨C1, t1, t2, G1, t4⟩ := g_tree G hfu2 hi
      have h1 := G1.1.2.2.1
      obtain ⟨arT, rt, tw, tk, tx, tr⟩ := id t2
      have hx := tx at_ (by omega)
      have hnode := isNode_in t2 (show at_ < (kys (s.1 i)).length by omega) (by omega)
      by_cases d0 : c = 0
      · obtain ⟨g, F2, f, e, r1, r2, r3, r4, r5⟩ := mpre C G
        refine q_res G (fun _ _ => rfl) (x := nI at_) ?_ (F' := F2) (v' := v) (ar' := ua ar 4 g) ?_ r3 (fun k hk => ua_ne _ _ (by omega))
        · rw [pre1, f_X10_of_25_1, bnd_eq, if_neg hm1, if_pos d0]
        · rw [r5, if_pos d0]
      by_cases d1 : c = 1
      · obtain ⟨g, F2, f, e, r1, r2, r3, r4, r5⟩ := mpre C G
        refine q_res G (fun _ _ => rfl) (x := nI (nth (s.1 i) at_ % 2)) ?_ (F' := F2) (v' := v) (ar' := ua ar 4 g) ?_ r3 (fun k hk => ua_ne _ _ (by omega))
        · rw [pre1, f_X10_of_25_1, bnd_eq, if_neg hm1, if_neg d0, if_pos d1, (h.ha hi).cl, markAt_in (h.ha hi) S p1, some_bind']
        · rw [r5, if_neg d0, if_pos d1, r4.cl, r4.mark hi p1, some_bind']
      by_cases d6 : c = 6
      · obtain ⟨g, F2, f, e, r1, r2, r3, r4, r5⟩ := mpre C G
        have hpr : f_X10_priority b = f_X11_priority b := by rw [← hpk, cpri (by omega), mpri (by omega)]
        refine q_res G (fun _ _ => rfl) (x := f_X10_priority b) ?_ (F' := F2) (v' := v) (ar' := ua ar 4 g) ?_ r3 (fun k hk => ua_ne _ _ (by omega))
        · rw [pre1, f_X10_of_25_1, bnd_eq, if_neg hm1, if_neg d0, if_neg d1, if_neg (by rw [d6]; decide), if_neg (by rw [d6]; decide), if_neg (by rw [d6]; decide), if_neg (by rw [d6]; decide), if_pos d6]
        · rw [r5, if_neg d0, if_neg d1, if_neg (by rw [d6]; decide), if_neg (by rw [d6]; decide), if_neg (by rw [d6]; decide), if_neg (by rw [d6]; decide), if_pos d6, hpr]
      obtain ⟨g, F2, f, e, r1, r2, r3, r4, r5⟩ := mpre C1 G1
      obtain ⟨w12, w13, w15, w14, wS, wA⟩ := id r2
      have wA1 := wA.1
      have wA2 := wA.2.1
      have wS1 := wS.1
      by_cases d2 : c = 2
      · refine q_res G1 t4 (x := nI (dep (pF (kys (s.1 i))) (kys (s.1 i)).length at_)) ?_ (F' := F2) (v' := v) (ar' := ua ar 4 g) ?_ r3 (fun k hk => ua_ne _ _ (by omega))
        · rw [pre1, f_X10_of_25_1, bnd_eq, if_neg hm1, if_neg d0, if_neg d1, if_pos d2, G.st, some_bind', h.cl, t1, some_bind', t2.cl, f_X8_depthAt, t2.cl, hnode, some_bind', if_neg (by decide), tw.r4, some_bind', tw.a4 (by omega), some_bind', some_bind', hx.2.2.2.1]
        · rw [r5, if_neg d0, if_neg d1, if_pos d2, m_gI r4.1 F2 v _ 15 rfl, some_bind', w15]
      by_cases d3 : c = 3
      · obtain ⟨x, hkv⟩ : ∃ x, kV (kys (s.1 i)) (arT 1 at_) x := by
          rcases hx.1 with ⟨q1, _⟩ | ⟨y, q1, q2⟩
          · exact ⟨-1, Or.inl ⟨q1, rfl⟩⟩
          · exact ⟨_, Or.inr ⟨y, q2.1, q1, rfl⟩⟩
        have hu : F2 14 = arT 1 at_ := ParV_u hinj w14 hx.1
        refine q_res G1 t4 (x := x) ?_ (F' := F2) (v' := v) (ar' := ua ar 4 g) ?_ r3 (fun k hk => ua_ne _ _ (by omega))
        · rw [pre1, f_X10_of_25_1, bnd_eq, if_neg hm1, if_neg d0, if_neg d1, if_neg d2, if_pos d3, G.st, some_bind', h.cl, t1, some_bind', t2.cl, f_X8_keyAbove, t2.cl, hnode, some_bind', if_neg (by decide), tw.r1, some_bind', tw.a1 (by omega), some_bind', t2.cl, ckeyOf t2 (by omega) hkv, some_bind', some_bind']
        · rw [r5, if_neg d0, if_neg d1, if_neg d2, if_pos d3, m_gI r4.1 F2 v _ 14 rfl, some_bind', hu, r4.cl, mkeyOf r4.1 r1 (by omega) hkv, some_bind']
      by_cases d4 : c = 4
      · obtain ⟨u, x, hu1, hu2, hkv⟩ : ∃ u x, f_X11_ahead fu (mW C1 F2 v (ua ar 4 g)) 123 (nI f) (mI at_) = some u ∧ arT 2 at_ = u ∧ kV (kys (s.1 i)) u x := by
          rcases Nat.lt_or_ge f at_ with q | q
          · obtain ⟨m, m1, m2⟩ := ahead_in (v := v) (F := F2) r4.1 hfu3 KK r1 (f := f) (e := at_) (by omega) q
            refine ⟨nI m, _, m1, ?_, Or.inr ⟨m, by have := m2.2.1; omega, rfl, rfl⟩⟩
            rcases hx.2.1 with ⟨_, z2⟩ | ⟨y, z1, z2, z3, z4⟩
            · exact absurd ((sub_anc wS wA (by omega)).mpr ⟨Nat.le_refl f, by omega⟩) (z2 f q)
            · have z3' := (sub_anc wS wA (show y < (kys (s.1 i)).length by omega)).mp z3
              have : y = m := argm_u hinj (show at_ ≤ (kys (s.1 i)).length by omega) ⟨z3'.1, z2, fun z hz1 hz2 => z4 z hz2 ((sub_anc wS wA (by omega)).mpr ⟨hz1, by omega⟩)⟩ m2
              rw [z1, this]
          · refine ⟨-1, -1, ahead_out hfu3 (by omega) (by omega) q, ?_, Or.inl ⟨rfl, rfl⟩⟩
            rcases hx.2.1 with ⟨z1, _⟩ | ⟨y, z1, z2, z3, z4⟩
            · exact z1
            · have z3' := (sub_anc wS wA (show y < (kys (s.1 i)).length by omega)).mp z3
              omega
        refine q_res G1 t4 (x := x) ?_ (F' := F2) (v' := v) (ar' := ua ar 4 g) ?_ r3 (fun k hk => ua_ne _ _ (by omega))
        · rw [pre1, f_X10_of_25_1, bnd_eq, if_neg hm1, if_neg d0, if_neg d1, if_neg d2, if_neg d3, if_pos d4, G.st, some_bind', h.cl, t1, some_bind', t2.cl, f_X8_keyAtLeft, t2.cl, hnode, some_bind', if_neg (by decide), tw.r2, some_bind', tw.a2 (by omega), some_bind', hu2, t2.cl, ckeyOf t2 (by omega) hkv, some_bind', some_bind']
        · rw [r5, if_neg d0, if_neg d1, if_neg d2, if_neg d3, if_pos d4, m_gI r4.1 F2 v _ 12 rfl, some_bind', w12, mI_sub, r4.cl, hu1, some_bind', r4.cl, mkeyOf r4.1 r1 (by omega) hkv, some_bind']
      by_cases d5 : c = 5
      · obtain ⟨u, x, hu1, hu2, hkv⟩ : ∃ u x, f_X11_ahead fu (mW C1 F2 v (ua ar 4 g)) 123 (nI (at_ + 1)) (mI e) = some u ∧ arT 3 at_ = u ∧ kV (kys (s.1 i)) u x := by
          rcases Nat.lt_or_ge (at_ + 1) e with q | q
          · obtain ⟨m, m1, m2⟩ := ahead_in (v := v) (F := F2) r4.1 hfu3 KK r1 (f := at_ + 1) (e := e) (by omega) q
            refine ⟨nI m, _, m1, ?_, Or.inr ⟨m, by have := m2.2.1; omega, rfl, rfl⟩⟩
            rcases hx.2.2.1 with ⟨_, z2⟩ | ⟨y, z1, z2, z2', z3, z4⟩
            · exact absurd ((sub_anc wS wA (by omega)).mpr ⟨by omega, q⟩) (z2 (at_ + 1) (by omega) (by omega))
            · have z3' := (sub_anc wS wA z2').mp z3
              have : y = m := argm_u hinj wS1 ⟨by omega, z3'.2, fun z hz1 hz2 => z4 z (by omega) (by omega) ((sub_anc wS wA (by omega)).mpr ⟨by omega, hz2⟩)⟩ m2
              rw [z1, this]
          · refine ⟨-1, -1, ahead_out hfu3 (by omega) (by omega) q, ?_, Or.inl ⟨rfl, rfl⟩⟩
            rcases hx.2.2.1 with ⟨z1, _⟩ | ⟨y, z1, z2, z2', z3, z4⟩
            · exact z1
            · have z3' := (sub_anc wS wA z2').mp z3
              omega
        refine q_res G1 t4 (x := x) ?_ (F' := F2) (v' := v) (ar' := ua ar 4 g) ?_ r3 (fun k hk => ua_ne _ _ (by omega))
        · rw [pre1, f_X10_of_25_1, bnd_eq, if_neg hm1, if_neg d0, if_neg d1, if_neg d2, if_neg d3, if_neg d4, if_pos d5, G.st, some_bind', h.cl, t1, some_bind', t2.cl, f_X8_keyAtRight, t2.cl, hnode, some_bind', if_neg (by decide), tw.r3, some_bind', tw.a3 (by omega), some_bind', hu2, t2.cl, ckeyOf t2 (by omega) hkv, some_bind', some_bind']
        · rw [r5, if_neg d0, if_neg d1, if_neg d2, if_neg d3, if_neg d4, if_pos d5, m_gI r4.1 F2 v _ 13 rfl, some_bind', w13, nI_1, r4.cl, hu1, some_bind', r4.cl, mkeyOf r4.1 r1 (by omega) hkv, some_bind']
      by_cases d7 : c = 7
      · refine q_res G1 t4 (x := nI (und (pF (kys (s.1 i))) (kys (s.1 i)).length at_)) ?_ (F' := F2) (v' := v) (ar' := ua ar 4 g) ?_ r3 (fun k hk => ua_ne _ _ (by omega))
        · rw [pre1, f_X10_of_25_1, bnd_eq, if_neg hm1, if_neg d0, if_neg d1, if_neg d2, if_neg d3, if_neg d4, if_neg d5, if_neg d6, if_pos d7, G.st, some_bind', h.cl, t1, some_bind', t2.cl, f_X8_howManyBelow, t2.cl, hnode, some_bind', if_neg (by decide), tw.r5, some_bind', tw.a5 (by omega), some_bind', some_bind', hx.2.2.2.2]
        · obtain ⟨e', rfl⟩ : ∃ e', e = e' + 1 := ⟨e - 1, by omega⟩
          rw [r5, if_neg d0, if_neg d1, if_neg d2, if_neg d3, if_neg d4, if_neg d5, if_neg d6, if_pos d7, m_gI r4.1 F2 v _ 13 rfl, some_bind', m_gI r4.1 F2 v _ 12 rfl, some_bind', w13, w12, und_sub wS wA, mI_s, nI_sub (by omega)]
          rfl
      obtain ⟨g, F2, f, e, r1, r2, r3, r4, r5⟩ := mpre C G
      refine q_res G (fun _ _ => rfl) (x := -1) ?_ (F' := F2) (v' := v) (ar' := ua ar 4 g) ?_ r3 (fun k hk => ua_ne _ _ (by omega))
      · rw [pre1, f_X10_of_25_1, bnd_eq, if_neg hm1, if_neg d0, if_neg d1, if_neg d2, if_neg d3, if_neg d4, if_neg d5, if_neg d6, if_neg d7]
      · rw [r5, if_neg d0, if_neg d1, if_neg d2, if_neg d3, if_neg d4, if_neg d5, if_neg d6, if_neg d7]
  · refine q_res G (fun _ _ => rfl) (x := -1) ?_ (F' := F) (v' := v) (ar' := ar) ?_ (fun _ _ => rfl) (fun _ _ => rfl)
    · rw [f_X10_of, G.st, some_bind', h.cl, heapAt_out ha, some_bind', f_X10_of_25, bnd_eq]
    · rw [f_X11_of, mSet_out ha, if_pos rfl]
end Q
