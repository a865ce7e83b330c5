/-! THE READER: what a line does -/
/-- the model's doing of a line, once it is read -/
def mAct (fu : Nat) (w : MW) (v1 : Int64) (v3 v4 v5 v6 x14 : Int32) : Option (Int32 × MW) :=
  if (lg_cmp v1 (257105 : Int64)) = 0 then
    (cl w 11 123 (f_X11_refusesMark fu w 123 v3 v5 v6 (1 : Int32))).bind fun q53 =>
    f_X11_readsAct_247 fu q53.2 123 v1 v3 v4 v5 v6 x14 q53.1
  else
    if (lg_cmp v1 (2774 : Int64)) = 0 then
      (cl w 11 123 (f_X11_refusesCut fu w 123 v3 v5 v6)).bind fun q50 =>
      f_X11_readsAct_247 fu w 123 v1 v3 v4 v5 v6 x14 q50
    else
      if (lg_cmp v1 (208022 : Int64)) = 0 then
        (cl w 11 123 (f_X11_refusesJoin w 123 v3 v5)).bind fun q47 =>
        f_X11_readsAct_247 fu w 123 v1 v3 v4 v5 v6 x14 q47
      else
        if (lg_cmp v1 (259868 : Int64)) = 0 then
          (cl w 11 123 (f_X11_refusesMelt fu w 123 v3 v5)).bind fun q44 =>
          f_X11_readsAct_247 fu w 123 v1 v3 v4 v5 v6 x14 q44
        else
          if (lg_cmp v1 (10261586 : Int64)) = 0 then
            if v4 = 0 then
              f_X11_readsAct_230 fu w 123 v1 v3 v4 v5 v6 x14 123 v3 v5
            else
              f_X11_readsAct_230 fu w 123 v1 v3 v4 v5 v6 x14 123 v3 (-v5)
          else
            (cl w 11 123 (f_X11_refusesMove fu w 123 v3 v5 v6 x14)).bind fun q21 =>
            f_X11_readsAct_247 fu w 123 v1 v3 v4 v5 v6 x14 q21
def ActS (s s' : AS) (x : Int32) (cf : MW → Option (Int32 × MW)) (mf : MW → Option (Int32 × MW)) : Prop :=
  AOK s'.1 ∧ (FOK s → FOK s') ∧ (∀ w, CS w s.1 s.2 → Sc w → ∃ w', cf w = some (x, w') ∧ CS w' s'.1 s'.2 ∧ Sc w' ∧ Chg (11 :: hpl) w w') ∧ ∀ C F v ar, MB C F ar 976 s → ∃ r al, mf (mW C F v ar) = some (r, mW C F v (ua ar 0 al)) ∧ ((x < 0 ∧ ¬ r ≤ 0) ∨ (¬ x < 0 ∧ r ≤ 0)) ∧ M8 al 976 s' ∧ ∀ q, q < 976 ∨ 1952 ≤ q → al q = ar 0 q
theorem hpl_11 {w w' : MW} (h : Chg hpl w w') : Chg (11 :: hpl) w w' := h.mono (fun k hk => List.mem_cons_of_mem _ hk)
theorem give_b {C : MW} {F : Nat → Int32} {v : Int64} {ar : Nat → Nat → Int32} {s : AS} {b : Nat} (B : MB C F ar b s) {fu : Nat} (hfu : 100 ≤ fu) {i j r m : Nat} (hi : i < 8) (hj : j < 8) (hij : i ≠ j) {x y : Int32} (hcx : hmb (s.1 i) x y = m) (hbx : bel (s.1 i) x = r) (hn : 1 ≤ m) (hr : r + m ≤ (s.1 i).length) (hl : (s.1 j).length + m ≤ 60) (hno : ∀ z ∈ s.1 j, z / 2 < nth (s.1 i) r / 2 ∨ nth (s.1 i) (r + m - 1) / 2 < z / 2) : ∃ al2, f_X11_goOver fu (mW C F v ar) 123 (nI i) x y (nI j) = some (nI m, mW C F v (ua ar 0 al2)) ∧ M8 al2 b (giveA s i j r m) ∧ ∀ q, q < b ∨ b + 976 ≤ q → al2 q = ar 0 q := by
  obtain ⟨al2, g1, g2, g3, g4⟩ := mgive (v := v) B.1 B.2.1 B.2.2.1 hi hj hij hfu B.2.2.2.2 B.2.2.2.1 (x := x) (y := y) (by rw [cnt_hmb _ _ _ (B.2.2.2.2 i hi)]; exact hcx) hbx hn hr hl hno
  exact ⟨al2, g1, g2, g4⟩
section Q
variable {s : AS} {fu : Nat}
theorem neg4 {x : Int32} (h : x = -1 ∨ x = -2 ∨ x = -3 ∨ x = -4) : x < 0 ∧ ¬ wOf x ≤ 0 := by
  rcases h with rfl | rfl | rfl | rfl <;> decide
theorem w247_no {w : MW} {v1 : Int64} {a b c d e x : Int32} (h : ¬ x ≤ 0) : f_X11_readsAct_247 fu w 123 v1 a b c d e x = some (x, w) := by
  rw [f_X11_readsAct_247, bnd_eq, if_neg h]
theorem w383_ok {w : MW} {m : Nat} (h : 1 ≤ m) (h2 : m < 2 ^ 31) : f_X11_readsAct_383 fu w (nI m) = some (0, w) := by
  rw [f_X11_readsAct_383, bnd_eq, if_neg (nI_nle h h2)]
theorem wOf_p {x : Int32} (h : ¬ x < 0) : wOf x = 0 := if_neg h
theorem act_mark (O : AOK s.1) (hfu : 100 ≤ fu) {i a c : Nat} (hi : i < 8) (ha : a < 10000) (hc : c < 10000) (z e : Int32) : ∃ s' x, ActS s s' x (fun w => f_X7_markStretch fu w 1 (nI i) (nI a) (nI c) 1) (fun w => mAct fu w 257105 (nI i) z (nI a) (nI c) e) := by
  obtain ⟨z1, z2, z3⟩ := xMark_rz (a := a) (b := c) (m := 1) O hi (by omega)
  refine ⟨_, (xMark s i a c 1).1, z2, z3, fun w h Z => ?_, fun C F v ar B => ?_⟩
  · obtain ⟨u', g1, g2, g3⟩ := cmarkS_ok h O hfu hi ha hc (m := 1) (by omega)
    exact ⟨u', g1, g2, Z.hp g3, hpl_11 g3⟩
  · have e1 := mrMark (v := v) B hfu hi ha hc (m := 1) (by omega)
    dsimp only
    rw [mAct, if_pos (by decide), m_cl B.1, show (1 : Int32) = nI 1 from rfl, e1, some_bind']
    dsimp only
    by_cases hx : (xMark s i a c 1).1 < 0
    · obtain ⟨y1, y2⟩ := z1 hx
      rw [w247_no (neg4 y2).2]
      exact ⟨_, ar 0, by rw [ua_self], Or.inl ⟨hx, (neg4 y2).2⟩, by rw [y1]; exact B.2.2.2.1, fun _ _ => rfl⟩
    · obtain ⟨al, g1, g2, g3⟩ := mmark_do (v := v) (a := a) (c := c) (m := 1) B hfu hi (by omega) hx
      have hn : ∃ m, (xMark s i a c 1).1 = nI m ∧ 1 ≤ m ∧ m < 2 ^ 31 := by
        have hl := (O.1 i hi).len
        have hle := mkN_le (x := nI a) (y := nI c) (m := 1) (s.1 i)
        unfold xMark at hx ⊢
        by_cases c0 : mkN (nI a) (nI c) 1 (s.1 i) = 0
        · rw [if_pos c0] at hx; exact absurd (show (-2 : Int32) < 0 by decide) hx
        · rw [if_neg c0]
          exact ⟨_, rfl, by omega, by omega⟩
      obtain ⟨m, q1, q2, q3⟩ := hn
      rw [wOf_p hx, f_X11_readsAct_247, bnd_eq, if_pos (by decide), if_neg (by decide), f_X11_readsAct_283, if_pos (by decide), m_cl B.1]
      rw [show (1 : Int32) = nI 1 from rfl] at g1 ⊢
      rw [g1, some_bind', q1, w383_ok q2 q3]
      exact ⟨_, al, rfl, Or.inr ⟨by rw [← q1]; exact hx, by decide⟩, g2, fun q hq => g3 q (by omega)⟩
theorem ActS.bad {cf mf : MW → Option (Int32 × MW)} (O : AOK s.1) (h1 : ∀ w, CS w s.1 s.2 → cf w = some (-1, w)) (h2 : ∀ C F v ar, MB C F ar 976 s → mf (mW C F v ar) = some (1, mW C F v ar)) : ActS s s (-1) cf mf := by
  refine ⟨O, id, fun w h Z => ⟨w, h1 w h, h, Z, Chg.rf _ _⟩, fun C F v ar B => ⟨1, ar 0, by rw [ua_self]; exact h2 C F v ar B, Or.inl ⟨by decide, by decide⟩, B.2.2.2.1, fun _ _ => rfl⟩⟩
theorem act_cut (O : AOK s.1) (hfu : 100 ≤ fu) {i k j : Nat} (hi : i < 8) (hk : k < 10000) (hj : j < 8) (z e : Int32) : ∃ s' x, ActS s s' x (fun w => f_X7_cutAbove fu w 1 (nI i) (nI k) (nI j)) (fun w => mAct fu w 2774 (nI i) z (nI k) (nI j) e) := by
  rcases two_cases (nI i) (nI j) with ⟨i', j', hi', hj', hij, ei, ej⟩ | hac
  · have e1 : i = i' := (nI_eq (by omega) (by omega)).mp ei
    have e2 : j = j' := (nI_eq (by omega) (by omega)).mp ej
    subst e1; subst e2
    obtain ⟨z1, z2⟩ := xCut_rz (k := k) O hi hj hij
    have z3 : FOK s → FOK (xCut s i k j).2 := fun h => by
      unfold xCut; split
      · exact h
      · split
        · exact h
        · exact h.give _ _ _ _
    have hl := (O.1 i hi).len
    have hn := nab_le (s.1 i) (nI k)
    refine ⟨_, (xCut s i k j).1, z2, z3, fun w h Z => ?_, fun C F v ar B => ?_⟩
    · obtain ⟨u', g1, g2, g3⟩ := ccut_ok h O hfu hi hj hij hk
      exact ⟨u', g1, g2, Z.hp g3, hpl_11 g3⟩
    · have r1 := mrCut (v := v) B hfu hi hj hij hk
      dsimp only
      rw [mAct, if_neg (by decide), if_pos (by decide), m_cl B.1, r1, some_bind']
      by_cases hx : (xCut s i k j).1 < 0
      · obtain ⟨y1, y2⟩ := z1 hx
        rw [w247_no (neg4 y2).2]
        exact ⟨_, ar 0, by rw [ua_self], Or.inl ⟨hx, (neg4 y2).2⟩, by rw [y1]; exact B.2.2.2.1, fun _ _ => rfl⟩
      · obtain ⟨h1, h2, h3, h4⟩ := xCut_do O.1 hi hj hij hx
        obtain ⟨al, g1, g2, g3⟩ := give_b (v := v) B hfu hi hj hij (hmb_above (O.1 i hi) hk) (bel_succ (O.1 i hi) hk) h1 (by omega) (by omega) (fun z hz => by
          have : s.1 j = [] := List.length_eq_zero_iff.mp (by omega)
          rw [this] at hz; simp at hz)
        rw [wOf_p hx, f_X11_readsAct_247, bnd_eq, if_pos (by decide), if_neg (by decide), f_X11_readsAct_283, if_neg (by decide), if_pos (by decide), m_cl B.1, nI_1, show (9999 : Int32) = nI 9999 from rfl, g1, some_bind', w383_ok h1 (by omega), h3]
        exact ⟨_, al, rfl, Or.inr ⟨nI_pos (by omega), by decide⟩, g2, fun q hq => g3 q (by omega)⟩
  · refine ⟨s, -1, ActS.bad O (fun w h => cut_bad h (Or.inl hac)) (fun C F v ar B => ?_)⟩
    rw [mAct, if_neg (by decide), if_pos (by decide), m_cl B.1, f_X11_refusesCut, m_cl B.1, mTwo_out hac, some_bind', if_pos rfl, some_bind', w247_no (by decide)]
theorem act_join (O : AOK s.1) (hfu : 100 ≤ fu) {t o : Nat} (ht : t < 8) (ho : o < 8) (z d e : Int32) : ∃ s' x, ActS s s' x (fun w => f_X7_joinTo fu w 1 (nI t) (nI o)) (fun w => mAct fu w 208022 (nI t) z (nI o) d e) := by
  rcases two_cases (nI t) (nI o) with ⟨i', j', hi', hj', hto, ei, ej⟩ | hac
  · have e1 : t = i' := (nI_eq (by omega) (by omega)).mp ei
    have e2 : o = j' := (nI_eq (by omega) (by omega)).mp ej
    subst e1; subst e2
    obtain ⟨z1, z2⟩ := xJoin_rz O ht ho hto
    have z3 : FOK s → FOK (xJoin s t o).2 := fun h => by
      unfold xJoin; split
      · exact h.give _ _ _ _
      · exact h
    have l1 := (O.1 t ht).len
    have l2 := (O.1 o ho).len
    refine ⟨_, (xJoin s t o).1, z2, z3, fun w h Z => ?_, fun C F v ar B => ?_⟩
    · obtain ⟨u', g1, g2, g3⟩ := cjoin_ok h O hfu ht ho hto
      exact ⟨u', g1, g2, Z.hp g3, hpl_11 g3⟩
    · have r1 := mrJoin (v := v) B ht ho hto
      dsimp only
      rw [mAct, if_neg (by decide), if_neg (by decide), if_pos (by decide), m_cl B.1, r1, some_bind']
      by_cases c : wJoin s t o = 0
      · obtain ⟨h1, h2, h3⟩ := wJoin_0 c
        obtain ⟨al, g1, g2, g3⟩ := give_b (v := v) B hfu ho ht (Ne.symm hto) (hmb_all (O.1 o ho)) (bel_zero (O.1 o ho)) h1 (by omega) h3 (wJoin_no O.1 ht c)
        have ex : xJoin s t o = (nI ((s.1 t).length + (s.1 o).length), giveA s o t 0 (s.1 o).length) := by unfold xJoin; rw [if_pos c]
        rw [c, wOf_p (by decide), f_X11_readsAct_247, bnd_eq, if_pos (by decide), if_neg (by decide), f_X11_readsAct_283, if_neg (by decide), if_neg (by decide), if_pos (by decide), f_X11_readsAct_346, m_cl B.1, show (9999 : Int32) = nI 9999 from rfl, show (0 : Int32) = nI 0 from rfl, g1, some_bind', w383_ok h1 (by omega), ex]
        exact ⟨_, al, rfl, Or.inr ⟨nI_pos (by omega), by decide⟩, g2, fun q hq => g3 q (by omega)⟩
      · have ex : xJoin s t o = (wJoin s t o, s) := by unfold xJoin; rw [if_neg c]
        have y2 : wJoin s t o = -1 ∨ wJoin s t o = -2 ∨ wJoin s t o = -3 ∨ wJoin s t o = -4 := by
          rcases wJoin_v s t o with h | h | h | h
          · exact absurd h c
          all_goals (rw [h]; decide)
        rw [w247_no (neg4 y2).2, ex]
        exact ⟨_, ar 0, by rw [ua_self], Or.inl ⟨(neg4 y2).1, (neg4 y2).2⟩, B.2.2.2.1, fun _ _ => rfl⟩
  · refine ⟨s, -1, ActS.bad O (fun w h => join_bad h hac) (fun C F v ar B => ?_)⟩
    rw [mAct, if_neg (by decide), if_neg (by decide), if_pos (by decide), m_cl B.1, f_X11_refusesJoin, m_cl B.1, mTwo_out hac, some_bind', if_pos rfl, some_bind', w247_no (by decide)]
theorem act_melt (O : AOK s.1) (hfu : 2000 ≤ fu) {t o : Nat} (ht : t < 8) (ho : o < 8) (z d e : Int32) : ∃ s' x, ActS s s' x (fun w => f_X7_meltTo fu w 1 (nI t) (nI o)) (fun w => mAct fu w 259868 (nI t) z (nI o) d e) := by
  rcases two_cases (nI t) (nI o) with ⟨i', j', hi', hj', hto, ei, ej⟩ | hac
  · have e1 : t = i' := (nI_eq (by omega) (by omega)).mp ei
    have e2 : o = j' := (nI_eq (by omega) (by omega)).mp ej
    subst e1; subst e2
    obtain ⟨z1, z2, z3⟩ := xMelt_rz O ht ho hto
    have l2 := (O.1 o ho).len
    refine ⟨_, (xMelt s t o).1, z2, z3, fun w h Z => cmelt_ok h Z O hfu ht ho hto, fun C F v ar B => ?_⟩
    have r1 := mrMelt (v := v) (fu := fu) B (by omega) ht ho hto
    dsimp only
    rw [mAct, if_neg (by decide), if_neg (by decide), if_neg (by decide), if_pos (by decide), m_cl B.1, r1, some_bind']
    by_cases hx : (xMelt s t o).1 < 0
    · obtain ⟨y1, y2⟩ := z1 hx
      rw [w247_no (neg4 y2).2]
      exact ⟨_, ar 0, by rw [ua_self], Or.inl ⟨hx, (neg4 y2).2⟩, by rw [y1]; exact B.2.2.2.1, fun _ _ => rfl⟩
    · obtain ⟨h1, h2, h3, h4⟩ := xMelt_do O.1 ho ht hto hx
      obtain ⟨al, g1, g2, g3⟩ := mmelt_do (v := v) (fu := fu) B (by omega) ht ho hto hx
      rw [wOf_p hx, f_X11_readsAct_247, bnd_eq, if_pos (by decide), if_neg (by decide), f_X11_readsAct_283, if_neg (by decide), if_neg (by decide), if_neg (by decide), if_pos (by decide), f_X11_readsAct_346, m_cl B.1, show (9999 : Int32) = nI 9999 from rfl, show (0 : Int32) = nI 0 from rfl, g1, some_bind', w383_ok h1 (by omega)]
      exact ⟨_, al, rfl, Or.inr ⟨hx, by decide⟩, g2, fun q hq => g3 q (by omega)⟩
  · refine ⟨s, -1, ActS.bad O (fun w h => melt_bad h hac) (fun C F v ar B => ?_)⟩
    rw [mAct, if_neg (by decide), if_neg (by decide), if_neg (by decide), if_pos (by decide), m_cl B.1, f_X11_refusesMelt, m_cl B.1, mTwo_out hac, some_bind', if_pos rfl, some_bind', w247_no (by decide)]
theorem act_move (O : AOK s.1) (hfu : 100 ≤ fu) {i k m j : Nat} (hi : i < 8) (hk : k < 10000) (hm : m < 10000) (hj : j < 8) (z : Int32) : ∃ s' x, ActS s s' x (fun w => f_X7_moveStretch fu w 1 (nI i) (nI k) (nI m) (nI j)) (fun w => mAct fu w 267413 (nI i) z (nI k) (nI m) (nI j)) := by
  rcases two_cases (nI i) (nI j) with ⟨i', j', hi', hj', hij, ei, ej⟩ | hac
  · have e1 : i = i' := (nI_eq (by omega) (by omega)).mp ei
    have e2 : j = j' := (nI_eq (by omega) (by omega)).mp ej
    subst e1; subst e2
    obtain ⟨z1, z2⟩ := xMove_rz (a := k) (b := m) O hi hj hij
    have z3 : FOK s → FOK (xMove s i k m j).2 := fun h => by
      unfold xMove; split
      · exact h
      · split
        · exact h
        · split
          · exact h
          · exact h.give _ _ _ _
    have hl := (O.1 i hi).len
    refine ⟨_, (xMove s i k m j).1, z2, z3, fun w h Z => ?_, fun C F v ar B => ?_⟩
    · obtain ⟨u', g1, g2, g3⟩ := cmove_ok h O hfu hi hj hij hk hm
      exact ⟨u', g1, g2, Z.hp g3, hpl_11 g3⟩
    · have r1 := mrMove (v := v) B hfu hi hj hij hk hm
      dsimp only
      rw [mAct, if_neg (by decide), if_neg (by decide), if_neg (by decide), if_neg (by decide), if_neg (by decide), m_cl B.1, r1, some_bind']
      by_cases hx : (xMove s i k m j).1 < 0
      · obtain ⟨y1, y2⟩ := z1 hx
        rw [w247_no (neg4 y2).2]
        exact ⟨_, ar 0, by rw [ua_self], Or.inl ⟨hx, (neg4 y2).2⟩, by rw [y1]; exact B.2.2.2.1, fun _ _ => rfl⟩
      · obtain ⟨h1, h2, h3, h4, h5⟩ := xMove_do O.1 hi hj hij hx
        obtain ⟨al, g1, g2, g3⟩ := give_b (v := v) B hfu hi hj hij (x := nI k) (y := nI m) rfl rfl h1 h2 h3 h4
        rw [wOf_p hx, f_X11_readsAct_247, bnd_eq, if_pos (by decide), if_neg (by decide), f_X11_readsAct_283, if_neg (by decide), if_neg (by decide), if_neg (by decide), if_neg (by decide), if_pos (by decide), m_cl B.1, g1, some_bind', w383_ok h1 (by omega), h5]
        exact ⟨_, al, rfl, Or.inr ⟨nI_pos (by omega), by decide⟩, g2, fun q hq => g3 q (by omega)⟩
  · refine ⟨s, -1, ActS.bad O (fun w h => move_bad h (Or.inl hac)) (fun C F v ar B => ?_)⟩
    rw [mAct, if_neg (by decide), if_neg (by decide), if_neg (by decide), if_neg (by decide), if_neg (by decide), m_cl B.1, f_X11_refusesMove, m_cl B.1, mTwo_out hac, some_bind', if_pos rfl, some_bind', w247_no (by decide)]
theorem act_shift (O : AOK s.1) (hfu : 100 ≤ fu) {i : Nat} (hi : i < 8) {x y z : Int32} (h1 : ¬ x < -9999) (h2 : x ≤ 9999) (hz : (z = 0 ∧ x = y) ∨ (¬ z = 0 ∧ x = -y)) (d e : Int32) : ∃ s' x', ActS s s' x' (fun w => f_X7_shiftBy fu w 1 (nI i) x) (fun w => mAct fu w 10261586 (nI i) z y d e) := by
  obtain ⟨r1, r2⟩ := shRange h1 h2
  obtain ⟨z1, z2, z3⟩ := xShift_rz O hi r1 r2
  refine ⟨_, (xShift s i x).1, z2, z3, fun w h Z => ?_, fun C F v ar B => ?_⟩
  · obtain ⟨u', g1, g2, g3⟩ := cshiftBy_ok h O hfu hi h1 h2
    exact ⟨u', g1, g2, Z.hp g3, hpl_11 g3⟩
  · have k1 := mrShift (v := v) B hi h1 h2
    have pre : mAct fu (mW C F v ar) 10261586 (nI i) z y d e = f_X11_readsAct_247 fu (mW C F v ar) 123 10261586 (nI i) z y d e (wOf (xShift s i x).1) := by
      rw [mAct, if_neg (by decide), if_neg (by decide), if_neg (by decide), if_neg (by decide), if_pos (by decide)]
      rcases hz with ⟨c, cx⟩ | ⟨c, cx⟩
      · rw [if_pos c, f_X11_readsAct_230, m_cl B.1, ← cx, k1, some_bind']
      · rw [if_neg c, f_X11_readsAct_230, m_cl B.1, ← cx, k1, some_bind']
    dsimp only
    rw [pre]
    by_cases hx : (xShift s i x).1 < 0
    · obtain ⟨y1, y2⟩ := z1 hx
      rw [w247_no (neg4 y2).2]
      exact ⟨_, ar 0, by rw [ua_self], Or.inl ⟨hx, (neg4 y2).2⟩, by rw [y1]; exact B.2.2.2.1, fun _ _ => rfl⟩
    · obtain ⟨al, g1, g2, g3⟩ := mshift_do (v := v) B hfu hi h1 h2 hx
      have t280 : f_X11_readsAct_280 fu (mW C F v ar) 123 10261586 (nI i) y d e 123 (nI i) x = some (0, mW C F v (ua ar 0 al)) := by
        rw [f_X11_readsAct_280, m_cl B.1, g1, some_bind', f_X11_readsAct_283, if_neg (by decide), if_neg (by decide), if_neg (by decide), if_neg (by decide), if_neg (by decide)]
        rfl
      rw [wOf_p hx, f_X11_readsAct_247, bnd_eq, if_pos (by decide), if_pos (by decide)]
      refine ⟨0, al, ?_, Or.inr ⟨hx, by decide⟩, g2, fun q hq => g3 q (by omega)⟩
      rcases hz with ⟨c, cx⟩ | ⟨c, cx⟩
      · rw [if_pos c, ← cx]; rw [← cx] at t280; exact t280
      · rw [if_neg c, ← cx]; exact t280
end Q
