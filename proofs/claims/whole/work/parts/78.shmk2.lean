theorem keyAt_0 {w : MW} {h e : Nat} {L : List Nat} {fg : Int32} (H : HA w h e L fg) (S : SOK L) (hj : 0 < L.length) : f_X0_keyAt w h 0 = some (nI (nth L 0 / 2)) := keyAt_in (j := 0) H S hj
theorem MB.key0 {C : MW} {F : Nat → Int32} {v : Int64} {ar : Nat → Nat → Int32} {b : Nat} {s : AS} (B : MB C F ar b s) {i : Nat} (hi : i < 8) (hj : 0 < (s.1 i).length) : f_X11_keyAt (mW C F v ar) 123 (nI i) 0 = some (nI (nth (s.1 i) 0 / 2)) := B.key (j := 0) hi hj
theorem isKey_same (y : Int32) : f_X11_isKey y = f_X10_isKey y := rfl
def xShift (s : AS) (i : Nat) (x : Int32) : Int32 × AS :=
  if x = 0 then (-2, s) else if (s.1 i).length = 0 then (-2, s)
  else if f_X10_isKey (nI (nth (s.1 i) 0 / 2) + x) = 0 then (-3, s)
  else if f_X10_isKey (nI (nth (s.1 i) ((s.1 i).length - 1) / 2) + x) = 0 then (-3, s)
  else (nI (s.1 i).length, (va_up s.1 i ((s.1 i).map (shE x)), va_up s.2 i (shG x (s.2 i))))
theorem shRange {x : Int32} (h1 : ¬ x < -9999) (h2 : x ≤ 9999) : -9999 ≤ x.toInt ∧ x.toInt ≤ 9999 := by
  rw [Int32.lt_iff_toInt_lt] at h1
  rw [Int32.le_iff_toInt_le] at h2
  have e1 : (-9999 : Int32).toInt = -9999 := by decide
  have e2 : (9999 : Int32).toInt = 9999 := by decide
  omega
theorem isKey_nI {y : Int32} (h : ¬ f_X10_isKey y = 0) : ∃ k, k < 10000 ∧ y = nI k := by
  rcases key_cases y with h1 | h1
  · exact h1
  · exact absurd (isKey_out h1) h
theorem xShift_do {s : AS} (O : ∀ i, i < 8 → SOK (s.1 i)) {i : Nat} (hi : i < 8) {x : Int32} (h1 : -9999 ≤ x.toInt) (h2 : x.toInt ≤ 9999) (hx : ¬ (xShift s i x).1 < 0) : (∀ a ∈ s.1 i, 0 ≤ (a : Int) + x.toInt * 2 ∧ (a : Int) + x.toInt * 2 < 20000) ∧ xShift s i x = (nI (s.1 i).length, (va_up s.1 i ((s.1 i).map (shE x)), va_up s.2 i (shG x (s.2 i)))) := by
  have S := O i hi
  unfold xShift at hx ⊢
  by_cases c1 : x = 0
  · rw [if_pos c1] at hx; exact absurd (show (-2 : Int32) < 0 by decide) hx
  · rw [if_neg c1] at hx ⊢
    by_cases c2 : (s.1 i).length = 0
    · rw [if_pos c2] at hx; exact absurd (show (-2 : Int32) < 0 by decide) hx
    · rw [if_neg c2] at hx ⊢
      by_cases c3 : f_X10_isKey (nI (nth (s.1 i) 0 / 2) + x) = 0
      · rw [if_pos c3] at hx; exact absurd (show (-3 : Int32) < 0 by decide) hx
      · rw [if_neg c3] at hx ⊢
        by_cases c4 : f_X10_isKey (nI (nth (s.1 i) ((s.1 i).length - 1) / 2) + x) = 0
        · rw [if_pos c4] at hx; exact absurd (show (-3 : Int32) < 0 by decide) hx
        · rw [if_neg c4]
          refine ⟨fun a ha => ?_, rfl⟩
          obtain ⟨k0, hk0, e0⟩ := isKey_nI c3
          obtain ⟨k1, hk1, e1⟩ := isKey_nI c4
          have b0 := S.lt (show 0 < (s.1 i).length by omega)
          have b1 := S.lt (show (s.1 i).length - 1 < (s.1 i).length by omega)
          have f0 := addI_nI (by omega) (by omega) (by omega) (by omega) e0
          have f1 := addI_nI (by omega) (by omega) (by omega) (by omega) e1
          obtain ⟨j, hj, rfl⟩ := mem_nth ha
          have g0 : nth (s.1 i) 0 / 2 ≤ nth (s.1 i) j / 2 := by
            rcases Nat.eq_zero_or_pos j with q | q
            · rw [q]; exact Nat.le_refl _
            · exact Nat.le_of_lt (S.inc q hj)
          have g1 : nth (s.1 i) j / 2 ≤ nth (s.1 i) ((s.1 i).length - 1) / 2 := by
            rcases Nat.lt_or_ge j ((s.1 i).length - 1) with q | q
            · exact Nat.le_of_lt (S.inc q (by omega))
            · rw [show j = (s.1 i).length - 1 by omega]; exact Nat.le_refl _
          omega
theorem SOK_sh {L : List Nat} (S : SOK L) {x : Int32} (h : ∀ a ∈ L, 0 ≤ (a : Int) + x.toInt * 2 ∧ (a : Int) + x.toInt * 2 < 20000) : SOK (L.map (shE x)) := by
  refine SOK_map S (fun a b ha hb q => ?_) (fun a ha => ?_)
  · have := h a ha
    have := h b hb
    unfold shE
    omega
  · have := h a ha
    unfold shE
    omega
theorem xShift_rz {s : AS} (O : AOK s.1) {i : Nat} (hi : i < 8) {x : Int32} (h1 : -9999 ≤ x.toInt) (h2 : x.toInt ≤ 9999) : RZ s (xShift s i x) ∧ AOK (xShift s i x).2.1 ∧ (FOK s → FOK (xShift s i x).2) := by
  have hl := (O.1 i hi).len
  by_cases hx : (xShift s i x).1 < 0
  · unfold xShift at hx ⊢
    split
    · exact ⟨fun _ => ⟨rfl, by simp⟩, O, id⟩
    · split
      · exact ⟨fun _ => ⟨rfl, by simp⟩, O, id⟩
      · split
        · exact ⟨fun _ => ⟨rfl, by simp⟩, O, id⟩
        · split
          · exact ⟨fun _ => ⟨rfl, by simp⟩, O, id⟩
          · rename_i c1 c2 c3 c4
            rw [if_neg c1, if_neg c2, if_neg c3, if_neg c4] at hx
            exact absurd hx (nI_pos (by omega))
  · obtain ⟨g1, g2⟩ := xShift_do O.1 hi h1 h2 hx
    refine ⟨fun q => absurd q hx, ?_, fun hF => ?_⟩
    · rw [g2]
      have ht := O.2
      exact AOK_up O hi (SOK_sh (O.1 i hi) g1) (by rw [List.length_map]; omega)
    · rw [g2]
      intro j hj
      by_cases c : j = i
      · subst c
        simp only [vu_eq]
        rcases hF j hj with q | ⟨e, he, q⟩
        · rw [q]; exact Or.inl rfl
        · refine Or.inr ⟨shE x e, List.mem_map_of_mem he, ?_⟩
          have hb := (O.1 j hj).2.1 e he
          have hg := g1 e he
          unfold shG
          rw [q, if_neg (m1_ne _ (by omega))]
          exact nI_addI (by unfold shE; omega)
      · simp only [vu_ne _ _ c]; exact hF j hj
section R
variable {C : MW} {F : Nat → Int32} {v : Int64} {ar : Nat → Nat → Int32} {s : AS} {V : List AS} {n : Nat} {fu : Nat}
theorem cshiftBy_ok {w : MW} (h : CS w s.1 s.2) (O : AOK s.1) (hfu : 100 ≤ fu) {i : Nat} (hi : i < 8) {x : Int32} (h1 : ¬ x < -9999) (h2 : x ≤ 9999) : ∃ w', f_X7_shiftBy fu w 1 (nI i) x = some ((xShift s i x).1, w') ∧ CS w' (xShift s i x).2.1 (xShift s i x).2.2 ∧ Chg hpl w w' := by
  have S := O.1 i hi
  have H := h.ha hi
  have hl := S.len
  obtain ⟨r1, r2⟩ := shRange h1 h2
  have hdo := xShift_do O.1 hi r1 r2
  rw [f_X7_shiftBy, h.cl, heapAt_in h hi, some_bind']
  dsimp only
  rw [if_neg h1, if_pos h2]
  unfold xShift at hdo ⊢
  by_cases c1 : x = 0
  · rw [if_pos c1, if_pos c1]; exact ⟨w, rfl, h, Chg.rf _ _⟩
  · rw [if_neg c1] at hdo ⊢
    rw [if_neg c1, gI_ob H.2.1 rfl, some_bind']
    by_cases c2 : (s.1 i).length = 0
    · rw [if_pos ((nI_eq0 (by omega)).mpr c2), if_pos c2]; exact ⟨w, rfl, h, Chg.rf _ _⟩
    · rw [if_neg c2] at hdo ⊢
      rw [if_neg (fun q => c2 ((nI_eq0 (by omega)).mp q)), H.cl, keyAt_0 H S (by omega), some_bind']
      by_cases c3 : f_X10_isKey (nI (nth (s.1 i) 0 / 2) + x) = 0
      · rw [if_pos c3, if_pos c3]; exact ⟨w, rfl, h, Chg.rf _ _⟩
      · rw [if_neg c3] at hdo ⊢
        rw [if_neg c3, some_bind', show (1 : Int32) = nI 1 from rfl, nI_sub (by omega), H.cl, keyAt_in H S (by omega), some_bind']
        by_cases c4 : f_X10_isKey (nI (nth (s.1 i) ((s.1 i).length - 1) / 2) + x) = 0
        · rw [if_pos c4, if_pos c4]; exact ⟨w, rfl, h, Chg.rf _ _⟩
        · rw [if_neg c4] at hdo ⊢
          obtain ⟨g1, -⟩ := hdo (nI_pos (by omega))
          obtain ⟨w', k1, k2, k3⟩ := cshift_ok (x := x) S (fun a ha => (g1 a ha).1) hfu H
          rw [if_neg c4, H.cl, k1, some_bind', gI_ob k2.2.1 rfl, some_bind', List.length_map]
          exact ⟨w', rfl, h.put hi k2 k3, k3.mono (hpl_in hi)⟩
theorem mrShift {b : Nat} (B : MB C F ar b s) {i : Nat} (hi : i < 8) {x : Int32} (h1 : ¬ x < -9999) (h2 : x ≤ 9999) : f_X11_refusesShift (mW C F v ar) 123 (nI i) x = some (wOf (xShift s i x).1) := by
  have hl := (B.2.2.2.2 i hi).len
  have e0 : f_X11_isIn x (-9999) 9999 = 1 := by
    rw [f_X11_isIn, if_neg h1, if_neg (Int32.not_lt.mpr h2)]
  rw [f_X11_refusesShift, mSet_in hi, if_neg (by decide), e0, if_neg (by decide)]
  unfold xShift
  by_cases c1 : x = 0
  · rw [if_pos c1, if_pos c1, wOf_2]
  · rw [if_neg c1, if_neg c1, B.cl, B.many hi, some_bind']
    by_cases c2 : (s.1 i).length = 0
    · rw [if_pos ((nI_eq0 (by omega)).mpr c2), if_pos c2, wOf_2]
    · rw [if_neg (fun q => c2 ((nI_eq0 (by omega)).mp q)), if_neg c2, B.cl, B.key0 hi (by omega), some_bind', isKey_same]
      by_cases c3 : f_X10_isKey (nI (nth (s.1 i) 0 / 2) + x) = 0
      · rw [if_pos c3, if_pos c3, wOf_3]
      · rw [if_neg c3, if_neg c3, some_bind', show (1 : Int32) = nI 1 from rfl, nI_sub (by omega), B.cl, B.key hi (by omega), some_bind', isKey_same]
        by_cases c4 : f_X10_isKey (nI (nth (s.1 i) ((s.1 i).length - 1) / 2) + x) = 0
        · rw [if_pos c4, if_pos c4, wOf_3]
        · rw [if_neg c4, if_neg c4, wOf_n (by omega)]
theorem mshift_do {b : Nat} (B : MB C F ar b s) (hfu : 100 ≤ fu) {i : Nat} (hi : i < 8) {x : Int32} (h1 : ¬ x < -9999) (h2 : x ≤ 9999) (hx : ¬ (xShift s i x).1 < 0) : ∃ al, f_X11_shifts fu (mW C F v ar) 123 (nI i) x = some (mW C F v (ua ar 0 al)) ∧ M8 al b (xShift s i x).2 ∧ ∀ q, q < b ∨ b + 976 ≤ q → al q = ar 0 q := by
  obtain ⟨r1, r2⟩ := shRange h1 h2
  obtain ⟨g1, g2⟩ := xShift_do B.2.2.2.2 hi r1 r2 hx
  obtain ⟨al, k1, k2, k3⟩ := mshift_ok (v := v) B.1 B.2.1 B.2.2.1 hi (x := x) (B.2.2.2.2 i hi) (fun a ha => (g1 a ha).1) hfu (B.2.2.2.1 i hi)
  refine ⟨al, k1, ?_, fun q hq => k3 q (by omega)⟩
  rw [g2]
  exact B.2.2.2.1.put B.2.2.2.2 hi k2 k3
theorem shift_res (G : Good C F v ar s V n) (hfu : 20000 ≤ fu) (a x : Int32) : ∃ s' V', Res C F ar s' V' (f_X10_shift fu (mW C F v ar) 0 a x) (fun w => f_X11_shift fu w 123 a x) := by
  have e1 : f_X10_shift fu (mW C F v ar) 0 a x = actOf (fun w p => f_X7_shiftBy fu w p a x) fu (mW C F v ar) := rfl
  have e2 : (fun w => f_X11_shift fu w 123 a x) = mactOf (fun w => f_X11_refusesShift w 123 a x) (fun w => (cl w 11 123 (f_X11_shifts fu w 123 a x)).bind fun q8 => (cl q8 11 123 (f_X11_many q8 123 a)).bind fun q11 => some (q11, q8)) fu := rfl
  rw [e1, e2]
  have B := G.1.mb
  have O := G.1.2.2.2.1
  have hfu2 : 100 ≤ fu := by omega
  rcases set_cases a with ⟨i, hi, rfl⟩ | ha
  · by_cases h1 : x < -9999
    · refine ⟨_, _, act_bad G hfu (fun u hu => ?_) (fun C' hC' => ?_)⟩
      · rw [f_X7_shiftBy, hu.cl, heapAt_in hu hi, some_bind']
        dsimp only
        rw [if_pos h1]
      · rw [f_X11_refusesShift, mSet_in hi, if_neg (by decide), f_X11_isIn, if_pos h1, if_pos rfl]
    · by_cases h2 : x ≤ 9999
      · obtain ⟨r1, r2⟩ := shRange h1 h2
        obtain ⟨z1, z2, z3⟩ := xShift_rz O hi r1 r2
        refine ⟨_, _, act_res G hfu z2 z3 hpl_31 (fun u hu hz => ?_) z1 (fun C' hC' => ?_) (fun hx C' F' al hC' hF hM => ?_)⟩
        · obtain ⟨u', g1, g2, g3⟩ := cshiftBy_ok hu O hfu2 hi h1 h2
          exact ⟨u', g1, g2, hz.hp g3, g3⟩
        · exact mrShift (B.F hC' rfl B.2.2.2.1 O.1) hi h1 h2
        · have B1 : MB C' F' (ua ar 0 al) 0 s := B.F hC' (hF 9 (by omega)) (by rw [ua_eq]; exact hM) O.1
          obtain ⟨al2, g1, g2, g4⟩ := mshift_do (v := v) B1 hfu2 hi h1 h2 hx
          have B2 := B1.F (ar' := ua (ua ar 0 al) 0 al2) hC' rfl (by rw [ua_eq]; exact g2) z2.1
          refine ⟨F', v, ua (ua ar 0 al) 0 al2, ?_, by rw [ua_eq]; exact g2, fun q hq => by rw [ua_eq, g4 q (by omega), ua_eq], fun _ _ => rfl, fun k h1 h2 => by rw [ua_ne _ _ (by omega), ua_ne _ _ (by omega)]⟩
          rw [B1.cl, g1, some_bind', B2.cl, B2.many hi, some_bind', (xShift_do O.1 hi r1 r2 hx).2]
          dsimp only
          rw [vu_eq, List.length_map]
      · refine ⟨_, _, act_bad G hfu (fun u hu => ?_) (fun C' hC' => ?_)⟩
        · rw [f_X7_shiftBy, hu.cl, heapAt_in hu hi, some_bind']
          dsimp only
          rw [if_neg h1, if_neg h2]
        · rw [f_X11_refusesShift, mSet_in hi, if_neg (by decide), f_X11_isIn, if_neg h1, if_pos (Int32.not_le.mp h2), if_pos rfl]
  · refine ⟨_, _, act_bad G hfu (fun u hu => ?_) (fun C' hC' => ?_)⟩
    · rw [f_X7_shiftBy, hu.cl, heapAt_out ha, some_bind']
    · rw [f_X11_refusesShift, mSet_out ha, if_pos rfl]
end R
