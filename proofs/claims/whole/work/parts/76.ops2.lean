section R
variable {C : MW} {F : Nat → Int32} {v : Int64} {ar : Nat → Nat → Int32} {s : AS} {V : List AS} {n : Nat} {fu : Nat}
theorem wJoin_v (s : AS) (t o : Nat) : wJoin s t o = 0 ∨ wJoin s t o = -2 ∨ wJoin s t o = -3 ∨ wJoin s t o = -4 := by
  unfold wJoin
  split
  · exact Or.inr (Or.inl rfl)
  · split
    · exact Or.inr (Or.inr (Or.inl rfl))
    · split
      · exact Or.inr (Or.inr (Or.inr rfl))
      · exact Or.inl rfl
theorem wJoin_0 {s : AS} {t o : Nat} (h : wJoin s t o = 0) : 1 ≤ (s.1 o).length ∧ ¬ (0 < (s.1 t).length ∧ nth (s.1 o) 0 / 2 ≤ nth (s.1 t) ((s.1 t).length - 1) / 2) ∧ (s.1 t).length + (s.1 o).length ≤ 60 := by
  unfold wJoin at h
  split at h
  · exact absurd h (by decide)
  · split at h
    · exact absurd h (by decide)
    · split at h
      · exact absurd h (by decide)
      · exact ⟨by omega, by assumption, by omega⟩
theorem mrJoin {b : Nat} (B : MB C F ar b s) {t o : Nat} (ht : t < 8) (ho : o < 8) (hto : t ≠ o) : f_X11_refusesJoin (mW C F v ar) 123 (nI t) (nI o) = some (wOf (wJoin s t o)) := by
  have S1 := B.2.2.2.2 t ht
  have S2 := B.2.2.2.2 o ho
  have l1 := S1.len
  have l2 := S2.len
  have fin : f_X11_refusesJoin_52 (mW C F v ar) 123 (nI t) (nI o) = some (if 60 < (s.1 t).length + (s.1 o).length then 4 else 0) := by
    rw [f_X11_refusesJoin_52, B.cl, B.many ht, some_bind', B.cl, B.many ho, some_bind', nI_add, show (60 : Int32) = nI 60 from rfl]
    by_cases c : 60 < (s.1 t).length + (s.1 o).length
    · rw [if_pos c, if_neg (nI_ge c (by omega))]
    · rw [if_neg c, if_pos (nI_le (by omega) (by omega))]
  have fin2 : wOf (if 60 < (s.1 t).length + (s.1 o).length then -4 else 0) = if 60 < (s.1 t).length + (s.1 o).length then 4 else 0 := by
    by_cases c : 60 < (s.1 t).length + (s.1 o).length
    · rw [if_pos c, if_pos c, wOf_4]
    · rw [if_neg c, if_neg c]; rfl
  rw [f_X11_refusesJoin, B.cl, mTwo_in ht ho hto, some_bind', if_neg (by decide), B.cl, B.many ho, some_bind']
  unfold wJoin
  by_cases c1 : (s.1 o).length = 0
  · rw [if_pos ((nI_eq0 (by omega)).mpr c1), if_pos c1, wOf_2]
  · rw [if_neg (fun q => c1 ((nI_eq0 (by omega)).mp q)), if_neg c1, B.cl, B.many ht, some_bind']
    by_cases c2 : (s.1 t).length = 0
    · rw [if_pos ((nI_le0 (by omega)).mpr c2), if_neg (show ¬ (0 < (s.1 t).length ∧ nth (s.1 o) 0 / 2 ≤ nth (s.1 t) ((s.1 t).length - 1) / 2) from fun q => by omega), fin, fin2]
    · rw [if_neg (fun q => c2 ((nI_le0 (by omega)).mp q)), B.cl, some_bind', show (1 : Int32) = nI 1 from rfl, nI_sub (by omega), B.cl, B.key ht (by omega), some_bind', show (0 : Int32) = nI 0 from rfl, B.key ho (by omega), some_bind']
      have b1 := S1.lt (show (s.1 t).length - 1 < (s.1 t).length by omega)
      have b2 := S2.lt (show 0 < (s.1 o).length by omega)
      by_cases c3 : nth (s.1 o) 0 / 2 ≤ nth (s.1 t) ((s.1 t).length - 1) / 2
      · rw [if_neg (nI_nlt c3 (by omega)), if_pos ⟨by omega, c3⟩, wOf_3]
      · rw [if_pos (nI_lt (by omega) (by omega)), if_neg (show ¬ (0 < (s.1 t).length ∧ nth (s.1 o) 0 / 2 ≤ nth (s.1 t) ((s.1 t).length - 1) / 2) from fun q => c3 q.2), fin]
        exact congrArg some fin2.symm
theorem wJoin_no (O : ∀ i, i < 8 → SOK (s.1 i)) {t o : Nat} (ht : t < 8) (h : wJoin s t o = 0) : ∀ z ∈ s.1 t, z / 2 < nth (s.1 o) 0 / 2 ∨ nth (s.1 o) (0 + (s.1 o).length - 1) / 2 < z / 2 := by
  intro z hz
  obtain ⟨h1, h2, h3⟩ := wJoin_0 h
  obtain ⟨q, hq, rfl⟩ := mem_nth hz
  refine Or.inl ?_
  rcases Nat.lt_or_ge q ((s.1 t).length - 1) with c | c
  · have := (O t ht).inc c (by omega)
    omega
  · rw [show q = (s.1 t).length - 1 by omega]; omega
theorem xJoin_rz (O : AOK s.1) {t o : Nat} (ht : t < 8) (ho : o < 8) (hto : t ≠ o) : RZ s (xJoin s t o) ∧ AOK (xJoin s t o).2.1 := by
  have l1 := (O.1 t ht).len
  have l2 := (O.1 o ho).len
  unfold xJoin
  by_cases c : wJoin s t o = 0
  · rw [if_pos c]
    obtain ⟨h1, h2, h3⟩ := wJoin_0 c
    refine ⟨fun q => absurd q (nI_pos (by omega)), ?_⟩
    exact give_aok O ho ht (Ne.symm hto) (by omega) (goI_giveA O.1 ho ht (Ne.symm hto) h1 (by omega) h3 (wJoin_no O.1 ht c)).2
  · rw [if_neg c]
    exact ⟨fun _ => ⟨rfl, by
      rcases wJoin_v s t o with h | h | h | h
      · exact absurd h c
      · exact Or.inr (Or.inl h)
      · exact Or.inr (Or.inr (Or.inl h))
      · exact Or.inr (Or.inr (Or.inr h))⟩, O⟩
theorem join_res (G : Good C F v ar s V n) (hfu : 20000 ≤ fu) (a c : Int32) : ∃ s' V', Res C F ar s' V' (f_X10_join fu (mW C F v ar) 0 a c) (fun w => f_X11_join fu w 123 a c) := by
  have e1 : f_X10_join fu (mW C F v ar) 0 a c = actOf (fun w p => f_X7_joinTo fu w p a c) fu (mW C F v ar) := rfl
  have e2 : (fun w => f_X11_join fu w 123 a c) = mactOf (fun w => f_X11_refusesJoin w 123 a c) (fun w => (cl w 11 123 (f_X11_many w 123 a)).bind fun q8 => (cl w 11 123 (f_X11_goOver fu w 123 c (0 : Int32) (9999 : Int32) a)).bind fun q11 => some ((q8 + q11.1), q11.2)) fu := rfl
  rw [e1, e2]
  have B := G.1.mb
  have O := G.1.2.2.2.1
  have hfu2 : 100 ≤ fu := by omega
  rcases two_cases a c with ⟨t, o, ht, ho, hto, rfl, rfl⟩ | hac
  · obtain ⟨z1, z2⟩ := xJoin_rz O ht ho hto
    have z3 : FOK s → FOK (xJoin s t o).2 := fun h => by
      unfold xJoin; split
      · exact h.give _ _ _ _
      · exact h
    have l1 := (O.1 t ht).len
    have l2 := (O.1 o ho).len
    refine ⟨_, _, act_res G hfu z2 z3 hpl_31 (fun u hu hz => ?_) z1 (fun C' hC' => ?_) (fun hx C' F' al hC' hF hM => ?_)⟩
    · obtain ⟨u', g1, g2, g3⟩ := cjoin_ok hu O hfu2 ht ho hto
      exact ⟨u', g1, g2, hz.hp g3, g3⟩
    · rw [mrJoin (B.F hC' rfl B.2.2.2.1 O.1) ht ho hto]
      show _ = some (wOf _)
      unfold xJoin
      by_cases c : wJoin s t o = 0
      · rw [if_pos c, c, wOf_n (by omega)]; rfl
      · rw [if_neg c]
    · unfold xJoin at hx ⊢
      by_cases c : wJoin s t o = 0
      · obtain ⟨h1, h2, h3⟩ := wJoin_0 c
        rw [if_pos c]
        have B1 : MB C' F' (ua ar 0 al) 0 s := B.F hC' (hF 9 (by omega)) (by rw [ua_eq]; exact hM) O.1
        obtain ⟨al2, g1, g2⟩ := give_do (v := v) B hfu2 ho ht (Ne.symm hto) (hmb_all (O.1 o ho)) (bel_zero (O.1 o ho)) h1 (by omega) h3 (wJoin_no O.1 ht c) hC' hF hM
        refine ⟨F', v, _, ?_, g2⟩
        rw [B1.cl, B1.many ht, some_bind', B1.cl, show (9999 : Int32) = nI 9999 from rfl, show (0 : Int32) = nI 0 from rfl, g1, some_bind', nI_add]
      · rw [if_neg c] at hx
        refine absurd ?_ hx
        rcases wJoin_v s t o with h | h | h | h
        · exact absurd h c
        · show wJoin s t o < 0; rw [h]; decide
        · show wJoin s t o < 0; rw [h]; decide
        · show wJoin s t o < 0; rw [h]; decide
  · refine ⟨_, _, act_bad G hfu (fun u hu => join_bad hu hac) (fun C' hC' => ?_)⟩
    rw [f_X11_refusesJoin, m_cl hC', mTwo_out hac, some_bind', if_pos rfl]
theorem mrMove {e : Nat} (B : MB C F ar e s) {fu : Nat} (hfu : 100 ≤ fu) {i j a b : Nat} (hi : i < 8) (hj : j < 8) (hij : i ≠ j) (ha : a < 10000) (hb : b < 10000) : f_X11_refusesMove fu (mW C F v ar) 123 (nI i) (nI a) (nI b) (nI j) = some (wOf (xMove s i a b j).1) := by
  have S := B.2.2.2.2 i hi
  have S2 := B.2.2.2.2 j hj
  have hl := S.len
  have hl2 := S2.len
  have n1 := bel_le (s.1 i) (nI a)
  have n2 := nab_le (s.1 i) (nI b)
  rw [f_X11_refusesMove, B.cl, mTwo_in hi hj hij, some_bind', mKey_in ha, mKey_in hb, if_neg (by decide), if_neg (by decide), if_neg (by decide), B.cl, B.counted hi hfu, some_bind', bnd_eq]
  unfold xMove
  have hg : hmb (s.1 i) (nI a) (nI b) ≤ 60 := by unfold hmb; omega
  by_cases c1 : hmb (s.1 i) (nI a) (nI b) = 0
  · rw [if_pos ((nI_eq0 (by omega)).mpr c1), if_pos c1, wOf_2]
  · have hr : bel (s.1 i) (nI a) + hmb (s.1 i) (nI a) (nI b) ≤ (s.1 i).length := by unfold hmb at c1 ⊢; omega
    have n3 := nab_le (s.1 j) (nI (nth (s.1 i) (bel (s.1 i) (nI a) + hmb (s.1 i) (nI a) (nI b) - 1) / 2))
    have hg2 : hmb (s.1 j) (nI (nth (s.1 i) (bel (s.1 i) (nI a)) / 2)) (nI (nth (s.1 i) (bel (s.1 i) (nI a) + hmb (s.1 i) (nI a) (nI b) - 1) / 2)) ≤ 60 := Nat.le_trans (Nat.sub_le _ _) (by omega)
    rw [if_neg (fun q => c1 ((nI_eq0 (by omega)).mp q)), if_neg c1, B.cl, B.below hi hfu, some_bind', bnd_eq, B.cl, B.key hi (by omega), some_bind', nI_add, show (1 : Int32) = nI 1 from rfl, nI_sub (by omega), B.cl, B.key hi (by omega), some_bind', B.cl, B.counted hj hfu, some_bind']
    by_cases c2 : 0 < hmb (s.1 j) (nI (nth (s.1 i) (bel (s.1 i) (nI a)) / 2)) (nI (nth (s.1 i) (bel (s.1 i) (nI a) + hmb (s.1 i) (nI a) (nI b) - 1) / 2))
    · rw [if_neg (fun q => by have := (nI_le0 (by omega)).mp q; omega), if_pos c2, wOf_3]
    · rw [if_pos ((nI_le0 (by omega)).mpr (by omega)), if_neg c2, B.cl, B.many hj, some_bind', nI_add, show (60 : Int32) = nI 60 from rfl]
      by_cases c3 : 60 < (s.1 j).length + hmb (s.1 i) (nI a) (nI b)
      · rw [if_neg (nI_ge c3 (by omega)), if_pos c3, wOf_4]
      · rw [if_pos (nI_le (by omega) (by omega)), if_neg c3, wOf_n (by omega)]
theorem xMove_do (O : ∀ i, i < 8 → SOK (s.1 i)) {i j a b : Nat} (hi : i < 8) (hj : j < 8) (hij : i ≠ j) (hx : ¬ (xMove s i a b j).1 < 0) : 1 ≤ hmb (s.1 i) (nI a) (nI b) ∧ bel (s.1 i) (nI a) + hmb (s.1 i) (nI a) (nI b) ≤ (s.1 i).length ∧ (s.1 j).length + hmb (s.1 i) (nI a) (nI b) ≤ 60 ∧ (∀ z ∈ s.1 j, z / 2 < nth (s.1 i) (bel (s.1 i) (nI a)) / 2 ∨ nth (s.1 i) (bel (s.1 i) (nI a) + hmb (s.1 i) (nI a) (nI b) - 1) / 2 < z / 2) ∧ xMove s i a b j = (nI (hmb (s.1 i) (nI a) (nI b)), giveA s i j (bel (s.1 i) (nI a)) (hmb (s.1 i) (nI a) (nI b))) := by
  have hl := (O i hi).len
  have n1 := bel_le (s.1 i) (nI a)
  have n2 := nab_le (s.1 i) (nI b)
  unfold xMove at hx ⊢
  by_cases c1 : hmb (s.1 i) (nI a) (nI b) = 0
  · rw [if_pos c1] at hx; exact absurd (show (-2 : Int32) < 0 by decide) hx
  · have hr : bel (s.1 i) (nI a) + hmb (s.1 i) (nI a) (nI b) ≤ (s.1 i).length := by unfold hmb at c1 ⊢; omega
    rw [if_neg c1] at hx ⊢
    by_cases c2 : 0 < hmb (s.1 j) (nI (nth (s.1 i) (bel (s.1 i) (nI a)) / 2)) (nI (nth (s.1 i) (bel (s.1 i) (nI a) + hmb (s.1 i) (nI a) (nI b) - 1) / 2))
    · rw [if_pos c2] at hx; exact absurd (show (-3 : Int32) < 0 by decide) hx
    · rw [if_neg c2] at hx ⊢
      by_cases c3 : 60 < (s.1 j).length + hmb (s.1 i) (nI a) (nI b)
      · rw [if_pos c3] at hx; exact absurd (show (-4 : Int32) < 0 by decide) hx
      · rw [if_neg c3]
        have b1 := (O i hi).lt (show bel (s.1 i) (nI a) < (s.1 i).length by omega)
        have b2 := (O i hi).lt (show bel (s.1 i) (nI a) + hmb (s.1 i) (nI a) (nI b) - 1 < (s.1 i).length by omega)
        exact ⟨by omega, hr, by omega, hmb_no (O j hj) (by omega) (by omega) (by omega), rfl⟩
theorem xMove_rz (O : AOK s.1) {i j a b : Nat} (hi : i < 8) (hj : j < 8) (hij : i ≠ j) : RZ s (xMove s i a b j) ∧ AOK (xMove s i a b j).2.1 := by
  have hl := (O.1 i hi).len
  by_cases hx : (xMove s i a b j).1 < 0
  · have n2 := nab_le (s.1 i) (nI b)
    have hg : hmb (s.1 i) (nI a) (nI b) ≤ 60 := by unfold hmb; omega
    unfold xMove at hx ⊢
    split
    · exact ⟨fun _ => ⟨rfl, by simp⟩, O⟩
    · split
      · exact ⟨fun _ => ⟨rfl, by simp⟩, O⟩
      · split
        · exact ⟨fun _ => ⟨rfl, by simp⟩, O⟩
        · rename_i c1 c2 c3
          rw [if_neg c1, if_neg c2, if_neg c3] at hx
          exact absurd hx (nI_pos (by omega))
  · obtain ⟨h1, h2, h3, h4, h5⟩ := xMove_do O.1 hi hj hij hx
    refine ⟨fun q => absurd q hx, ?_⟩
    rw [h5]
    exact give_aok O hi hj hij h2 (goI_giveA O.1 hi hj hij h1 h2 h3 h4).2
theorem move_res (G : Good C F v ar s V n) (hfu : 20000 ≤ fu) (a b d c : Int32) : ∃ s' V', Res C F ar s' V' (f_X10_move fu (mW C F v ar) 0 a b d c) (fun w => f_X11_move fu w 123 a b d c) := by
  have e1 : f_X10_move fu (mW C F v ar) 0 a b d c = actOf (fun w p => f_X7_moveStretch fu w p a b d c) fu (mW C F v ar) := rfl
  have e2 : (fun w => f_X11_move fu w 123 a b d c) = mactOf (fun w => f_X11_refusesMove fu w 123 a b d c) (fun w => (cl w 11 123 (f_X11_goOver fu w 123 a b d c)).bind fun q8 => some (q8.1, q8.2)) fu := rfl
  rw [e1, e2]
  have B := G.1.mb
  have O := G.1.2.2.2.1
  have hfu2 : 100 ≤ fu := by omega
  rcases two_cases a c with ⟨i, j, hi, hj, hij, rfl, rfl⟩ | hac
  · rcases key_cases b with ⟨k, hk, rfl⟩ | hb
    · rcases key_cases d with ⟨m, hm, rfl⟩ | hd
      · obtain ⟨z1, z2⟩ := xMove_rz (a := k) (b := m) O hi hj hij
        have z3 : FOK s → FOK (xMove s i k m j).2 := fun h => by
          unfold xMove; split
          · exact h
          · split
            · exact h
            · split
              · exact h
              · exact h.give _ _ _ _
        refine ⟨_, _, act_res G hfu z2 z3 hpl_31 (fun u hu hz => ?_) z1 (fun C' hC' => ?_) (fun hx C' F' al hC' hF hM => ?_)⟩
        · obtain ⟨u', g1, g2, g3⟩ := cmove_ok hu O hfu2 hi hj hij hk hm
          exact ⟨u', g1, g2, hz.hp g3, g3⟩
        · exact mrMove (B.F hC' rfl B.2.2.2.1 O.1) hfu2 hi hj hij hk hm
        · obtain ⟨h1, h2, h3, h4, h5⟩ := xMove_do O.1 hi hj hij hx
          obtain ⟨al2, g1, g2⟩ := give_do (v := v) B hfu2 hi hj hij (x := nI k) (y := nI m) rfl rfl h1 h2 h3 h4 hC' hF hM
          rw [h5]
          refine ⟨F', v, _, ?_, g2⟩
          rw [m_cl hC', g1, some_bind']
      · refine ⟨_, _, act_bad G hfu (fun u hu => move_bad hu (Or.inr (Or.inr hd))) (fun C' hC' => ?_)⟩
        rw [f_X11_refusesMove, m_cl hC', mTwo_in hi hj hij, some_bind', mKey_in hk, mKey_out hd, if_neg (by decide), if_neg (by decide), if_pos rfl]
    · refine ⟨_, _, act_bad G hfu (fun u hu => move_bad hu (Or.inr (Or.inl hb))) (fun C' hC' => ?_)⟩
      rw [f_X11_refusesMove, m_cl hC', mTwo_in hi hj hij, some_bind', mKey_out hb, if_neg (by decide), if_pos rfl]
  · refine ⟨_, _, act_bad G hfu (fun u hu => move_bad hu (Or.inl hac)) (fun C' hC' => ?_)⟩
    rw [f_X11_refusesMove, m_cl hC', mTwo_out hac, some_bind', if_pos rfl]
theorem undo_res (G : Good C F v ar s V n) (hfu : 20000 ≤ fu) : ∃ s' V', Res C F ar s' V' (f_X10_undo fu (mW C F v ar) 0) (fun w => f_X11_undo fu w 123) := by
  obtain ⟨⟨hC, T, h, O, P, M, U, h8, h9⟩, Z, FO, FV⟩ := id G
  obtain ⟨a, b, t0⟩ := id T
  have hV := U.1
  by_cases c : V.length = 0
  · refine ⟨s, V, -1, mW C F v ar, C, F, v, ar, n, ?_, ?_, m_cl hC _ _ _ _, G, fun _ _ => rfl, fun _ _ => rfl, fun _ _ _ => rfl, fun _ _ => rfl⟩
    · rw [f_X10_undo, gR_ob t0 rfl, some_bind', gI_ob P.2.2.1 rfl, some_bind', if_pos ((nI_eq0 (by omega)).mpr c)]
    · dsimp only
      rw [f_X11_undo, m_gI hC F v ar 8 rfl, some_bind', h8, if_pos ((nI_eq0 (by omega)).mpr c)]
  · obtain ⟨w', g1, g2, g3, g4⟩ := stepBack_ok (show 100 ≤ fu by omega) h P (by omega)
    obtain ⟨C', b1, b2, b3⟩ := mW_chg hC g4 (fun k hk => by
      rcases List.mem_cons.mp hk with rfl | hk
      · omega
      · have := hpl_31 k hk; omega)
    have hm0 : 0 ∉ 31 :: hpl := by decide
    have T1 := T.chg g4 hm0
    obtain ⟨a', b', t1⟩ := id T1
    have Z1 := Z.chg g4 (fun k hk => by
      rcases List.mem_cons.mp hk with rfl | hk
      · omega
      · have := hpl_sc k hk; omega)
    subst b2
    have hl : (V.take (V.length - 1)).length = V.length - 1 := by simp
    have hPV := P.2.2.2.2.2 (V.length - 1) (by omega)
    have hUV := U.2 (V.length - 1) (by omega)
    have hcp := mcopies_ok (C := C') (F := upd F 8 (nI (V.length - 1))) (v := v) (ar := ar) (fu := fu) (fr := 1952 + 976 * (V.length - 1)) (to := 0) (n := 976) b1 hfu (by omega) (by omega) (by omega) (by omega)
    refine ⟨V.getD (V.length - 1) as0, V.take (V.length - 1), nI (V.length - 1), mW C' F v ar, C', upd F 8 (nI (V.length - 1)), v, ua ar 0 (cpF (ar 0) (1952 + 976 * (V.length - 1)) 0 976 0), _, ?_, ?_, m_cl b1 _ _ _ _, ⟨⟨b1, T1.m b1 _ _ _, g2.m b1 _ _ _, hPV.2, g3.m b1 _ _ _, ?_, ?_, ?_, ?_⟩, Z1.m b1 _ _ _, ?_, fun W hW => FV W (List.mem_of_mem_take hW)⟩, fun k hk => b3 k (fun q => hk ?_), fun k hk => upd_ne _ _ (by omega), fun k h1 h2 => ua_ne _ _ (by omega), fun q hq => ?_⟩
    · rw [f_X10_undo, gR_ob t0 rfl, some_bind', gI_ob P.2.2.1 rfl, some_bind', if_neg (fun q => c ((nI_eq0 (by omega)).mp q)), some_bind', gR_ob t0 rfl, some_bind', P.cl, g1, some_bind', gR_ob t1 rfl, some_bind', gI_ob g3.2.2.1 rfl, some_bind', hl]
    · dsimp only
      rw [f_X11_undo, m_gI b1 F v ar 8 rfl, some_bind', h8, if_neg (fun q => c ((nI_eq0 (by omega)).mp q)), some_bind', show (1 : Int32) = nI 1 from rfl, nI_sub (by omega), m_p b1 F v _ 8 (by omega) (mF8 _), some_bind', m_gI b1 _ v ar 8 rfl, some_bind', upd_eq, show (976 : Int32) = nI 976 from rfl, nI_mul, show (1952 : Int32) = nI 1952 from rfl, nI_add, m_cl b1, show (0 : Int32) = nI 0 from rfl, hcp, some_bind', m_gI b1 _ v _ 8 rfl, some_bind', upd_eq]
    · rw [ua_eq]
      refine hUV.1.copy hUV.2 (fun q hq => ?_)
      unfold cpF
      rw [if_pos (by omega)]
      congr 1
      omega
    · rw [ua_eq]
      refine ⟨by omega, fun t ht => ?_⟩
      rw [hl] at ht
      rw [getD_t ht]
      have h1 := U.2 t (by omega)
      refine ⟨h1.1.copy h1.2 (fun q hq => ?_), h1.2⟩
      unfold cpF
      rw [if_neg (by omega)]
    · rw [upd_eq, hl]
    · rw [upd_ne _ _ (by omega)]; exact h9
    · refine FV _ ?_
      rw [List.getD_eq_getElem?_getD, List.getElem?_eq_getElem (by omega)]
      exact List.getElem_mem _
    · rw [actKs_iff]
      rcases List.mem_cons.mp q with rfl | hk
      · omega
      · have := hpl_31 k hk; omega
    · rw [ua_eq]
      unfold cpF
      rw [if_neg (by omega)]
end R
