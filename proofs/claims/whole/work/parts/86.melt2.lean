theorem rEnd_cost (R : RS) (n : Nat) (h : RB R n) : (rEnd R).2.1 ≤ R.2.1 + 1001 := by
  obtain ⟨h1, h2⟩ := h
  unfold rEnd
  split
  · omega
  · show R.2.1 + 1 + Nat.log2 R.2.2.2.1 ≤ _
    have := Nat.log2_le_self R.2.2.2.1
    omega
theorem rGo_cost (R : RS) (n o : Nat) (h : RB R n) : (rGo o R).2.1 ≤ R.2.1 + 1001 := by
  have := rEnd_cost R n h
  unfold rGo
  split
  · show R.2.1 ≤ _; omega
  · exact this
theorem rAll_cost : ∀ (es : List Nat) (R : RS), RB R es.length → (rAll es R).2.1 ≤ R.2.1 + (es.length + 1) * 1001
  | [], R, h => by
    have := rEnd_cost R 0 h
    show (rEnd R).2.1 ≤ _
    simp; omega
  | t :: es, R, h => by
    have h1 := rGo_cost R _ (if t ≤ 1 then 0 else 1) h
    have h2 := rAll_cost es (rGo (if t ≤ 1 then 0 else 1) R) (RB.go h _)
    show (rAll es (rGo (if t ≤ 1 then 0 else 1) R)).2.1 ≤ _
    simp only [List.length_cons] at *
    omega
theorem rs_cost {L M : List Nat} (S : SOK L) (S2 : SOK M) : (rsOf L M).2.1 < 200000 := by
  have l1 := S.len
  have l2 := S2.len
  have h := (evs_len S S2).2
  have := rAll_cost (evs L M) (0, 0, 0, 0, 0) ⟨by decide, by show 0 + _ ≤ 1000; omega⟩
  unfold rsOf
  simp only at this
  omega
section R
variable {C : MW} {F : Nat → Int32} {v : Int64} {ar : Nat → Nat → Int32} {s : AS} {V : List AS} {n : Nat} {fu : Nat}
theorem xMelt_rz (O : AOK s.1) {t o : Nat} (ht : t < 8) (ho : o < 8) (hto : t ≠ o) : RZ s (xMelt s t o) ∧ AOK (xMelt s t o).2.1 ∧ (FOK s → FOK (xMelt s t o).2) := by
  have S := O.1 t ht
  have S2 := O.1 o ho
  have hc := rs_cost S S2
  unfold xMelt
  by_cases c1 : (s.1 o).length = 0
  · rw [if_pos c1]; exact ⟨fun _ => ⟨rfl, by simp⟩, O, id⟩
  · rw [if_neg c1]
    by_cases c2 : 60 < (evs (s.1 t) (s.1 o)).length
    · rw [if_pos c2]; exact ⟨fun _ => ⟨rfl, by simp⟩, O, id⟩
    · rw [if_neg c2]
      obtain ⟨-, m2, m3⟩ := goI_mT O.1 ho ht (Ne.symm hto) (by omega)
      have hl := (evs_len S S2).2
      refine ⟨fun q => absurd q (nI_pos (by omega)), AOK_up2 O ht ho hto m3 ⟨List.Pairwise.nil, by simp, by simp⟩ (by rw [m2]; simp; omega), fun hF j hj => ?_⟩
      by_cases q1 : j = o
      · subst q1; exact Or.inl (by simp only [vu_eq])
      · by_cases q2 : j = t
        · subst q2
          simp only [vu_ne _ _ q1, vu_eq]
          by_cases z : (evs (s.1 j) (s.1 o)).length = (s.1 j).length
          · rw [if_pos z]
            rcases hF j hj with q | ⟨e, he, q⟩
            · exact Or.inl q
            · refine Or.inr ?_
              obtain ⟨-, -, k3, -, -⟩ := mT_ok S S2 _ (s.1 j).length (s.1 o).length (Nat.le_refl _) (Nat.le_refl _) (Nat.le_refl _)
              have h1 := k3 (e / 2)
              rw [List.take_length, List.take_length, (mk_some S.1).mpr ⟨he, rfl⟩] at h1
              cases h2 : mk (s.1 o) (e / 2) with
              | none =>
                rw [h2] at h1
                have h3 := (mk_some m3.1).mp h1
                exact ⟨e, h3.1, q⟩
              | some b =>
                rw [h2] at h1
                have h3 := (mk_some m3.1).mp h1
                exact ⟨_, h3.1, by rw [q, h3.2]⟩
          · rw [if_neg z]; exact Or.inl rfl
        · simp only [vu_ne _ _ q1, vu_ne _ _ q2]; exact hF j hj
theorem WC.sh {w : MW} {tw ks : Nat} {R : RS} (h : WC w tw ks R) : ∃ a b c d e, w[11]? = some (.inr (9, [.int a, .int b, .int c, .int d, .int e])) := ⟨_, _, _, _, _, h⟩
theorem Sc.wv {w w' : MW} (h : Sc w) (C : Chg [11] w w') (h2 : ∃ a b c d e, w'[11]? = some (.inr (9, [.int a, .int b, .int c, .int d, .int e]))) : Sc w' := by
  obtain ⟨z1, z2, ⟨f, z3⟩, z4, ⟨g, z5⟩⟩ := h
  exact ⟨z1.chg C (fun k hk => by simp at hk; omega), h2, ⟨f, C.at (by simp) z3⟩, C.at (by simp) z4, ⟨g, C.at (by simp) z5⟩⟩
theorem CS.wv {w : MW} {hs : Nat → List Nat} {fg : Nat → Int32} (h : CS w hs fg) : gR w 7 1 2 = some 11 := by
  obtain ⟨a, b, c, h1⟩ := h.1
  exact gR_ob h1 rfl
theorem cweave {w : MW} (h : CS w s.1 s.2) (Z : Sc w) (O : ∀ q, q < 8 → SOK (s.1 q)) (hfu : 2000 ≤ fu) {t o : Nat} (ht : t < 8) (ho : o < 8) : ∃ w', f_X9_weave fu w 11 (13 + 2 * t) (13 + 2 * o) = some w' ∧ WC w' (twN (s.1 t) (s.1 o)) (evs (s.1 t) (s.1 o)).length (rsOf (s.1 t) (s.1 o)) ∧ CS w' s.1 s.2 ∧ Sc w' ∧ Chg [11] w w' := by
  obtain ⟨w', g1, g2, g3⟩ := weave_ok hfu (by omega) (by omega) (by omega) (by omega) (O t ht) (O o ho) (h.ha ht) (h.ha ho) Z.2.1
  exact ⟨w', g1, g2, h.chg g3 (fun k hk => by simp at hk; omega), Z.wv g3 g2.sh, g3⟩
theorem whyNot_ok {w : MW} (h : CS w s.1 s.2) (O : ∀ q, q < 8 → SOK (s.1 q)) {t o : Nat} (ht : t < 8) (ho : o < 8) {R : RS} {tw : Nat} (hW : WC w tw (evs (s.1 t) (s.1 o)).length R) : f_X7_whyNotMelt w 1 (13 + 2 * o) 11 = some (if (s.1 o).length = 0 then -2 else if 60 < (evs (s.1 t) (s.1 o)).length then -4 else 0) := by
  have l1 := (O t ht).len
  have l2 := (O o ho).len
  have hl := (evs_len (O t ht) (O o ho)).2
  rw [f_X7_whyNotMelt, gI_ob (h.ha ho).2.1 rfl, some_bind']
  by_cases c1 : (s.1 o).length = 0
  · rw [if_pos ((nI_eq0 (by omega)).mpr c1), if_pos c1]
  · rw [if_neg (fun q => c1 ((nI_eq0 (by omega)).mp q)), if_neg c1, gI_ob hW rfl, some_bind', show (60 : Int32) = nI 60 from rfl]
    by_cases c2 : 60 < (evs (s.1 t) (s.1 o)).length
    · rw [if_neg (nI_ge c2 (by omega)), if_pos c2]
    · rw [if_pos (nI_le (by omega) (by omega)), if_neg c2]
theorem cmelt_ok {w : MW} (h : CS w s.1 s.2) (Z : Sc w) (O : AOK s.1) (hfu : 2000 ≤ fu) {t o : Nat} (ht : t < 8) (ho : o < 8) (hto : t ≠ o) : ∃ w', f_X7_meltTo fu w 1 (nI t) (nI o) = some ((xMelt s t o).1, w') ∧ CS w' (xMelt s t o).2.1 (xMelt s t o).2.2 ∧ Sc w' ∧ Chg (11 :: hpl) w w' := by
  obtain ⟨w1, g1, g2, g3, g4, g5⟩ := cweave h Z O.1 hfu ht ho
  have k5 : Chg (11 :: hpl) w w1 := g5.mono (by simp)
  obtain ⟨a, b, c, d, e, h11⟩ := Z.2.1
  rw [f_X7_meltTo, h.cl, heapAt_in h ht, some_bind']
  dsimp only
  rw [h.cl, heapAt_in h ho, some_bind']
  dsimp only
  rw [if_neg (set_ne ht ho hto), h.wv, some_bind', cl_ob h11, g1, some_bind', g3.wv, some_bind', g3.cl, whyNot_ok g3 O.1 ht ho g2, some_bind', bnd_eq]
  unfold xMelt
  by_cases c1 : (s.1 o).length = 0
  · rw [if_pos c1, if_neg (by decide), if_pos c1]
    exact ⟨w1, rfl, g3, g4, k5⟩
  · rw [if_neg c1, if_neg c1]
    by_cases c2 : 60 < (evs (s.1 t) (s.1 o)).length
    · rw [if_pos c2, if_neg (by decide), if_pos c2]
      exact ⟨w1, rfl, g3, g4, k5⟩
    · rw [if_neg c2, if_pos rfl, if_neg c2]
      obtain ⟨-, m2, m3⟩ := goI_mT O.1 ho ht (Ne.symm hto) (by omega)
      obtain ⟨w2, k1, k2, k3, k4⟩ := absorb_ok (show 200 ≤ fu by omega) (by omega) (by omega) (by omega) (by omega) (O.1 t ht) (O.1 o ho) (g3.ha ht) (g3.ha ho) m2.symm (by omega)
      have k4' : Chg [13 + 2 * t, 14 + 2 * t, 13 + 2 * o, 14 + 2 * o] w1 w2 := k4.mono (by simp)
      have C2 := g3.put2 ht ho hto k2 k3 k4'
      have W2 : WC w2 _ _ _ := k4.at (by simp; omega) g2
      rw [some_bind', gI_ob g2 rfl, some_bind', (g3.ha ht).cl, k1, some_bind', C2.wv, some_bind', gI_ob W2 rfl, some_bind']
      refine ⟨w2, rfl, C2, g4.hp (k4'.mono (hpl_in2 ht ho)), k5.tr ((k4'.mono (hpl_in2 ht ho)).mono (fun k hk => List.mem_cons_of_mem _ hk))⟩
theorem mrMelt {b : Nat} (B : MB C F ar b s) (hfu : 100 ≤ fu) {t o : Nat} (ht : t < 8) (ho : o < 8) (hto : t ≠ o) : f_X11_refusesMelt fu (mW C F v ar) 123 (nI t) (nI o) = some (wOf (xMelt s t o).1) := by
  have S := B.2.2.2.2 t ht
  have S2 := B.2.2.2.2 o ho
  have l1 := S.len
  have l2 := S2.len
  have hl := (evs_len S S2).2
  have hc := rs_cost S S2
  rw [f_X11_refusesMelt, B.cl, mTwo_in ht ho hto, some_bind', if_neg (by decide), B.cl, B.many ho, some_bind']
  unfold xMelt
  by_cases c1 : (s.1 o).length = 0
  · rw [if_pos ((nI_eq0 (by omega)).mpr c1), if_pos c1, wOf_2]
  · rw [if_neg (fun q => c1 ((nI_eq0 (by omega)).mp q)), if_neg c1, B.cl, B.many ht, some_bind', B.cl, some_bind', twins_ok hfu ht ho B, some_bind', nI_add, nI_sub (by omega), show (s.1 t).length + (s.1 o).length - twN (s.1 t) (s.1 o) = (evs (s.1 t) (s.1 o)).length by omega, show (60 : Int32) = nI 60 from rfl]
    by_cases c2 : 60 < (evs (s.1 t) (s.1 o)).length
    · rw [if_neg (nI_ge c2 (by omega)), if_pos c2, wOf_4]
    · rw [if_pos (nI_le (by omega) (by omega)), if_neg c2, wOf_n (by omega)]
theorem mmelt_do {b : Nat} (B : MB C F ar b s) (hfu : 100 ≤ fu) {t o : Nat} (ht : t < 8) (ho : o < 8) (hto : t ≠ o) (hx : ¬ (xMelt s t o).1 < 0) : ∃ al, f_X11_goOver fu (mW C F v ar) 123 (nI o) (nI 0) (nI 9999) (nI t) = some (nI (s.1 o).length, mW C F v (ua ar 0 al)) ∧ M8 al b (xMelt s t o).2 ∧ ∀ q, q < b ∨ b + 976 ≤ q → al q = ar 0 q := by
  have S := B.2.2.2.2 t ht
  have S2 := B.2.2.2.2 o ho
  have l2 := S2.len
  obtain ⟨h1, h2, h3, h4⟩ := xMelt_do B.2.2.2.2 ho ht hto hx
  have hc := evs_cNew S S2
  obtain ⟨al, g1, g2, g3, g4⟩ := mgo_loop (v := v) B.1 B.2.1 B.2.2.1 ho ht (Ne.symm hto) hfu 0 (s.1 o).length l2 fu 0 s ar B.2.2.2.2 B.2.2.2.1 (by omega) (by omega) (by rw [List.drop_zero, Nat.sub_zero, List.take_length]; omega) (by omega)
  rw [Nat.sub_zero] at g2
  refine ⟨al, ?_, by rw [h4]; exact g2, g4⟩
  rw [f_X11_goOver, B.cl, B.counted ho hfu, some_bind', bnd_eq, B.cl, B.below ho hfu, some_bind', bnd_eq, bnd_eq, hmb_all S2, bel_zero S2]
  exact g1
theorem melt_bad {u : MW} (hu : CS u s.1 s.2) {a c : Int32} (h : (a < 0 ∨ 8 ≤ a) ∨ (c < 0 ∨ 8 ≤ c) ∨ a = c) : f_X7_meltTo fu u 1 a c = some (-1, u) := by
  rw [f_X7_meltTo, hu.cl]
  rcases set_cases a with ⟨i, hi, rfl⟩ | ha
  · rw [heapAt_in hu hi, some_bind']
    dsimp only
    rw [hu.cl]
    rcases set_cases c with ⟨j, hj, rfl⟩ | hc
    · rw [heapAt_in hu hj, some_bind']
      dsimp only
      rw [if_pos]
      rcases h with h | h | h
      · exact absurd ⟨(in_set hi).1, (in_set hi).2, trivial⟩ (out_not (P := True) h)
      · exact absurd ⟨(in_set hj).1, (in_set hj).2, trivial⟩ (out_not (P := True) h)
      · exact h
    · rw [heapAt_out hc, some_bind']
  · rw [heapAt_out ha, some_bind']
    dsimp only
    rw [hu.cl]
    rcases set_cases c with ⟨j, hj, rfl⟩ | hc
    · rw [heapAt_in hu hj, some_bind']
    · rw [heapAt_out hc, some_bind']
theorem melt_res (G : Good C F v ar s V n) (hfu : 20000 ≤ fu) (a c : Int32) : ∃ s' V', Res C F ar s' V' (f_X10_melt fu (mW C F v ar) 0 a c) (fun w => f_X11_melt fu w 123 a c) := by
  have e1 : f_X10_melt fu (mW C F v ar) 0 a c = actOf (fun w p => f_X7_meltTo fu w p a c) fu (mW C F v ar) := rfl
  have e2 : (fun w => f_X11_melt fu w 123 a c) = mactOf (fun w => f_X11_refusesMelt fu w 123 a c) (fun w => (cl w 11 123 (f_X11_laysRuns fu w 123 a c)).bind fun q8 => (gI q8 11 123 17).bind fun x11 => bnd x11 fun x12 => (cl q8 11 123 (f_X11_goOver fu q8 123 c (0 : Int32) (9999 : Int32) a)).bind fun q13 => bnd q13.1 fun x16 => if x16 ≤ 0 then some ((0 : Int32), q13.2) else some (x12, q13.2)) fu := rfl
  rw [e1, e2]
  have B := G.1.mb
  have O := G.1.2.2.2.1
  have hfu2 : 2000 ≤ fu := by omega
  have hfu3 : 100 ≤ fu := by omega
  rcases two_cases a c with ⟨t, o, ht, ho, hto, rfl, rfl⟩ | hac
  · obtain ⟨z1, z2, z3⟩ := xMelt_rz O ht ho hto
    have l2 := (O.1 o ho).len
    refine ⟨_, _, act_res G hfu z2 z3 (ks := 11 :: hpl) (fun k hk => ?_) (fun u hu hz => cmelt_ok hu hz O hfu2 ht ho hto) z1 (fun C' hC' => ?_) (fun hx C' F' al hC' hF hM => ?_)⟩
    · rcases List.mem_cons.mp hk with rfl | hk
      · omega
      · exact hpl_31 k hk
    · exact mrMelt (B.F hC' rfl B.2.2.2.1 O.1) hfu3 ht ho hto
    · have B1 : MB C' F' (ua ar 0 al) 0 s := B.F hC' (hF 9 (by omega)) (by rw [ua_eq]; exact hM) O.1
      obtain ⟨F1, g1, g2, g3⟩ := lays_ok (v := v) hfu2 ht ho B1
      have B2 : MB C' F1 (ua ar 0 al) 0 s := B1.F hC' (g3 9 (by omega)) B1.2.2.2.1 O.1
      obtain ⟨al2, k1, k2, k3⟩ := mmelt_do (v := v) B2 hfu3 ht ho hto hx
      obtain ⟨h1, h2, h3, h4⟩ := xMelt_do O.1 ho ht hto hx
      refine ⟨F1, v, ua (ua ar 0 al) 0 al2, ?_, by rw [ua_eq]; exact k2, fun q hq => by rw [ua_eq, k3 q (by omega), ua_eq], fun k hk => g3 k (by omega), fun k h1 h2 => by rw [ua_ne _ _ (by omega), ua_ne _ _ (by omega)]⟩
      rw [B1.cl, g1, some_bind', m_gI hC' F1 v _ 17 rfl, some_bind', bnd_eq, B2.cl, show (9999 : Int32) = nI 9999 from rfl, show (0 : Int32) = nI 0 from rfl, k1, some_bind', bnd_eq, if_neg (nI_ge (by show 0 < _; omega) (by omega)), g2.2.1, h3]
  · refine ⟨_, _, act_bad G hfu (fun u hu => melt_bad hu hac) (fun C' hC' => ?_)⟩
    rw [f_X11_refusesMelt, m_cl hC', mTwo_out hac, some_bind', if_pos rfl]
end R
