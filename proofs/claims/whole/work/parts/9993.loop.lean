/-! THE LAW'S LOOP -/
theorem step_I {w : MW} {p : Option (Int32 × MW)} {q : MW → Option (Int32 × MW)} {K : MW → Option Int32} (h : ResI p q) (hc : cl w 10 0 p = p) (cont : ∀ w2, Inv w2 → K w2 = some 1) : ((cl w 10 0 p).bind fun q8 => (cl q8.2 11 123 (q q8.2)).bind fun q16 => if q8.1 = q16.1 then K q16.2 else some 0) = some 1 := by
  obtain ⟨x, w1, w2, h1, h2, h3, h4⟩ := h
  rw [hc, h1, some_bind']
  dsimp only
  rw [h3, h2, some_bind']
  dsimp only
  rw [if_pos rfl, cont w2 h4]
theorem step_P {w : MW} {p q : Option Int32} {K : MW → Option Int32} (h : ∃ x, p = some x ∧ q = some x) (hc : cl w 10 0 p = p) (hm : cl w 11 123 q = q) (cont : K w = some 1) : ((cl w 10 0 p).bind fun q8 => (cl w 11 123 q).bind fun q16 => if q8 = q16 then K w else some 0) = some 1 := by
  obtain ⟨x, h1, h2⟩ := h
  rw [hc, h1, some_bind', hm, h2, some_bind', if_pos rfl, cont]
section Q
variable {C : MW} {F : Nat → Int32} {v : Int64} {ar : Nat → Nat → Int32} {s : AS} {V : List AS} {n : Nat} {fu : Nat} {R : RT}
theorem Res.I {s' : AS} {V' : List AS} {p : Option (Int32 × MW)} {q : MW → Option (Int32 × MW)} (h : Res C F ar s' V' p q) (hC : C.length = 123) (rc : RestC (mW C F v ar) R) (rm : RestM F ar R) : ResI p q := by
  obtain ⟨x, w1, C', F', v', ar', n', h1, h2, h3, h4, h5⟩ := h
  exact ⟨x, w1, _, h1, h2, h3, Inv_res hC rc rm h4 h5⟩
theorem Res.I2 {p : Option (Int32 × MW)} {q : MW → Option (Int32 × MW)} (h : ∃ s' V', Res C F ar s' V' p q) (hC : C.length = 123) (rc : RestC (mW C F v ar) R) (rm : RestM F ar R) : ResI p q := by
  obtain ⟨s', V', h⟩ := h
  exact h.I hC rc rm
theorem step_M {a : Int32} {K : MW → Option Int32} (G : Good C F v ar s V n) (rc : RestC (mW C F v ar) R) (rm : RestM F ar R) (hfu : 20000 ≤ fu) (hc : ∀ p : Option (Int32 × MW), cl (mW C F v ar) 10 0 p = p) (cont : ∀ w2, Inv w2 → K w2 = some 1) : ((cl (mW C F v ar) 10 0 (f_X10_merged fu (mW C F v ar) 0 a)).bind fun q8 => (cl q8.2 11 123 (f_X11_merged fu q8.2 123 a)).bind fun q16 => if q8.1 = q16 then K q8.2 else some 0) = some 1 := by
  obtain ⟨x, C1, h1, h2, h3, h4⟩ := merged_res G hfu a
  rw [hc, h1, some_bind']
  dsimp only
  rw [m_cl h3.1.1, h2, some_bind', if_pos rfl]
  exact cont _ (Inv_res G.1.1 rc rm h3 ⟨h4, fun _ _ => rfl, fun _ _ _ => rfl, fun _ _ => rfl⟩)
end Q
theorem scr_in {Ln : Nat} {xs : Nat → Int32} {j : Nat} (h : j < Ln) (hL : Ln ≤ 3072) : scr Ln xs (nI j) = some (xs j) := by
  unfold scr
  rw [nI_clamp (by omega), if_pos ⟨nI_pos' (by omega), h⟩]
theorem law_loop (Ln : Nat) (xs : Nat → Int32) (hL : Ln ≤ 3072) {fu : Nat} (hfu : 20000 ≤ fu) : ∀ N j w, Inv w → j ≤ Ln + 6 → Ln + 6 - j < N → f_law_18 fu Ln xs N w 0 123 (nI j) = some 1 := by
  intro N
  induction N with
  | zero => intro j w _ _ h; omega
  | succ N ih =>
    intro j w hI hj hN
    rw [f_law_18]
    have e6 : (nI Ln - (6 : Int32)).toInt = (Ln : Int) - 6 := by
      rw [Int32.toInt_sub, nI_toInt (by omega), show (6 : Int32).toInt = 6 by decide]
      exact Int.bmod_eq_of_le (by omega) (by omega)
    by_cases c : (nI Ln - (6 : Int32)) < nI j
    · rw [if_pos c]
    · rw [if_neg c]
      have hj6 : j + 6 ≤ Ln := by
        rw [Int32.lt_iff_toInt_lt, e6, nI_toInt (by omega)] at c
        omega
      have cont : ∀ w2, Inv w2 → f_law_1196 fu Ln xs (f_law_18 fu Ln xs N) w2 0 123 (nI j) = some 1 := by
        intro w2 h2
        rw [f_law_1196, bnd_eq, show (6 : Int32) = nI 6 from rfl, nI_add]
        exact ih (j + 6) w2 h2 (by omega) (by omega)
      have k0 := scr_in (xs := xs) (show j < Ln by omega) hL
      have k1 : scr Ln xs (nI j + 1) = some (xs (j + 1)) := by rw [nI_1]; exact scr_in (by omega) hL
      have k2 : scr Ln xs (nI j + 2) = some (xs (j + 2)) := by rw [show (2 : Int32) = nI 2 from rfl, nI_add]; exact scr_in (by omega) hL
      have k3 : scr Ln xs (nI j + 3) = some (xs (j + 3)) := by rw [show (3 : Int32) = nI 3 from rfl, nI_add]; exact scr_in (by omega) hL
      have k4 : scr Ln xs (nI j + 4) = some (xs (j + 4)) := by rw [show (4 : Int32) = nI 4 from rfl, nI_add]; exact scr_in (by omega) hL
      have k5 : scr Ln xs (nI j + 5) = some (xs (j + 5)) := by rw [show (5 : Int32) = nI 5 from rfl, nI_add]; exact scr_in (by omega) hL
      obtain ⟨C, F, v, ar, s, V, n, R, rfl, G, rc, rm⟩ := id hI
      have hC := G.1.1
      have hc : ∀ {α : Type} (p : Option α), cl (mW C F v ar) 10 0 p = p := fun p => cl_ob rc.1 p
      have hm : ∀ {α : Type} (p : Option α), cl (mW C F v ar) 11 123 p = p := fun p => m_cl hC F v ar p
      have cw := cont _ hI
      rw [k0, some_bind']
      simp only [k1, k2, k3, k4, k5, some_bind']
      generalize xs j &&& 31 = o
      generalize xs (j + 1) = a at k1 ⊢
      generalize xs (j + 2) = b at k2 ⊢
      generalize xs (j + 3) = c at k3 ⊢
      generalize xs (j + 4) = d at k4 ⊢
      generalize xs (j + 5) = e at k5 ⊢
      by_cases o0 : o = 0
      · rw [if_pos o0]; exact step_I (q := fun w => f_X11_feed fu w 123 a b c d e) (feed_res G rc rm (by omega) a b c d e) (hc _) cont
      rw [if_neg o0]
      by_cases o1 : o = 1
      · rw [if_pos o1]; exact step_I (q := fun w => f_X11_end w 123 a) (end_res G rc rm a) (hc _) cont
      rw [if_neg o1]
      by_cases o2 : o = 2
      · rw [if_pos o2]; exact step_I (q := fun w => f_X11_text fu w 123) (text_res G rc rm hfu) (hc _) cont
      rw [if_neg o2]
      by_cases o3 : o = 3
      · rw [if_pos o3]; exact step_P (K := fun w => f_law_1196 fu Ln xs (f_law_18 fu Ln xs N) w 0 123 (nI j)) (fault_res G rc rm a) (hc _) (hm _) cw
      rw [if_neg o3]
      by_cases o4 : o = 4
      · rw [if_pos o4]; exact step_I (q := fun w => f_X11_put fu w 123 a b) (Res.I2 (put_res G hfu a b) hC rc rm) (hc _) cont
      rw [if_neg o4]
      by_cases o5 : o = 5
      · rw [if_pos o5]; exact step_I (q := fun w => f_X11_drop fu w 123 a b) (Res.I2 (drop_res G hfu a b) hC rc rm) (hc _) cont
      rw [if_neg o5]
      by_cases o6 : o = 6
      · rw [if_pos o6]; exact step_I (q := fun w => f_X11_cut fu w 123 a b c) (Res.I2 (cut_res G hfu a b c) hC rc rm) (hc _) cont
      rw [if_neg o6]
      by_cases o7 : o = 7
      · rw [if_pos o7]; exact step_I (q := fun w => f_X11_join fu w 123 a b) (Res.I2 (join_res G hfu a b) hC rc rm) (hc _) cont
      rw [if_neg o7]
      by_cases o8 : o = 8
      · rw [if_pos o8]; exact step_I (q := fun w => f_X11_melt fu w 123 a b) (Res.I2 (melt_res G hfu a b) hC rc rm) (hc _) cont
      rw [if_neg o8]
      by_cases o9 : o = 9
      · rw [if_pos o9]; exact step_I (q := fun w => f_X11_shift fu w 123 a b) (Res.I2 (shift_res G hfu a b) hC rc rm) (hc _) cont
      rw [if_neg o9]
      by_cases o10 : o = 10
      · rw [if_pos o10]; exact step_I (q := fun w => f_X11_move fu w 123 a b c d) (Res.I2 (move_res G hfu a b c d) hC rc rm) (hc _) cont
      rw [if_neg o10]
      by_cases o11 : o = 11
      · rw [if_pos o11]
        have key : ∀ g : Int32, (cl (mW C F v ar) 10 0 (f_X10_mark fu (mW C F v ar) 0 a b c g)).bind (fun q8 => (cl q8.2 11 123 (f_X11_mark fu q8.2 123 a b c g)).bind fun q16 => if q8.1 = q16.1 then f_law_1196 fu Ln xs (f_law_18 fu Ln xs N) q16.2 0 123 (nI j) else some 0) = some 1 := fun g => step_I (q := fun w => f_X11_mark fu w 123 a b c g) (Res.I2 (mark_res G hfu a b c g) hC rc rm) (hc _) cont
        by_cases hd : d = 0
        · simp only [f_law_580, k1, k2, k3, k4, some_bind', if_pos hd, f_law_612]
          exact key 0
        · simp only [f_law_580, k1, k2, k3, k4, some_bind', if_neg hd, f_law_612]
          exact key 1
      rw [if_neg o11]
      by_cases o12 : o = 12
      · rw [if_pos o12]; exact step_I (q := fun w => f_X11_seek fu w 123 a b) (Res.I2 (seek_res G hfu a b) hC rc rm) (hc _) cont
      rw [if_neg o12]
      by_cases o13 : o = 13
      · rw [if_pos o13]; exact step_I (q := fun w => f_X11_undo fu w 123) (Res.I2 (undo_res G hfu) hC rc rm) (hc _) cont
      rw [if_neg o13]
      by_cases o14 : o = 14
      · rw [if_pos o14]; exact step_I (q := fun w => f_X11_set fu w 123 a b) ((set_res G hfu a b).I hC rc rm) (hc _) cont
      rw [if_neg o14]
      by_cases o15 : o = 15
      · rw [if_pos o15]; exact step_P (K := fun w => f_law_1196 fu Ln xs (f_law_18 fu Ln xs N) w 0 123 (nI j)) (key_res G a b) (hc _) (hm _) cw
      rw [if_neg o15]
      by_cases o16 : o = 16
      · rw [if_pos o16]; exact step_I (q := fun w => f_X11_of fu w 123 a b c) ((of_res G hfu a b c).I hC rc rm) (hc _) cont
      rw [if_neg o16]
      by_cases o17 : o = 17
      · rw [if_pos o17]
        have key : ∀ g : Int32, (cl (mW C F v ar) 10 0 (f_X10_within fu (mW C F v ar) 0 a b c g)).bind (fun q8 => (cl (mW C F v ar) 11 123 (f_X11_within fu (mW C F v ar) 123 a b c g)).bind fun q16 => if q8 = q16 then f_law_1196 fu Ln xs (f_law_18 fu Ln xs N) (mW C F v ar) 0 123 (nI j) else some 0) = some 1 := fun g => step_P (K := fun w => f_law_1196 fu Ln xs (f_law_18 fu Ln xs N) w 0 123 (nI j)) (within_res G (by omega) a b c g) (hc _) (hm _) cw
        by_cases hd : d = 0
        · simp only [f_law_804, k1, k2, k3, k4, some_bind', if_pos hd, f_law_836]
          exact key 0
        · simp only [f_law_804, k1, k2, k3, k4, some_bind', if_neg hd, f_law_836]
          exact key 1
      rw [if_neg o17]
      by_cases o18 : o = 18
      · rw [if_pos o18]; exact step_I (q := fun w => f_X11_far fu w 123 a b c) ((far_res G hfu a b c).I hC rc rm) (hc _) cont
      rw [if_neg o18]
      by_cases o19 : o = 19
      · rw [if_pos o19]; exact step_P (K := fun w => f_law_1196 fu Ln xs (f_law_18 fu Ln xs N) w 0 123 (nI j)) (where_res G (by omega) a) (hc _) (hm _) cw
      rw [if_neg o19]
      by_cases o20 : o = 20
      · rw [if_pos o20]; exact step_I (q := fun w => f_X11_count fu w 123 a) ((count_res G rc rm hfu a).I hC rc rm) (hc _) cont
      rw [if_neg o20]
      by_cases o21 : o = 21
      · rw [if_pos o21]; exact step_I (q := fun w => f_X11_pair fu w 123 a b c) ((pair_res G hfu a b c).I hC rc rm) (hc _) cont
      rw [if_neg o21]
      by_cases o22 : o = 22
      · rw [if_pos o22]; exact step_I (q := fun w => f_X11_cheapest fu w 123 a) ((cheapest_res G hfu a).I hC rc rm) (hc _) cont
      rw [if_neg o22]
      by_cases o23 : o = 23
      · rw [if_pos o23]; exact step_M G rc rm hfu (fun p => hc p) cont
      rw [if_neg o23]
      by_cases o24 : o = 24
      · rw [if_pos o24]
        have key : ∀ g : Nat, g ≤ 1 → (cl (mW C F v ar) 10 0 (f_X10_would fu (mW C F v ar) 0 a b (nI g))).bind (fun q8 => (cl q8.2 11 123 (f_X11_would fu q8.2 123 a b (nI g))).bind fun q16 => if q8.1 = q16.1 then f_law_1196 fu Ln xs (f_law_18 fu Ln xs N) q16.2 0 123 (nI j) else some 0) = some 1 := fun g hg => step_I (q := fun w => f_X11_would fu w 123 a b (nI g)) ((would_res G hfu a b hg).I hC rc rm) (hc _) cont
        by_cases hd : c = 0
        · simp only [f_law_1046, k1, k2, k3, some_bind', if_pos hd, f_law_1073]
          exact key 0 (by omega)
        · simp only [f_law_1046, k1, k2, k3, some_bind', if_neg hd, f_law_1073]
          exact key 1 (by omega)
      rw [if_neg o24]
      by_cases o25 : o = 25
      · rw [if_pos o25]; exact step_P (K := fun w => f_law_1196 fu Ln xs (f_law_18 fu Ln xs N) w 0 123 (nI j)) (halves_res G a) (hc _) (hm _) cw
      rw [if_neg o25]
      by_cases o26 : o = 26
      · rw [if_pos o26]; exact step_I (q := fun w => f_X11_tell fu w 123 a) (tell_res G rc rm (by omega) a) (hc _) cont
      rw [if_neg o26]
      by_cases o27 : o = 27
      · rw [if_pos o27]; exact step_P (K := fun w => f_law_1196 fu Ln xs (f_law_18 fu Ln xs N) w 0 123 (nI j)) (octet_res G rc rm a) (hc _) (hm _) cw
      rw [if_neg o27]
      by_cases o28 : o = 28
      · rw [if_pos o28]; exact step_I (q := fun w => f_X11_image fu w 123 a) (image_res G rc rm hfu a) (hc _) cont
      rw [if_neg o28]
      by_cases o29 : o = 29
      · rw [if_pos o29]; exact step_I (q := fun w => f_X11_again fu w 123 a) (again_res G rc rm hfu a) (hc _) cont
      rw [if_neg o29]
      exact cw
