/-! COUNT, FAULT, OCTET, END, FEED -/
section Q
variable {C : MW} {F : Nat → Int32} {v : Int64} {ar : Nat → Nat → Int32} {s : AS} {V : List AS} {n : Nat} {fu : Nat} {R : RT}
theorem mcount_loop (hfu : 200 ≤ fu) {what : Int32} : ∀ N t f k F ar, MB C F ar 0 s → t ≤ 8 → 8 - t < N → ∃ F' g, f_X11_count_7 fu N (mW C F v ar) 123 what (nI f) (nI k) (nI t) = (if what = 0 then (cl (mW C F' v (ua ar 4 g)) 11 123 (f_X11_total fu (mW C F' v (ua ar 4 g)) 123)).bind fun q5 => some (q5, mW C F' v (ua ar 4 g)) else if what = 1 then some (nI (f + smF (neW s.1) t 8), mW C F' v (ua ar 4 g)) else if what = 2 then (cl (mW C F' v (ua ar 4 g)) 11 123 (f_X11_unlike fu (mW C F' v (ua ar 4 g)) 123)).bind fun q10 => some (q10, mW C F' v (ua ar 4 g)) else if what = 3 then some (nI (k + smF (mkW s.1) t 8), mW C F' v (ua ar 4 g)) else if what = 4 then (gI (mW C F' v (ua ar 4 g)) 11 123 8).bind fun x15 => some (x15, mW C F' v (ua ar 4 g)) else if what = 5 then (gI (mW C F' v (ua ar 4 g)) 11 123 4).bind fun x17 => some (x17, mW C F' v (ua ar 4 g)) else if what = 6 then (cl (mW C F' v (ua ar 4 g)) 11 123 (f_X11_huffman fu (mW C F' v (ua ar 4 g)) 123)).bind fun q19 => some (q19.1, q19.2) else if what = 7 then (gI (mW C F' v (ua ar 4 g)) 11 123 5).bind fun x23 => some (x23, mW C F' v (ua ar 4 g)) else some ((-1 : Int32), mW C F' v (ua ar 4 g))) ∧ (∀ k, k < 11 ∨ 15 < k → F' k = F k) := by
  intro N
  induction N with
  | zero => intro t f k F ar _ _ hN; omega
  | succ N ih =>
    intro t f k F ar B ht hN
    rw [f_X11_count_7]
    by_cases c : 8 ≤ t
    · rw [if_pos (show (8 : Int32) ≤ nI t from nI_le (a := 8) c (by omega)), smF_end _ c, smF_end _ c]
      exact ⟨F, ar 4, by rw [ua_self]; rfl, fun _ _ => rfl⟩
    · have ht8 : t < 8 := by omega
      have l1 := (B.2.2.2.2 t ht8).len
      obtain ⟨F1, g1, m1, m2⟩ := msum_ok (v := v) hfu ht8 3 B
      rw [if_neg (by decide)] at m1
      have e1 : smF (tmv 3 (s.1 t)) 0 (s.1 t).length = mkW s.1 t := by
        unfold mkW
        refine smF_congr (fun j _ _ => ?_)
        unfold tmv
        rw [if_pos rfl]
      rw [e1] at m1
      have B1 : MB C F1 (ua ar 4 g1) 0 s := B.F B.1 (m2 9 (by omega)) (by rw [ua_ne _ _ (by omega)]; exact B.2.2.2.1) B.2.2.2.2
      have nx : ∀ z, z = neW s.1 t → ∃ F' g, f_X11_count_29 fu (f_X11_count_7 fu N) (mW C F v ar) 123 what (nI k) (nI t) (nI f) (nI z) = (if what = 0 then (cl (mW C F' v (ua ar 4 g)) 11 123 (f_X11_total fu (mW C F' v (ua ar 4 g)) 123)).bind fun q5 => some (q5, mW C F' v (ua ar 4 g)) else if what = 1 then some (nI (f + smF (neW s.1) t 8), mW C F' v (ua ar 4 g)) else if what = 2 then (cl (mW C F' v (ua ar 4 g)) 11 123 (f_X11_unlike fu (mW C F' v (ua ar 4 g)) 123)).bind fun q10 => some (q10, mW C F' v (ua ar 4 g)) else if what = 3 then some (nI (k + smF (mkW s.1) t 8), mW C F' v (ua ar 4 g)) else if what = 4 then (gI (mW C F' v (ua ar 4 g)) 11 123 8).bind fun x15 => some (x15, mW C F' v (ua ar 4 g)) else if what = 5 then (gI (mW C F' v (ua ar 4 g)) 11 123 4).bind fun x17 => some (x17, mW C F' v (ua ar 4 g)) else if what = 6 then (cl (mW C F' v (ua ar 4 g)) 11 123 (f_X11_huffman fu (mW C F' v (ua ar 4 g)) 123)).bind fun q19 => some (q19.1, q19.2) else if what = 7 then (gI (mW C F' v (ua ar 4 g)) 11 123 5).bind fun x23 => some (x23, mW C F' v (ua ar 4 g)) else some ((-1 : Int32), mW C F' v (ua ar 4 g))) ∧ (∀ k, k < 11 ∨ 15 < k → F' k = F k) := fun z hz => by
        obtain ⟨F2, g2, k1, k2⟩ := ih (t + 1) (f + z) (k + mkW s.1 t) F1 (ua ar 4 g1) B1 (by omega) (by omega)
        rw [f_X11_count_29, bnd_eq, nI_add, B.cl, m1, some_bind', bnd_eq, bnd_eq, nI_add, nI_1, k1, ua_ua, smF_cons _ ht8, smF_cons _ ht8, hz]
        refine ⟨F2, g2, by rw [Nat.add_assoc, Nat.add_assoc], fun k hk => by rw [k2 k hk, m2 k (by omega)]⟩
      rw [if_neg (show ¬ (8 : Int32) ≤ nI t from nI_ge (b := 8) ht8 (by omega)), B.cl, B.many ht8, some_bind']
      by_cases q : (s.1 t).length = 0
      · rw [if_pos ((nI_le0 (by omega)).mpr q)]
        exact nx 0 (by unfold neW; rw [if_pos q])
      · rw [if_neg (fun z => q ((nI_le0 (by omega)).mp z))]
        exact nx 1 (by unfold neW; rw [if_neg q])
theorem cunlike_ok (G : Good C F v ar s V n) (hfu : 1000 ≤ fu) : ∃ C1, f_X7_unlike fu (mW C F v ar) 1 = some (nI (smF (fun t => smF (fsG s.1 t) 0 (s.1 t).length) 0 8), mW C1 F v ar) ∧ Good C1 F v ar s V n ∧ ∀ k, k ∉ actKs → C1[k]? = C[k]? := by
  have h := G.1.2.2.1
  have O := G.1.2.2.2.1
  have ht := O.2
  obtain ⟨w1, g1, g2, g3, g4, g5⟩ := begin_ok (fu := fu) h G.2.1 (show 100 ≤ fu by omega)
  obtain ⟨w2, k1, k2, k3, k4⟩ := cunlike_loop (fu := fu) O (show 100 ≤ fu by omega) fu 0 w1 _ (-1) 0 g3 g4 g2 (PI_0 _) (Or.inl ⟨rfl, fun _ _ => rfl⟩) (by rw [smF8]) (by rw [smF_zero _ (fun t _ _ => smF_end _ (Nat.le_refl 0))]) (by omega) (by omega)
  obtain ⟨C1, e1, e2, G1, e4⟩ := good_q G (g5.tr k4) k30_31 k2 k3
  subst e1
  refine ⟨C1, ?_, G1, e4⟩
  rw [f_X7_unlike, h.cl, ctotal_ok h (show 100 ≤ fu by omega), some_bind', bnd_eq, bnd_eq, bnd_eq, h.pd, some_bind', cl_ob G.2.1.2.2.2.1, g1, some_bind', bnd_eq]
  exact k1
theorem count_res (G : Good C F v ar s V n) (rc : RestC (mW C F v ar) R) (rm : RestM F ar R) (hfu : 20000 ≤ fu) (what : Int32) : Res C F ar s V (f_X10_count fu (mW C F v ar) 0 what) (fun w => f_X11_count fu w 123 what) := by
  have h := G.1.2.2.1
  have O := G.1.2.2.2.1
  have ht := O.2
  have P := G.1.2.2.2.2.1
  have hfu2 : 100 ≤ fu := by omega
  have hfu3 : 200 ≤ fu := by omega
  have mp := fun C1 (G1 : Good C1 F v ar s V n) => mcount_loop (C := C1) (v := v) (s := s) (fu := fu) hfu3 (what := what) fu 0 0 0 F ar G1.1.mb (by omega) (by omega)
  have mq : ∀ C1, f_X11_count fu (mW C1 F v ar) 123 what = f_X11_count_7 fu fu (mW C1 F v ar) 123 what (nI 0) (nI 0) (nI 0) := fun C1 => by
    rw [f_X11_count, bnd_eq, bnd_eq, bnd_eq]; rfl
  have fin : ∀ C1 x F2 ar2, Good C1 F v ar s V n → (∀ k, k ∉ actKs → C1[k]? = C[k]?) → f_X10_count fu (mW C F v ar) 0 what = some (x, mW C1 F v ar) → f_X11_count fu (mW C1 F v ar) 123 what = some (x, mW C1 F2 v ar2) → (∀ k, k < 11 ∨ 15 < k → F2 k = F k) → (∀ k, k < 4 → ar2 k = ar k) → Res C F ar s V (f_X10_count fu (mW C F v ar) 0 what) (fun w => f_X11_count fu w 123 what) := fun C1 x F2 ar2 G1 hC hx hy hF ha => q_res G1 hC hx hy (fun k hk => hF k (by omega)) ha
  have u4 : ∀ g k, k < 4 → ua ar 4 g k = ar k := fun g k hk => ua_ne _ _ (by omega)
  have mb : ∀ C1 F' g, Good C1 F v ar s V n → (∀ k, k < 11 ∨ 15 < k → F' k = F k) → MB C1 F' (ua ar 4 g) 0 s := fun C1 F' g G1 hF => G1.1.mb.F G1.1.1 (hF 9 (by omega)) (by rw [ua_ne _ _ (by omega)]; exact G1.1.mb.2.2.2.1) O.1
  by_cases d0 : what = 0
  · obtain ⟨F', g, k1, k2⟩ := mp C G
    have B1 := mb C F' g G k2
    refine fin C (nI (smF (fun i => (s.1 i).length) 0 8)) F' _ G (fun _ _ => rfl) ?_ ?_ k2 (u4 g)
    · rw [f_X10_count, if_pos d0, G.st, some_bind', h.cl, ctotal_ok h hfu2, some_bind']
    · rw [mq, k1, if_pos d0, B1.cl, B1.total hfu2, some_bind']
  by_cases d1 : what = 1
  · obtain ⟨F', g, k1, k2⟩ := mp C G
    refine fin C (nI (smF (neW s.1) 0 8)) F' _ G (fun _ _ => rfl) ?_ ?_ k2 (u4 g)
    · rw [f_X10_count, if_neg d0, if_pos d1, G.st, some_bind', h.cl, cne_ok h O.1 hfu2, some_bind']
    · rw [mq, k1, if_neg d0, if_pos d1, Nat.zero_add]
  by_cases d2 : what = 2
  · obtain ⟨C1, g1, G1, g3⟩ := cunlike_ok G (show 1000 ≤ fu by omega)
    obtain ⟨F', g, k1, k2⟩ := mp C1 G1
    have B1 := mb C1 F' g G1 k2
    have hm := munl_out (v := v) (fu := fu) B1 hfu2 fu 0 0 (by omega) (by omega)
    rw [Nat.zero_add] at hm
    refine fin C1 _ F' _ G1 g3 (by rw [f_X10_count, if_neg d0, if_neg d1, if_pos d2, G.st, some_bind', h.cl, g1, some_bind']) ?_ k2 (u4 g)
    rw [mq, k1, if_neg d0, if_neg d1, if_pos d2, B1.cl, f_X11_unlike, bnd_eq, bnd_eq, show (0 : Int32) = nI 0 from rfl, hm, some_bind']
  by_cases d3 : what = 3
  · obtain ⟨F', g, k1, k2⟩ := mp C G
    have hm := cam_loop (fu := fu) h O.1 hfu2 fu 0 0 (by omega) (by omega)
    rw [Nat.zero_add] at hm
    refine fin C (nI (smF (mkW s.1) 0 8)) F' _ G (fun _ _ => rfl) ?_ ?_ k2 (u4 g)
    · rw [f_X10_count, if_neg d0, if_neg d1, if_neg d2, if_pos d3, G.st, some_bind', h.cl, f_X7_allMarked, bnd_eq, bnd_eq, show (0 : Int32) = nI 0 from rfl, hm, some_bind']
    · rw [mq, k1, if_neg d0, if_neg d1, if_neg d2, if_pos d3, Nat.zero_add]
  by_cases d4 : what = 4
  · obtain ⟨F', g, k1, k2⟩ := mp C G
    refine fin C (nI V.length) F' _ G (fun _ _ => rfl) ?_ ?_ k2 (u4 g)
    · rw [f_X10_count, if_neg d0, if_neg d1, if_neg d2, if_neg d3, if_pos d4, gR_ob rc.1 rfl, some_bind', gI_ob P.2.2.1 rfl, some_bind']
    · rw [mq, k1, if_neg d0, if_neg d1, if_neg d2, if_neg d3, if_pos d4, m_gI G.1.1 F' v _ 8 rfl, some_bind', k2 8 (by omega), G.1.2.2.2.2.2.2.2.1]
  by_cases d5 : what = 5
  · obtain ⟨F', g, k1, k2⟩ := mp C G
    refine fin C (nI R.1.length) F' _ G (fun _ _ => rfl) ?_ ?_ k2 (u4 g)
    · rw [f_X10_count, if_neg d0, if_neg d1, if_neg d2, if_neg d3, if_neg d4, if_pos d5, gR_ob rc.1 rfl, some_bind', gI_ob rc.2.1.1 rfl, some_bind']
    · rw [mq, k1, if_neg d0, if_neg d1, if_neg d2, if_neg d3, if_neg d4, if_pos d5, m_gI G.1.1 F' v _ 4 rfl, some_bind', k2 4 (by omega), rm.1]
  by_cases d6 : what = 6
  · obtain ⟨C1, g1, G1, g3⟩ := chuf_ok G hfu2
    obtain ⟨F', g, k1, k2⟩ := mp C1 G1
    have B1 := mb C1 F' g G1 k2
    obtain ⟨g2, hm⟩ := mhuf_ok (v := v) B1 O hfu2
    refine fin C1 _ F' _ G1 g3 (by rw [f_X10_count, if_neg d0, if_neg d1, if_neg d2, if_neg d3, if_neg d4, if_neg d5, if_pos d6, G.st, some_bind', h.cl, g1, some_bind']) (by rw [mq, k1, if_neg d0, if_neg d1, if_neg d2, if_neg d3, if_neg d4, if_neg d5, if_pos d6, B1.cl, hm, some_bind']) k2 (fun k hk => by rw [ua_ne _ _ (by omega), ua_ne _ _ (by omega)])
  by_cases d7 : what = 7
  · obtain ⟨F', g, k1, k2⟩ := mp C G
    refine fin C (nI R.2.1.length) F' _ G (fun _ _ => rfl) ?_ ?_ k2 (u4 g)
    · rw [f_X10_count, if_neg d0, if_neg d1, if_neg d2, if_neg d3, if_neg d4, if_neg d5, if_neg d6, if_pos d7, gR_ob rc.1 rfl, some_bind', gI_ob rc.2.2.1.1 rfl, some_bind']
    · rw [mq, k1, if_neg d0, if_neg d1, if_neg d2, if_neg d3, if_neg d4, if_neg d5, if_neg d6, if_pos d7, m_gI G.1.1 F' v _ 5 rfl, some_bind', k2 5 (by omega), rm.2.1]
  obtain ⟨F', g, k1, k2⟩ := mp C G
  refine fin C (-1) F' _ G (fun _ _ => rfl) ?_ ?_ k2 (u4 g)
  · rw [f_X10_count, if_neg d0, if_neg d1, if_neg d2, if_neg d3, if_neg d4, if_neg d5, if_neg d6, if_neg d7]
  · rw [mq, k1, if_neg d0, if_neg d1, if_neg d2, if_neg d3, if_neg d4, if_neg d5, if_neg d6, if_neg d7]
theorem fault_res (G : Good C F v ar s V n) (rc : RestC (mW C F v ar) R) (rm : RestM F ar R) (a : Int32) : ∃ x, f_X10_fault (mW C F v ar) 0 a = some x ∧ f_X11_fault (mW C F v ar) 123 a = some x := by
  rw [f_X10_fault, f_X11_fault]
  by_cases d0 : a = 0
  · rw [if_pos d0, if_pos d0, gI_ob rc.1 rfl, some_bind', m_gI G.1.1 F v ar 6 rfl, some_bind', rm.2.2.1]
    exact ⟨_, rfl, rfl⟩
  · rw [if_neg d0, if_neg d0]
    by_cases d1 : a = 1
    · rw [if_pos d1, if_pos d1, gI_ob rc.1 rfl, some_bind', m_gI G.1.1 F v ar 7 rfl, some_bind', rm.2.2.2.1]
      exact ⟨_, rfl, rfl⟩
    · rw [if_neg d1, if_neg d1]
      exact ⟨_, rfl, rfl⟩
theorem octet_res (G : Good C F v ar s V n) (rc : RestC (mW C F v ar) R) (rm : RestM F ar R) (a : Int32) : ∃ x, f_X10_octet (mW C F v ar) 0 a = some x ∧ f_X11_octet (mW C F v ar) 123 a = some x := by
  have hl := rc.2.2.1.2.1
  rw [f_X10_octet, f_X11_octet, gR_ob rc.1 rfl, some_bind', rc.2.2.1.cl, m_gI G.1.1 F v ar 5 rfl, some_bind', rm.2.1, mI_sub]
  by_cases c : a < 0
  · rw [f_X4_byteAt, if_pos c, some_bind', f_X11_isIn, if_pos c, if_pos rfl]
    exact ⟨_, rfl, rfl⟩
  · obtain ⟨j, hj, rfl⟩ := nI_of c
    by_cases c2 : j < R.2.1.length
    · rw [rbyte_in rc.2.2.1 (by omega) c2, some_bind', f_X11_isIn, if_neg c, if_neg (show ¬ mI R.2.1.length < nI j from fun q => by have := (mI_lt (by omega) (by omega)).mp q; omega), if_neg (show ¬ (1 : Int32) = 0 by decide), m_gR G.1.1 F v ar 2 rfl, some_bind', m_a2 G.1.1 F v ar (by omega), some_bind', rm.2.2.2.2.2.1 j c2]
      exact ⟨_, rfl, rfl⟩
    · rw [rbyte_out rc.2.2.1 (by omega) (by omega) hj, some_bind', f_X11_isIn, if_neg c]
      have : mI R.2.1.length < nI j := by
        rcases Nat.eq_zero_or_pos R.2.1.length with q | q
        · rw [q, mI_0]; exact m1_lt j hj
        · obtain ⟨z, hz⟩ : ∃ z, R.2.1.length = z + 1 := ⟨R.2.1.length - 1, by omega⟩
          rw [hz, mI_s]; exact nI_lt (by omega) hj
      rw [if_pos this, if_pos rfl]
      exact ⟨_, rfl, rfl⟩
end Q
