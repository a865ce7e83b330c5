/-! IMAGE, AGAIN -/
def cp2 (al src : Nat → Int32) (to n k : Nat) : Nat → Int32 := fun q => if to + k ≤ q ∧ q < to + n then src (q - to) else al q
theorem cp2_end (al src : Nat → Int32) {to n k : Nat} (h : n ≤ k) : cp2 al src to n k = al := by
  funext q; unfold cp2; rw [if_neg (by omega)]
theorem cp2_s (al src : Nat → Int32) {to n k : Nat} (h : k < n) : cp2 (upd al (to + k) (src k)) src to n (k + 1) = cp2 al src to n k := by
  funext q
  unfold cp2
  by_cases c1 : to + (k + 1) ≤ q ∧ q < to + n
  · rw [if_pos c1, if_pos ⟨by omega, c1.2⟩]
  · rw [if_neg c1]
    by_cases c2 : q = to + k
    · subst c2
      rw [upd_eq, if_pos ⟨Nat.le_refl _, by omega⟩, show to + k - to = k by omega]
    · rw [upd_ne _ _ c2, if_neg (by omega)]
theorem ImC.shape {w : MW} {k : Nat} {o : Option IT} (h : ImC w k o) : (∃ t a b, w[96 + 9 * k]? = some (.inr (1, [.ref (97 + 9 * k), .ref (101 + 9 * k), .ref (103 + 9 * k), .int t, .int a, .int b]))) ∧ SNq w (97 + 9 * k) as0 0 ∧ (∃ T, RW w (101 + 9 * k) 800 T) ∧ ∃ T, RW w (103 + 9 * k) 360 T := by
  cases o with
  | none =>
    obtain ⟨⟨a, b, h1⟩, h2, h3, h4⟩ := h
    exact ⟨⟨0, a, b, h1⟩, h2, h3, h4⟩
  | some I =>
    obtain ⟨h1, h2, h5, h6, h3, h4⟩ := h
    exact ⟨⟨1, _, _, h1⟩, h2.shape, ⟨_, h3⟩, ⟨_, h4⟩⟩
section Q
variable {C : MW} {F : Nat → Int32} {v : Int64} {ar : Nat → Nat → Int32} {s : AS} {V : List AS} {n : Nat} {fu : Nat} {R : RT}
theorem mi_told (hC : C.length = 123) {x k : Nat} (hx : x + 2180 ≤ 20204) (hk : k < 3) : ∀ N j ar, j ≤ 400 → 400 - j < N → f_X11_image_65 fu N (mW C F v ar) 123 (nI k) (nI x) (nI j) = some (1, mW C F v (ua (ua ar 0 (upd (upd (upd (upd (cp2 (ar 0) (ar 2) (x + 1776) 400 j) (x + 2176) (F 4)) (x + 2177) (F 6)) (x + 2178) (F 7)) (x + 2179) (F 5))) 3 (upd (ar 3) k 1))) := by
  intro N
  induction N with
  | zero => intro j ar _ hN; omega
  | succ N ih =>
    intro j ar hj hN
    rw [f_X11_image_65]
    by_cases c : 400 ≤ j
    · rw [if_pos (show (400 : Int32) ≤ nI j from nI_le (a := 400) c (by omega)), cp2_end _ _ c, show (976 : Int32) = nI 976 from rfl, show (800 : Int32) = nI 800 from rfl, show (400 : Int32) = nI 400 from rfl, show (401 : Int32) = nI 401 from rfl, show (402 : Int32) = nI 402 from rfl, show (403 : Int32) = nI 403 from rfl]
      simp only [nI_add]
      rw [m_gR hC F v ar 0 rfl, some_bind', m_gI hC F v ar 4 rfl, some_bind', m_s0 hC F v ar _ (by omega), some_bind', m_gR hC F v _ 0 rfl, some_bind', m_gI hC F v _ 6 rfl, some_bind', m_s0 hC F v _ _ (by omega), some_bind', m_gR hC F v _ 0 rfl, some_bind', m_gI hC F v _ 7 rfl, some_bind', m_s0 hC F v _ _ (by omega), some_bind', m_gR hC F v _ 0 rfl, some_bind', m_gI hC F v _ 5 rfl, some_bind', m_s0 hC F v _ _ (by omega), some_bind', m_gR hC F v _ 3 rfl, some_bind', show vp_nar .boolean (1 : Int32) = 1 from rfl, m_s3 hC F v _ _ hk, some_bind']
      simp only [ua_ua, ua_eq]
      rw [ua_ne _ _ (by omega : 3 ≠ 0), show x + 976 + 800 + 400 = x + 2176 by omega, show x + 976 + 800 + 401 = x + 2177 by omega, show x + 976 + 800 + 402 = x + 2178 by omega, show x + 976 + 800 + 403 = x + 2179 by omega]
    · rw [if_neg (show ¬ (400 : Int32) ≤ nI j from nI_ge (b := 400) (by omega) (by omega)), m_gR hC F v ar 0 rfl, some_bind', m_gR hC F v ar 2 rfl, some_bind', m_a2 hC F v ar (by omega), some_bind', show (976 : Int32) = nI 976 from rfl, show (800 : Int32) = nI 800 from rfl, nI_add, nI_add, nI_add, m_s0 hC F v ar _ (by omega), some_bind', bnd_eq, nI_1, ih (j + 1) _ (by omega) (by omega), ua_eq, ua_ne _ _ (by omega : 2 ≠ 0), ua_ne _ _ (by omega : 3 ≠ 0), ua_ua, show x + 976 + 800 + j = x + 1776 + j by omega, cp2_s _ _ (by omega)]
theorem mi_tape (hC : C.length = 123) (hfu : 1000 ≤ fu) {x k : Nat} (hx : x + 2180 ≤ 20204) (hk : k < 3) : ∀ N j ar, j ≤ 800 → 800 - j < N → f_X11_image_32 fu N (mW C F v ar) 123 (nI k) (nI x) (nI j) = some (1, mW C F v (ua (ua ar 0 (upd (upd (upd (upd (cp2 (cp2 (ar 0) (ar 1) (x + 976) 800 j) (ar 2) (x + 1776) 400 0) (x + 2176) (F 4)) (x + 2177) (F 6)) (x + 2178) (F 7)) (x + 2179) (F 5))) 3 (upd (ar 3) k 1))) := by
  intro N
  induction N with
  | zero => intro j ar _ hN; omega
  | succ N ih =>
    intro j ar hj hN
    rw [f_X11_image_32]
    by_cases c : 800 ≤ j
    · rw [if_pos (show (800 : Int32) ≤ nI j from nI_le (a := 800) c (by omega)), bnd_eq, cp2_end (ar 0) (ar 1) c, show (0 : Int32) = nI 0 from rfl, mi_told hC hx hk fu 0 ar (by omega) (by omega)]
    · rw [if_neg (show ¬ (800 : Int32) ≤ nI j from nI_ge (b := 800) (by omega) (by omega)), m_gR hC F v ar 0 rfl, some_bind', m_gR hC F v ar 1 rfl, some_bind', m_a1 hC F v ar (by omega), some_bind', show (976 : Int32) = nI 976 from rfl, nI_add, nI_add, m_s0 hC F v ar _ (by omega), some_bind', bnd_eq, nI_1, ih (j + 1) _ (by omega) (by omega), ua_eq, ua_ne _ _ (by omega : 1 ≠ 0), ua_ne _ _ (by omega : 2 ≠ 0), ua_ne _ _ (by omega : 3 ≠ 0), ua_ua, cp2_s _ _ (by omega)]
theorem three_cases (x : Int32) : (∃ k, k < 3 ∧ x = nI k) ∨ (x < 0 ∨ 3 ≤ x) := by
  by_cases h : x < 0
  · exact Or.inr (Or.inl h)
  · by_cases h2 : (3 : Int32) ≤ x
    · exact Or.inr (Or.inr h2)
    · obtain ⟨j, hj, rfl⟩ := nI_of h
      refine Or.inl ⟨j, ?_, rfl⟩
      rcases Nat.lt_or_ge j 3 with q | q
      · exact q
      · exact absurd (nI_le (a := 3) q hj) h2
theorem isIn3_in {k : Nat} (hk : k < 3) : f_X11_isIn (nI k) 0 2 = 1 := by
  rw [f_X11_isIn, if_neg (nI_pos (by omega)), if_neg (show ¬ (2 : Int32) < nI k from nI_nlt (a := 2) (by omega) (by omega))]
theorem isIn3_out {x : Int32} (h : x < 0 ∨ 3 ≤ x) : f_X11_isIn x 0 2 = 0 := by
  rw [f_X11_isIn]
  by_cases c : x < 0
  · rw [if_pos c]
  · rw [if_neg c, if_pos (Int32.lt_of_lt_of_le (by decide) (h.resolve_left c))]
theorem image_res (G : Good C F v ar s V n) (rc : RestC (mW C F v ar) R) (rm : RestM F ar R) (hfu : 20000 ≤ fu) (a : Int32) : ResI (f_X10_image fu (mW C F v ar) 0 a) (fun w => f_X11_image fu w 123 a) := by
  have h := G.1.2.2.1
  have O := G.1.2.2.2.1
  have hfu2 : 100 ≤ fu := by omega
  rcases three_cases a with ⟨k, hk, rfl⟩ | ha
  · obtain ⟨⟨t, a0, b0, hP⟩, hS, ⟨T1, hT1⟩, ⟨T2, hT2⟩⟩ := (rc.2.2.2.2.2.2.2 k hk).shape
    obtain ⟨f95, h95, h95'⟩ := rc.2.2.2.2.2.2.1
    -- the class
    have K : ∀ q, q ∈ List.range' (96 + 9 * k) 9 ↔ 96 + 9 * k ≤ q ∧ q < 96 + 9 * k + 9 := fun q => List.mem_range'_1
    have c1 := Chg.st (ks := List.range' (96 + 9 * k) 9) (mW C F v ar) (a := 96 + 9 * k) (.inr (1, [.ref (97 + 9 * k), .ref (101 + 9 * k), .ref (103 + 9 * k), .int 1, .int a0, .int b0])) ((K _).mpr (by omega))
    generalize hw1 : (mW C F v ar).set (96 + 9 * k) (.inr (1, [.ref (97 + 9 * k), .ref (101 + 9 * k), .ref (103 + 9 * k), .int 1, .int a0, .int b0])) = w1 at c1
    have p1 : w1[96 + 9 * k]? = some (.inr (1, [.ref (97 + 9 * k), .ref (101 + 9 * k), .ref (103 + 9 * k), .int 1, .int a0, .int b0])) := by rw [← hw1]; exact get_set_eq hP
    have d1 : Chg [96 + 9 * k] (mW C F v ar) w1 := by rw [← hw1]; exact Chg.st _ _ (by simp)
    have H1 := h.chg d1 (fun q hq => by simp at hq; omega)
    obtain ⟨w2, g1, g2, g3⟩ := take_ok O hfu2 (show 33 ≤ 97 + 9 * k by omega) H1 (hS.chg d1 (fun q hq => by simp at hq; omega))
    have c2 : Chg (List.range' (96 + 9 * k) 9) w1 w2 := g3.mono (fun q hq => (K q).mpr (by simp at hq; omega))
    have c12 := c1.tr c2
    have n0 : (0 : Nat) ∉ List.range' (96 + 9 * k) 9 := fun q => by have := (K 0).mp q; omega
    have np : ∀ q, q < 96 → q ∉ List.range' (96 + 9 * k) 9 := fun q hq z => by have := (K q).mp z; omega
    have p2 := g3.at (k := 96 + 9 * k) (by simp <;> omega) p1
    have t1w : RW w2 (101 + 9 * k) 800 T1 := (hT1.chg d1 (by simp <;> omega) (by simp <;> omega)).chg g3 (by simp <;> omega) (by simp <;> omega)
    have t2w : RW w2 85 800 R.1 := rc.2.1.chg c12 (np _ (by omega)) (np _ (by omega))
    obtain ⟨w3, k1, k2, k3⟩ := rcopy_ok t1w t2w (by omega) (by omega) (by omega) (by omega)
    have c3 : Chg (List.range' (96 + 9 * k) 9) w2 w3 := k3.mono (fun q hq => (K q).mpr (by simp at hq; omega))
    have p3 := k3.at (k := 96 + 9 * k) (by simp <;> omega) p2
    have c123 := c12.tr c3
    have t3w : RW w3 (103 + 9 * k) 360 T2 := ((hT2.chg d1 (by simp <;> omega) (by simp <;> omega)).chg g3 (by simp <;> omega) (by simp <;> omega)).chg k3 (by simp <;> omega) (by simp <;> omega)
    have t4w : RW w3 87 360 R.2.1 := rc.2.2.1.chg c123 (np _ (by omega)) (np _ (by omega))
    obtain ⟨w4, m1, m2, m3⟩ := rcopy_ok t3w t4w (by omega) (by omega) (by omega) (by omega)
    have c4 : Chg (List.range' (96 + 9 * k) 9) w3 w4 := m3.mono (fun q hq => (K q).mpr (by simp at hq; omega))
    have p4 := m3.at (k := 96 + 9 * k) (by simp <;> omega) p3
    have c1234 := c123.tr c4
    have r4 := c1234.at n0 rc.1
    have p5 := get_set_eq (x := .inr (1, [.ref (97 + 9 * k), .ref (101 + 9 * k), .ref (103 + 9 * k), .int 1, .int R.2.2.1, .int b0])) p4
    have d5 := Chg.st (ks := [96 + 9 * k]) w4 (a := 96 + 9 * k) (.inr (1, [.ref (97 + 9 * k), .ref (101 + 9 * k), .ref (103 + 9 * k), .int 1, .int R.2.2.1, .int b0])) (by simp)
    have r5 := d5.at (k := 0) (by simp <;> omega) r4
    have p6 := get_set_eq (x := .inr (1, [.ref (97 + 9 * k), .ref (101 + 9 * k), .ref (103 + 9 * k), .int 1, .int R.2.2.1, .int R.2.2.2.1])) p5
    have d6 := Chg.st (ks := [96 + 9 * k]) (w4.set (96 + 9 * k) (.inr (1, [.ref (97 + 9 * k), .ref (101 + 9 * k), .ref (103 + 9 * k), .int 1, .int R.2.2.1, .int b0]))) (a := 96 + 9 * k) (.inr (1, [.ref (97 + 9 * k), .ref (101 + 9 * k), .ref (103 + 9 * k), .int 1, .int R.2.2.1, .int R.2.2.2.1])) (by simp)
    have d56 := d5.tr d6
    have cA : Chg (List.range' (96 + 9 * k) 9) (mW C F v ar) _ := c1234.tr (d56.mono (fun q hq => (K q).mpr (by simp at hq; omega)))
    have hIm : ImC ((w4.set (96 + 9 * k) (.inr (1, [.ref (97 + 9 * k), .ref (101 + 9 * k), .ref (103 + 9 * k), .int 1, .int R.2.2.1, .int b0]))).set (96 + 9 * k) (.inr (1, [.ref (97 + 9 * k), .ref (101 + 9 * k), .ref (103 + 9 * k), .int 1, .int R.2.2.1, .int R.2.2.2.1]))) k (some (s, R.1, R.2.1, R.2.2.1, R.2.2.2.1)) := by
      refine ⟨p6, ?_, O, G.2.2.1, ?_, ?_⟩
      · exact ((g2.chg k3 (fun q hq => by simp at hq; omega)).chg m3 (fun q hq => by simp at hq; omega)).chg d56 (fun q hq => by simp at hq; omega)
      · exact (k2.chg m3 (by simp <;> omega) (by simp <;> omega)).chg d56 (by simp <;> omega) (by simp <;> omega)
      · exact m2.chg d56 (by simp <;> omega) (by simp <;> omega)
    generalize hw6 : (w4.set (96 + 9 * k) (.inr (1, [.ref (97 + 9 * k), .ref (101 + 9 * k), .ref (103 + 9 * k), .int 1, .int R.2.2.1, .int b0]))).set (96 + 9 * k) (.inr (1, [.ref (97 + 9 * k), .ref (101 + 9 * k), .ref (103 + 9 * k), .int 1, .int R.2.2.1, .int R.2.2.2.1])) = w6 at cA hIm
    obtain ⟨C1, e1, e2, G1⟩ := good_r G cA (fun q hq => by have := (K q).mp hq; omega) (G.1.2.1.chg cA n0)
    have rc6 : RestC w6 (R.1, R.2.1, R.2.2.1, R.2.2.2.1, va_up R.2.2.2.2 k (some (s, R.1, R.2.1, R.2.2.1, R.2.2.2.1))) := by
      obtain ⟨h1, h2, h3, ⟨a', b', c', d', e', g', h4⟩, ⟨f, h5⟩, h6, ⟨f2, h7, h8⟩, h9⟩ := id rc
      refine ⟨cA.at n0 h1, h2.chg cA (np _ (by omega)) (np _ (by omega)), h3.chg cA (np _ (by omega)) (np _ (by omega)), ⟨a', b', c', d', e', g', cA.at (np _ (by omega)) h4⟩, ⟨f, cA.at (np _ (by omega)) h5⟩, h6.chg cA (fun q hq => by have := (K q).mp hq; omega), ⟨f2, cA.at (np _ (by omega)) h7, h8⟩, fun j hj => ?_⟩
      by_cases q : j = k
      · subst q
        show ImC w6 j (va_up R.2.2.2.2 j _ j)
        rw [vu_eq]; exact hIm
      · show ImC w6 j (va_up R.2.2.2.2 k _ j)
        rw [vu_ne _ _ q]
        exact (h9 j hj).same (fun z z1 z2 => cA.2 z (fun y => by have := (K z).mp y; omega))
    subst e1
    -- the model
    obtain ⟨x, hx⟩ : ∃ x, x = 13664 + 2180 * k := ⟨_, rfl⟩
    have hcp := mcopies_ok (C := C1) (F := F) (v := v) (ar := ar) (fu := fu) (fr := 0) (to := x) (n := 976) e2 hfu (by omega) (by omega) (by omega) (by omega)
    have hti := mi_tape (C := C1) (F := F) (v := v) (fu := fu) e2 (by omega) (x := x) (k := k) (by omega) hk fu 0 (ua ar 0 (cpF (ar 0) 0 x 976 0)) (by omega) (by omega)
    have lT := rc.2.1.2.1
    have lL := rc.2.2.1.2.1
    refine ⟨1, mW C1 F v ar, mW C1 F v (ua (ua (ua ar 0 (cpF (ar 0) 0 x 976 0)) 0 (upd (upd (upd (upd (cp2 (cp2 (ua ar 0 (cpF (ar 0) 0 x 976 0) 0) (ua ar 0 (cpF (ar 0) 0 x 976 0) 1) (x + 976) 800 0) (ua ar 0 (cpF (ar 0) 0 x 976 0) 2) (x + 1776) 400 0) (x + 2176) (F 4)) (x + 2177) (F 6)) (x + 2178) (F 7)) (x + 2179) (F 5))) 3 (upd (ua ar 0 (cpF (ar 0) 0 x 976 0) 3) k 1)), ?_, ?_, m_cl e2 _ _ _ _, ⟨C1, F, v, ua (ua (ua ar 0 (cpF (ar 0) 0 x 976 0)) 0 (upd (upd (upd (upd (cp2 (cp2 (ua ar 0 (cpF (ar 0) 0 x 976 0) 0) (ua ar 0 (cpF (ar 0) 0 x 976 0) 1) (x + 976) 800 0) (ua ar 0 (cpF (ar 0) 0 x 976 0) 2) (x + 1776) 400 0) (x + 2176) (F 4)) (x + 2177) (F 6)) (x + 2178) (F 7)) (x + 2179) (F 5))) 3 (upd (ua ar 0 (cpF (ar 0) 0 x 976 0) 3) k 1), s, V, n, _, rfl, G1.mod rfl rfl (fun q hq => ?_), rc6.m e2 _ _ _, ?_⟩⟩
    · rw [f_X10_image, if_neg (nI_pos (by omega)), if_pos (show nI k < (3 : Int32) from nI_lt (b := 3) hk (by omega)), gR_ob rc.1 rfl, some_bind', aRn_ar h95 (h95' k hk) hk (by omega), some_bind', pV_ob hP (by simp), some_bind']
      dsimp only [List.set]
      have st1 : gR w1 10 0 0 = some 1 := gR_ob (d1.at (k := 0) (by simp <;> omega) rc.1) rfl
      have tp2 := (c12.at n0 rc.1)
      have tp3 := (c123.at n0 rc.1)
      rw [hw1, gR_ob p1 rfl, some_bind', st1, some_bind', cl_ob (hS.chg d1 (fun q hq => by simp at hq; omega)).1, g1, some_bind', gR_ob p2 rfl, some_bind', gR_ob tp2 rfl, some_bind', t1w.cl, k1, some_bind', gR_ob p3 rfl, some_bind', gR_ob tp3 rfl, some_bind', t3w.cl, m1, some_bind', gI_ob r4 rfl, some_bind', pV_ob p4 (by simp), some_bind']
      dsimp only [List.set]
      rw [gI_ob r5 rfl, some_bind', pV_ob p5 (by simp), some_bind']
      dsimp only [List.set]
      rw [hw6]
    · dsimp only
      rw [f_X11_image, isIn3_in hk, if_neg (by decide), show (13664 : Int32) = nI 13664 from rfl, show (2180 : Int32) = nI 2180 from rfl, nI_mul, nI_add, ← hx, bnd_eq, m_cl e2, show (0 : Int32) = nI 0 from rfl, show (976 : Int32) = nI 976 from rfl, hcp, some_bind', bnd_eq]
      exact hti
    · rw [ua_ne _ _ (by omega), ua_eq, upd_ne _ _ (by omega), upd_ne _ _ (by omega), upd_ne _ _ (by omega), upd_ne _ _ (by omega)]
      unfold cp2
      rw [if_neg (by omega), if_neg (by omega), ua_eq]
      unfold cpF
      rw [if_neg (by omega)]
    · obtain ⟨m1', m2', m3', m4', m5', m6', m7'⟩ := id rm
      refine ⟨m1', m2', m3', m4', fun j hj => by rw [ua_ne _ _ (by omega), ua_ne _ _ (by omega), ua_ne _ _ (by omega)]; exact m5' j hj, fun j hj => by rw [ua_ne _ _ (by omega), ua_ne _ _ (by omega), ua_ne _ _ (by omega)]; exact m6' j hj, fun j hj => ?_⟩
      by_cases q : j = k
      · subst q
        show ImM _ j (va_up R.2.2.2.2 j _ j)
        rw [vu_eq]
        refine ⟨by rw [ua_eq, upd_eq], ?_, fun i hi => ?_, fun i hi => ?_, ?_, ?_, ?_, ?_⟩
        · rw [← hx, ua_ne _ _ (by omega), ua_eq]
          refine G.1.mb.2.2.2.1.copy O.1 (fun z hz => ?_)
          rw [upd_ne _ _ (by omega), upd_ne _ _ (by omega), upd_ne _ _ (by omega), upd_ne _ _ (by omega)]
          unfold cp2
          rw [if_neg (by omega), if_neg (by omega), ua_eq]
          unfold cpF
          rw [if_pos (by omega)]
          congr 1
          omega
        · have hi' : i < R.1.length := hi
          rw [← hx, ua_ne _ _ (by omega), ua_eq, upd_ne _ _ (by omega), upd_ne _ _ (by omega), upd_ne _ _ (by omega), upd_ne _ _ (by omega)]
          unfold cp2
          rw [if_neg (by omega), if_pos (by omega), ua_ne _ _ (by omega), show x + 976 + i - (x + 976) = i by omega]
          exact m5' i hi'
        · have hi' : i < R.2.1.length := hi
          rw [← hx, ua_ne _ _ (by omega), ua_eq, upd_ne _ _ (by omega), upd_ne _ _ (by omega), upd_ne _ _ (by omega), upd_ne _ _ (by omega)]
          unfold cp2
          rw [if_pos (by omega), ua_ne _ _ (by omega), show x + 1776 + i - (x + 1776) = i by omega]
          exact m6' i hi'
        · rw [← hx, ua_ne _ _ (by omega), ua_eq, upd_ne _ _ (by omega), upd_ne _ _ (by omega), upd_ne _ _ (by omega), upd_eq]; exact m1'
        · rw [← hx, ua_ne _ _ (by omega), ua_eq, upd_ne _ _ (by omega), upd_ne _ _ (by omega), upd_eq]; exact m3'
        · rw [← hx, ua_ne _ _ (by omega), ua_eq, upd_ne _ _ (by omega), upd_eq]; exact m4'
        · rw [← hx, ua_ne _ _ (by omega), ua_eq, upd_eq]; exact m2'
      · show ImM _ j (va_up R.2.2.2.2 k _ j)
        rw [vu_ne _ _ q]
        refine (m7' j hj).same hj ((rc.2.2.2.2.2.2.2 j hj).bd) ?_ (fun z z1 z2 => ?_)
        · rw [ua_eq, upd_ne _ _ q, ua_ne _ _ (by omega)]
        · rw [ua_ne _ _ (by omega), ua_eq, upd_ne _ _ (by omega), upd_ne _ _ (by omega), upd_ne _ _ (by omega), upd_ne _ _ (by omega)]
          unfold cp2
          rw [if_neg (by omega), if_neg (by omega), ua_eq]
          unfold cpF
          rw [if_neg (by omega)]
  · refine ⟨0, mW C F v ar, mW C F v ar, ?_, ?_, m_cl G.1.1 _ _ _ _, ⟨C, F, v, ar, s, V, n, R, rfl, G, rc, rm⟩⟩
    · rw [f_X10_image]
      by_cases c : a < 0
      · rw [if_pos c]
      · rw [if_neg c, if_neg (Int32.not_lt.mpr (ha.resolve_left c))]
    · dsimp only
      rw [f_X11_image, isIn3_out ha, if_pos rfl]
theorem ma_told (hC : C.length = 123) {x : Nat} (hx : x + 2180 ≤ 20204) : ∀ N j ar, j ≤ 400 → 400 - j < N → f_X11_again_74 fu N (mW C F v ar) 123 (nI x) (nI j) = some (1, mW C (upd (upd (upd (upd (upd F 4 (ar 0 (x + 2176))) 6 (ar 0 (x + 2177))) 7 (ar 0 (x + 2178))) 5 (ar 0 (x + 2179))) 8 0) v (ua ar 2 (cp2 (ar 2) (fun i => ar 0 (x + 1776 + i)) 0 400 j))) := by
  intro N
  induction N with
  | zero => intro j ar _ hN; omega
  | succ N ih =>
    intro j ar hj hN
    rw [f_X11_again_74]
    by_cases c : 400 ≤ j
    · rw [if_pos (show (400 : Int32) ≤ nI j from nI_le (a := 400) c (by omega)), cp2_end _ _ c, show (976 : Int32) = nI 976 from rfl, show (800 : Int32) = nI 800 from rfl, show (400 : Int32) = nI 400 from rfl, show (401 : Int32) = nI 401 from rfl, show (402 : Int32) = nI 402 from rfl, show (403 : Int32) = nI 403 from rfl]
      simp only [nI_add]
      rw [m_gR hC F v ar 0 rfl, some_bind', m_a0 hC F v ar (by omega), some_bind', m_p hC _ v ar 4 (by omega) mFt.1, some_bind', m_gR hC _ v ar 0 rfl, some_bind', m_a0 hC _ v ar (by omega), some_bind', m_p hC _ v ar 6 (by omega) mFt.2.2.1, some_bind', m_gR hC _ v ar 0 rfl, some_bind', m_a0 hC _ v ar (by omega), some_bind', m_p hC _ v ar 7 (by omega) mFt.2.2.2.1, some_bind', m_gR hC _ v ar 0 rfl, some_bind', m_a0 hC _ v ar (by omega), some_bind', m_p hC _ v ar 5 (by omega) mFt.2.1, some_bind', m_p hC _ v ar 8 (by omega) (mF8 _), some_bind', ua_self, show x + 976 + 800 + 400 = x + 2176 by omega, show x + 976 + 800 + 401 = x + 2177 by omega, show x + 976 + 800 + 402 = x + 2178 by omega, show x + 976 + 800 + 403 = x + 2179 by omega]
    · rw [if_neg (show ¬ (400 : Int32) ≤ nI j from nI_ge (b := 400) (by omega) (by omega)), m_gR hC F v ar 2 rfl, some_bind', m_gR hC F v ar 0 rfl, some_bind', show (976 : Int32) = nI 976 from rfl, show (800 : Int32) = nI 800 from rfl, nI_add, nI_add, nI_add, m_a0 hC F v ar (by omega), some_bind', m_s2 hC F v ar _ (by omega), some_bind', bnd_eq, nI_1, ih (j + 1) _ (by omega) (by omega), ua_eq, ua_ne _ _ (by omega : 0 ≠ 2), ua_ua, show x + 976 + 800 + j = x + 1776 + j by omega]
      have := cp2_s (ar 2) (fun i => ar 0 (x + 1776 + i)) (to := 0) (n := 400) (k := j) (by omega)
      rw [Nat.zero_add] at this
      rw [this]
theorem ma_tape (hC : C.length = 123) (hfu : 1000 ≤ fu) {x : Nat} (hx : x + 2180 ≤ 20204) : ∀ N j ar, j ≤ 800 → 800 - j < N → f_X11_again_41 fu N (mW C F v ar) 123 (nI x) (nI j) = some (1, mW C (upd (upd (upd (upd (upd F 4 (ar 0 (x + 2176))) 6 (ar 0 (x + 2177))) 7 (ar 0 (x + 2178))) 5 (ar 0 (x + 2179))) 8 0) v (ua (ua ar 1 (cp2 (ar 1) (fun i => ar 0 (x + 976 + i)) 0 800 j)) 2 (cp2 (ar 2) (fun i => ar 0 (x + 1776 + i)) 0 400 0))) := by
  intro N
  induction N with
  | zero => intro j ar _ hN; omega
  | succ N ih =>
    intro j ar hj hN
    rw [f_X11_again_41]
    by_cases c : 800 ≤ j
    · rw [if_pos (show (800 : Int32) ≤ nI j from nI_le (a := 800) c (by omega)), bnd_eq, cp2_end (ar 1) _ c, show (0 : Int32) = nI 0 from rfl, ma_told hC hx fu 0 ar (by omega) (by omega), ua_self]
      rfl
    · rw [if_neg (show ¬ (800 : Int32) ≤ nI j from nI_ge (b := 800) (by omega) (by omega)), m_gR hC F v ar 1 rfl, some_bind', m_gR hC F v ar 0 rfl, some_bind', show (976 : Int32) = nI 976 from rfl, nI_add, nI_add, m_a0 hC F v ar (by omega), some_bind', m_s1 hC F v ar _ (by omega), some_bind', bnd_eq, nI_1, ih (j + 1) _ (by omega) (by omega), ua_eq, ua_ne _ _ (by omega : 0 ≠ 1), ua_ne _ _ (by omega : 2 ≠ 1), ua_ua]
      have := cp2_s (ar 1) (fun i => ar 0 (x + 976 + i)) (to := 0) (n := 800) (k := j) (by omega)
      rw [Nat.zero_add] at this
      rw [this]
theorem again_res (G : Good C F v ar s V n) (rc : RestC (mW C F v ar) R) (rm : RestM F ar R) (hfu : 20000 ≤ fu) (a : Int32) : ResI (f_X10_again fu (mW C F v ar) 0 a) (fun w => f_X11_again fu w 123 a) := by
  have h := G.1.2.2.1
  have O := G.1.2.2.2.1
  have hfu2 : 100 ≤ fu := by omega
  have keep : Inv (mW C F v ar) := ⟨C, F, v, ar, s, V, n, R, rfl, G, rc, rm⟩
  rcases three_cases a with ⟨k, hk, rfl⟩ | ha
  · obtain ⟨f95, h95, h95'⟩ := rc.2.2.2.2.2.2.1
    have hI := rc.2.2.2.2.2.2.2 k hk
    have hM := rm.2.2.2.2.2.2 k hk
    cases hR : R.2.2.2.2 k with
    | none =>
      rw [hR] at hI hM
      obtain ⟨⟨a0, b0, hP⟩, -⟩ := hI
      have hM' : ar 3 k = 0 := hM
      refine ⟨0, mW C F v ar, mW C F v ar, ?_, ?_, m_cl G.1.1 _ _ _ _, keep⟩
      · rw [f_X10_again, if_neg (nI_pos (by omega)), if_neg (show ¬ (3 : Int32) ≤ nI k from nI_ge (b := 3) hk (by omega)), gR_ob rc.1 rfl, some_bind', aRn_ar h95 (h95' k hk) hk (by omega), some_bind', gI_ob hP rfl, some_bind', if_pos rfl]
      · dsimp only
        rw [f_X11_again, isIn3_in hk, if_neg (by decide), m_gR G.1.1 F v ar 3 rfl, some_bind', m_a3 G.1.1 F v ar hk, some_bind', hM', if_pos rfl]
    | some I =>
      rw [hR] at hI hM
      obtain ⟨hP, hS, iO, iF, iT, iL⟩ := id hI
      obtain ⟨z1, z2, z3, z4, z5, z6, z7, z8⟩ := id hM
      obtain ⟨si, ti, li, fi, gi⟩ := I
      simp only at hP hS iO iF iT iL z1 z2 z3 z4 z5 z6 z7 z8
      -- the class
      obtain ⟨w1, g1, g2, g3⟩ := giveb_ok iO hfu2 (show 33 ≤ 97 + 9 * k by omega) h hS
      have hp0 : ∀ q, q ∈ hpl → 12 < q ∧ q < 29 := hpl_sc
      have nh : ∀ q, q < 13 ∨ 28 < q → q ∉ hpl := fun q hq z => by have := hp0 q z; omega
      have p1 := g3.at (nh (96 + 9 * k) (by omega)) hP
      have t1 := g3.at (nh 0 (by omega)) rc.1
      have a85 := rc.2.1.chg g3 (nh _ (by omega)) (nh _ (by omega))
      have a87 := rc.2.2.1.chg g3 (nh _ (by omega)) (nh _ (by omega))
      obtain ⟨w2, k1, k2, k3⟩ := rcopy_ok a85 (iT.chg g3 (nh _ (by omega)) (nh _ (by omega))) (by omega) (by omega) (by omega) (by omega)
      have p2 := k3.at (k := 96 + 9 * k) (by simp <;> omega) p1
      have t2 := k3.at (k := 0) (by simp) t1
      obtain ⟨w3, m1, m2, m3⟩ := rcopy_ok (a87.chg k3 (by simp) (by simp)) ((iL.chg g3 (nh _ (by omega)) (nh _ (by omega))).chg k3 (by simp <;> omega) (by simp <;> omega)) (by omega) (by omega) (by omega) (by omega)
      have p3 := m3.at (k := 96 + 9 * k) (by simp <;> omega) p2
      have t3 := m3.at (k := 0) (by simp) t2
      have d4 := Chg.st (ks := [0]) w3 (a := 0) (.inr (10, [.ref 1, .ref 31, .ref 85, .ref 87, .ref 89, .ref 91, .ref 95, .int fi, .int R.2.2.2.1])) (by simp)
      have t4 := get_set_eq (x := .inr (10, [.ref 1, .ref 31, .ref 85, .ref 87, .ref 89, .ref 91, .ref 95, .int fi, .int R.2.2.2.1])) t3
      have p4 := d4.at (k := 96 + 9 * k) (by simp <;> omega) p3
      have d5 := Chg.st (ks := [0]) (w3.set 0 (.inr (10, [.ref 1, .ref 31, .ref 85, .ref 87, .ref 89, .ref 91, .ref 95, .int fi, .int R.2.2.2.1]))) (a := 0) (.inr (10, [.ref 1, .ref 31, .ref 85, .ref 87, .ref 89, .ref 91, .ref 95, .int fi, .int gi])) (by simp)
      have t5 := get_set_eq (x := .inr (10, [.ref 1, .ref 31, .ref 85, .ref 87, .ref 89, .ref 91, .ref 95, .int fi, .int gi])) t4
      have d45 := d4.tr d5
      generalize hw5 : (w3.set 0 (.inr (10, [.ref 1, .ref 31, .ref 85, .ref 87, .ref 89, .ref 91, .ref 95, .int fi, .int R.2.2.2.1]))).set 0 (.inr (10, [.ref 1, .ref 31, .ref 85, .ref 87, .ref 89, .ref 91, .ref 95, .int fi, .int gi])) = w5 at d45 t5
      have P := G.1.2.2.2.2.1
      have P5 : CP w5 n V := (((P.chg g3 (fun q hq => by have := hp0 q hq; omega)).chg k3 (fun q hq => by simp at hq; omega)).chg m3 (fun q hq => by simp at hq; omega)).chg d45 (fun q hq => by simp at hq; omega)
      obtain ⟨w6, f1, f2, f3⟩ := forget_ok P5
      have t6 := f3.at (k := 0) (by simp) t5
      have H6 : CS w6 si.1 si.2 := (((g2.chg k3 (fun q hq => by simp at hq; omega)).chg m3 (fun q hq => by simp at hq; omega)).chg0 d45 (fun q hq => by simp at hq; omega)).chg f3 (fun q hq => by simp at hq; omega)
      have Z6 : Sc w6 := ((((G.2.1.hp g3).chg k3 (fun q hq => by simp at hq; omega)).chg m3 (fun q hq => by simp at hq; omega)).chg d45 (fun q hq => by simp at hq; omega)).chg f3 (fun q hq => by simp at hq; omega)
      have KS : ∀ q, q ∈ hpl ++ [85, 86, 87, 88, 0, 31] ↔ q ∈ hpl ∨ q = 85 ∨ q = 86 ∨ q = 87 ∨ q = 88 ∨ q = 0 ∨ q = 31 := fun q => by
        rw [List.mem_append]
        simp only [List.mem_cons, List.not_mem_nil, or_false]
      have cA : Chg (hpl ++ [85, 86, 87, 88, 0, 31]) (mW C F v ar) w6 := ((((g3.mono (fun q hq => (KS q).mpr (Or.inl hq))).tr (k3.mono (fun q hq => (KS q).mpr (by simp at hq; omega)))).tr (m3.mono (fun q hq => (KS q).mpr (by simp at hq; omega)))).tr (d45.mono (fun q hq => (KS q).mpr (by simp at hq; omega)))).tr (f3.mono (fun q hq => (KS q).mpr (by simp at hq; omega)))
      obtain ⟨C1, e2, e1, e3⟩ := mW_chg G.1.1 cA (fun q hq => by rcases (KS q).mp hq with z | z
                                                                 · have := hp0 q z; omega
                                                                 · omega)
      have rc6 : RestC w6 (ti, li, fi, gi, R.2.2.2.2) := by
        obtain ⟨h1, h2, h3, ⟨a', b', c', d', e', g', h4⟩, ⟨f, h5⟩, h6, ⟨f2', h7, h8⟩, h9⟩ := id rc
        have nA : ∀ q, 89 ≤ q → q ∉ hpl ++ [85, 86, 87, 88, 0, 31] := fun q hq z => by
          rcases (KS q).mp z with y | y
          · have := hp0 q y; omega
          · omega
        refine ⟨t6, ((k2.chg m3 (by simp) (by simp)).chg d45 (by simp) (by simp)).chg f3 (by simp) (by simp), (m2.chg d45 (by simp) (by simp)).chg f3 (by simp) (by simp), ⟨a', b', c', d', e', g', cA.at (nA _ (by omega)) h4⟩, ⟨f, cA.at (nA _ (by omega)) h5⟩, h6.chg cA (fun q hq => Classical.byContradiction fun y => nA q (by omega) hq), ⟨f2', cA.at (nA _ (by omega)) h7, h8⟩, fun j hj => (h9 j hj).same (fun q q1 q2 => cA.2 q (nA q (by omega)))⟩
      have T6 : C0 w6 := ⟨_, _, t6⟩
      subst e1
      -- the model
      obtain ⟨x, hx⟩ : ∃ x, x = 13664 + 2180 * k := ⟨_, rfl⟩
      have hcp := mcopies_ok (C := C1) (F := F) (v := v) (ar := ar) (fu := fu) (fr := x) (to := 0) (n := 976) e2 hfu (by omega) (by omega) (by omega) (by omega)
      have hti := ma_tape (C := C1) (F := F) (v := v) (fu := fu) e2 (by omega) (x := x) (by omega) fu 0 (ua ar 0 (cpF (ar 0) x 0 976 0)) (by omega) (by omega)
      have lT := iT.2.1
      have lL := iL.2.1
      have hcx : ∀ q, 976 ≤ q → cpF (ar 0) x 0 976 0 q = ar 0 q := fun q hq => by unfold cpF; rw [if_neg (by omega)]
      refine ⟨1, mW C1 F v ar, mW C1 (upd (upd (upd (upd (upd F 4 (ua ar 0 (cpF (ar 0) x 0 976 0) 0 (x + 2176))) 6 (ua ar 0 (cpF (ar 0) x 0 976 0) 0 (x + 2177))) 7 (ua ar 0 (cpF (ar 0) x 0 976 0) 0 (x + 2178))) 5 (ua ar 0 (cpF (ar 0) x 0 976 0) 0 (x + 2179))) 8 0) v (ua (ua (ua ar 0 (cpF (ar 0) x 0 976 0)) 1 (cp2 (ua ar 0 (cpF (ar 0) x 0 976 0) 1) (fun i => ua ar 0 (cpF (ar 0) x 0 976 0) 0 (x + 976 + i)) 0 800 0)) 2 (cp2 (ua ar 0 (cpF (ar 0) x 0 976 0) 2) (fun i => ua ar 0 (cpF (ar 0) x 0 976 0) 0 (x + 1776 + i)) 0 400 0)), ?_, ?_, m_cl e2 _ _ _ _, ⟨C1, upd (upd (upd (upd (upd F 4 (ua ar 0 (cpF (ar 0) x 0 976 0) 0 (x + 2176))) 6 (ua ar 0 (cpF (ar 0) x 0 976 0) 0 (x + 2177))) 7 (ua ar 0 (cpF (ar 0) x 0 976 0) 0 (x + 2178))) 5 (ua ar 0 (cpF (ar 0) x 0 976 0) 0 (x + 2179))) 8 0, v, ua (ua (ua ar 0 (cpF (ar 0) x 0 976 0)) 1 (cp2 (ua ar 0 (cpF (ar 0) x 0 976 0) 1) (fun i => ua ar 0 (cpF (ar 0) x 0 976 0) 0 (x + 976 + i)) 0 800 0)) 2 (cp2 (ua ar 0 (cpF (ar 0) x 0 976 0) 2) (fun i => ua ar 0 (cpF (ar 0) x 0 976 0) 0 (x + 1776 + i)) 0 400 0), si, [], n, _, rfl, ⟨⟨e2, T6.m e2 _ _ _, H6.m e2 _ _ _, iO, f2.m e2 _ _ _, ?_, ⟨by simp, fun t ht => by simp at ht⟩, ?_, ?_⟩, Z6.m e2 _ _ _, iF, fun W hW => by simp at hW⟩, rc6.m e2 _ _ _, ?_⟩⟩
      · rw [f_X10_again, if_neg (nI_pos (by omega)), if_neg (show ¬ (3 : Int32) ≤ nI k from nI_ge (b := 3) hk (by omega)), gR_ob rc.1 rfl, some_bind', aRn_ar h95 (h95' k hk) hk (by omega), some_bind', gI_ob hP rfl, some_bind', if_neg (by decide), some_bind', aRn_ar h95 (h95' k hk) hk (by omega), some_bind', gR_ob hP rfl, some_bind', gR_ob rc.1 rfl, some_bind', cl_ob hS.1, g1, some_bind', gR_ob t1 rfl, some_bind', gR_ob p1 rfl, some_bind', a85.cl, k1, some_bind', gR_ob t2 rfl, some_bind', gR_ob p2 rfl, some_bind', (a87.chg k3 (by simp) (by simp)).cl, m1, some_bind', gI_ob p3 rfl, some_bind', pV_ob t3 (by simp), some_bind']
        dsimp only [List.set]
        rw [gI_ob p4 rfl, some_bind', pV_ob t4 (by simp), some_bind']
        dsimp only [List.set]
        rw [hw5, gR_ob t5 rfl, some_bind', P5.cl, f1, some_bind']
      · dsimp only
        rw [f_X11_again, isIn3_in hk, if_neg (by decide), m_gR e2 F v ar 3 rfl, some_bind', m_a3 e2 F v ar hk, some_bind', z1, if_neg (by decide), show (13664 : Int32) = nI 13664 from rfl, show (2180 : Int32) = nI 2180 from rfl, nI_mul, nI_add, ← hx, bnd_eq, m_cl e2, show (0 : Int32) = nI 0 from rfl, show (976 : Int32) = nI 976 from rfl, hcp, some_bind', bnd_eq]
        exact hti
      · rw [ua_ne _ _ (by omega), ua_ne _ _ (by omega), ua_eq]
        refine z2.copy iO.1 (fun q hq => ?_)
        unfold cpF
        rw [if_pos (by omega), hx]
        congr 1
        omega
      · rw [upd_eq]; rfl
      · rw [upd_ne _ _ (by omega), upd_ne _ _ (by omega), upd_ne _ _ (by omega), upd_ne _ _ (by omega), upd_ne _ _ (by omega)]; exact G.1.2.2.2.2.2.2.2.2
      · rw [ua_eq]
        refine ⟨?_, ?_, ?_, ?_, fun j hj => ?_, fun j hj => ?_, fun j hj => ?_⟩
        · rw [upd_ne _ _ (by omega), upd_ne _ _ (by omega), upd_ne _ _ (by omega), upd_ne _ _ (by omega), upd_eq, hcx _ (by omega), hx]; exact z5
        · rw [upd_ne _ _ (by omega), upd_eq, hcx _ (by omega), hx]; exact z8
        · rw [upd_ne _ _ (by omega), upd_ne _ _ (by omega), upd_ne _ _ (by omega), upd_eq, hcx _ (by omega), hx]; exact z6
        · rw [upd_ne _ _ (by omega), upd_ne _ _ (by omega), upd_eq, hcx _ (by omega), hx]; exact z7
        · have hj' : j < ti.length := hj
          rw [ua_ne _ _ (by omega), ua_eq]
          unfold cp2
          rw [if_pos (by omega), Nat.sub_zero]
          show cpF (ar 0) x 0 976 0 (x + 976 + j) = _
          rw [hcx _ (by omega), hx]
          exact z3 j hj'
        · have hj' : j < li.length := hj
          rw [ua_eq]
          unfold cp2
          rw [if_pos (by omega), Nat.sub_zero]
          show cpF (ar 0) x 0 976 0 (x + 1776 + j) = _
          rw [hcx _ (by omega), hx]
          exact z4 j hj'
        · refine (rm.2.2.2.2.2.2 j hj).same hj ((rc.2.2.2.2.2.2.2 j hj).bd) ?_ (fun q q1 q2 => ?_)
          · rw [ua_ne _ _ (by omega), ua_ne _ _ (by omega), ua_ne _ _ (by omega)]
          · rw [ua_ne _ _ (by omega), ua_ne _ _ (by omega), ua_eq]
            exact hcx q (by omega)
  · refine ⟨0, mW C F v ar, mW C F v ar, ?_, ?_, m_cl G.1.1 _ _ _ _, keep⟩
    · rw [f_X10_again]
      by_cases c : a < 0
      · rw [if_pos c]
      · rw [if_neg c, if_pos (ha.resolve_left c)]
    · dsimp only
      rw [f_X11_again, isIn3_out ha, if_pos rfl]
end Q
