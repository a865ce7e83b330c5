/-! TELL, the model's -/
def TM (F : Nat → Int32) (ar : Nat → Nat → Int32) (T : List Nat) : Prop := F 5 = nI T.length ∧ ∀ j, j < T.length → ar 2 j = nI (nth T j)
def TF (F : Nat → Int32) (ar : Nat → Nat → Int32) (F' : Nat → Int32) (ar' : Nat → Nat → Int32) : Prop := (∀ k, k ≠ 5 → F' k = F k) ∧ ∀ k, k ≠ 2 → ar' k = ar k
theorem TF.rf (F : Nat → Int32) (ar : Nat → Nat → Int32) : TF F ar F ar := ⟨fun _ _ => rfl, fun _ _ => rfl⟩
theorem TF.tr {F F1 F2 : Nat → Int32} {ar ar1 ar2 : Nat → Nat → Int32} (h : TF F ar F1 ar1) (g : TF F1 ar1 F2 ar2) : TF F ar F2 ar2 := ⟨fun k hk => (g.1 k hk).trans (h.1 k hk), fun k hk => (g.2 k hk).trans (h.2 k hk)⟩
section Q
variable {C : MW} {F : Nat → Int32} {v : Int64} {ar : Nat → Nat → Int32} {s : AS} {V : List AS} {n : Nat} {fu : Nat} {R : RT} {b : Nat}
theorem MB.tf (B : MB C F ar b s) {F' : Nat → Int32} {ar' : Nat → Nat → Int32} (h : TF F ar F' ar') : MB C F' ar' b s := by
  obtain ⟨h1, h2, h3, h4, h5⟩ := B
  exact ⟨h1, by rw [h.1 9 (by omega)]; exact h2, h3, by rw [h.2 0 (by omega)]; exact h4, h5⟩
theorem tells_ok (hC : C.length = 123) {T : List Nat} (h : TM F ar T) (hl : T.length < 400) (x : Nat) : ∃ F' ar', f_X11_tells (mW C F v ar) 123 (nI x) = some (mW C F' v ar') ∧ TM F' ar' (T ++ [x]) ∧ TF F ar F' ar' := by
  refine ⟨upd F 5 (nI (T.length + 1)), ua ar 2 (upd (ar 2) T.length (nI x)), ?_, ⟨by rw [upd_eq]; simp, fun j hj => ?_⟩, fun k hk => upd_ne _ _ hk, fun k hk => ua_ne _ _ hk⟩
  · rw [f_X11_tells, m_gR hC F v ar 2 rfl, some_bind', m_gI hC F v ar 5 rfl, some_bind', h.1, m_s2 hC F v ar _ hl, some_bind', m_gI hC F v _ 5 rfl, some_bind', h.1, nI_1, m_p hC F v _ 5 (by omega) mFt.2.1, some_bind']
  · rw [ua_eq]
    simp at hj
    rw [nth_snoc hj]
    by_cases c : j < T.length
    · rw [if_pos c, upd_ne _ _ (by omega)]; exact h.2 j c
    · rw [if_neg c, show j = T.length by omega, upd_eq]
theorem mnum_add (hC : C.length = 123) {N k d : Nat} {T : List Nat} (h : TM F ar T) (hl : T.length < 400) (hk : k < 2 ^ 31) (hd : 0 < d) (hd2 : d < 2 ^ 31) : ∃ F' ar', f_X11_number_18 fu (N + 1) (mW C F v ar) 123 (nI k) (nI d) = f_X11_number_18 fu N (mW C F' v ar') 123 (nI k) (nI (d / 10)) ∧ TM F' ar' (T ++ [48 + k / d % 10]) ∧ TF F ar F' ar' := by
  have h1 : k / d ≤ k := Nat.div_le_self k d
  obtain ⟨F', ar', a1, a2, a3⟩ := tells_ok (v := v) hC h hl (48 + k / d % 10)
  refine ⟨F', ar', ?_, a2, a3⟩
  rw [f_X11_number_18, if_neg (nI_nle hd hd2), dv_nI hk hd hd2, some_bind', nI_m10 (by omega), show (48 : Int32) = nI 48 from rfl, nI_add, m_cl hC, a1, some_bind', bnd_eq, show (10 : Int32) = nI 10 from rfl, nI_dv hd2 (by omega)]
theorem mnum2_go {N k d : Nat} (hk : k < 2 ^ 31) (hd : 0 < d) (hd2 : d * 10 < 2 ^ 31) (h : 9 < k / d) : f_X11_number_2 fu (N + 1) (mW C F v ar) 123 (nI k) (nI d) = f_X11_number_2 fu N (mW C F v ar) 123 (nI k) (nI (d * 10)) := by
  have h1 : k / d ≤ k := Nat.div_le_self k d
  rw [f_X11_number_2, dv_nI hk hd (by omega), some_bind', if_neg (show ¬ nI (k / d) ≤ (9 : Int32) from nI_ge (a := 9) h (by omega)), bnd_eq, show (10 : Int32) = nI 10 from rfl, nI_mul]
theorem mnum2_end {N k d : Nat} (hk : k < 2 ^ 31) (hd : 0 < d) (hd2 : d * 10 < 2 ^ 31) (h : k / d ≤ 9) : f_X11_number_2 fu (N + 1) (mW C F v ar) 123 (nI k) (nI d) = f_X11_number_18 fu fu (mW C F v ar) 123 (nI k) (nI d) := by
  have h1 : k / d ≤ k := Nat.div_le_self k d
  rw [f_X11_number_2, dv_nI hk hd (by omega), some_bind', if_pos (show nI (k / d) ≤ (9 : Int32) from nI_le (b := 9) h (by omega))]
theorem mnum_ok (hC : C.length = 123) (hfu : 10 ≤ fu) {k : Nat} {T : List Nat} (h : TM F ar T) (hl : T.length + 4 ≤ 400) (hk : k < 10000) : ∃ F' ar', f_X11_number fu (mW C F v ar) 123 (nI k) = some (mW C F' v ar') ∧ TM F' ar' (T ++ dg k) ∧ TF F ar F' ar' := by
  have fin : ∀ n F ar, f_X11_number_18 fu (n + 1) (mW C F v ar) 123 (nI k) (nI (1 / 10)) = some (mW C F v ar) := by
    intro n F ar
    rw [f_X11_number_18, if_pos (by decide)]
  rw [f_X11_number, bnd_eq, show (1 : Int32) = nI 1 from rfl]
  have st : ∀ d, (∀ N, N + 1 + 1 + 1 + 1 + 1 = fu → f_X11_number_2 fu fu (mW C F v ar) 123 (nI k) (nI 1) = f_X11_number_18 fu (N + 1 + 1 + 1 + 1 + 1) (mW C F v ar) 123 (nI k) (nI d)) → f_X11_number_2 fu fu (mW C F v ar) 123 (nI k) (nI 1) = f_X11_number_18 fu (fu - 5 + 1 + 1 + 1 + 1 + 1) (mW C F v ar) 123 (nI k) (nI d) := fun d hd => hd (fu - 5) (by omega)
  unfold dg
  by_cases k1 : k < 10
  · rw [if_pos k1]
    have e := st 1 (fun N hN => by
      rw [hN]
      obtain ⟨M, hM⟩ : ∃ M, fu = M + 1 := ⟨fu - 1, by omega⟩
      have := mnum2_end (fu := fu) (N := M) (C := C) (F := F) (v := v) (ar := ar) (k := k) (d := 1) (by omega) (by omega) (by omega) (by omega)
      rw [← hM] at this
      exact this)
    obtain ⟨F1, ar1, a1, a2, a3⟩ := mnum_add (v := v) (fu := fu) (N := fu - 5 + 1 + 1 + 1 + 1) (k := k) (d := 1) hC h (by omega) (by omega) (by omega) (by omega)
    exact ⟨F1, ar1, (e.trans a1).trans (fin _ _ _), a2, a3⟩
  · rw [if_neg k1]
    by_cases k2 : k < 100
    · rw [if_pos k2]
      have e := st 10 (fun N hN => by
        rw [hN]
        obtain ⟨M, hM⟩ : ∃ M, fu = M + 1 + 1 := ⟨fu - 2, by omega⟩
        have z1 := mnum2_go (fu := fu) (N := M + 1) (C := C) (F := F) (v := v) (ar := ar) (k := k) (d := 1) (by omega) (by omega) (by omega) (by omega)
        have z2 := mnum2_end (fu := fu) (N := M) (C := C) (F := F) (v := v) (ar := ar) (k := k) (d := 1 * 10) (by omega) (by omega) (by omega) (by omega)
        rw [← hM] at z1
        exact z1.trans z2)
      obtain ⟨F1, ar1, a1, a2, a3⟩ := mnum_add (v := v) (fu := fu) (N := fu - 5 + 1 + 1 + 1 + 1) (k := k) (d := 10) hC h (by omega) (by omega) (by omega) (by omega)
      obtain ⟨F2, ar2, b1, b2, b3⟩ := mnum_add (v := v) (fu := fu) (N := fu - 5 + 1 + 1 + 1) (k := k) (d := 10 / 10) hC a2 (by simp; omega) (by omega) (by omega) (by omega)
      exact ⟨F2, ar2, ((e.trans a1).trans b1).trans (fin _ _ _), by rw [List.append_assoc] at b2; exact b2, a3.tr b3⟩
    · rw [if_neg k2]
      by_cases k3 : k < 1000
      · rw [if_pos k3]
        have e := st 100 (fun N hN => by
          rw [hN]
          obtain ⟨M, hM⟩ : ∃ M, fu = M + 1 + 1 + 1 := ⟨fu - 3, by omega⟩
          have z1 := mnum2_go (fu := fu) (N := M + 1 + 1) (C := C) (F := F) (v := v) (ar := ar) (k := k) (d := 1) (by omega) (by omega) (by omega) (by omega)
          have z2 := mnum2_go (fu := fu) (N := M + 1) (C := C) (F := F) (v := v) (ar := ar) (k := k) (d := 1 * 10) (by omega) (by omega) (by omega) (by omega)
          have z3 := mnum2_end (fu := fu) (N := M) (C := C) (F := F) (v := v) (ar := ar) (k := k) (d := 1 * 10 * 10) (by omega) (by omega) (by omega) (by omega)
          rw [← hM] at z1
          exact (z1.trans z2).trans z3)
        obtain ⟨F1, ar1, a1, a2, a3⟩ := mnum_add (v := v) (fu := fu) (N := fu - 5 + 1 + 1 + 1 + 1) (k := k) (d := 100) hC h (by omega) (by omega) (by omega) (by omega)
        obtain ⟨F2, ar2, b1, b2, b3⟩ := mnum_add (v := v) (fu := fu) (N := fu - 5 + 1 + 1 + 1) (k := k) (d := 100 / 10) hC a2 (by simp; omega) (by omega) (by omega) (by omega)
        obtain ⟨F3, ar3, c1, c2, c3⟩ := mnum_add (v := v) (fu := fu) (N := fu - 5 + 1 + 1) (k := k) (d := 100 / 10 / 10) hC b2 (by simp; omega) (by omega) (by omega) (by omega)
        exact ⟨F3, ar3, (((e.trans a1).trans b1).trans c1).trans (fin _ _ _), by rw [List.append_assoc, List.append_assoc] at c2; exact c2, (a3.tr b3).tr c3⟩
      · rw [if_neg k3]
        have e := st 1000 (fun N hN => by
          rw [hN]
          obtain ⟨M, hM⟩ : ∃ M, fu = M + 1 + 1 + 1 + 1 := ⟨fu - 4, by omega⟩
          have z1 := mnum2_go (fu := fu) (N := M + 1 + 1 + 1) (C := C) (F := F) (v := v) (ar := ar) (k := k) (d := 1) (by omega) (by omega) (by omega) (by omega)
          have z2 := mnum2_go (fu := fu) (N := M + 1 + 1) (C := C) (F := F) (v := v) (ar := ar) (k := k) (d := 1 * 10) (by omega) (by omega) (by omega) (by omega)
          have z3 := mnum2_go (fu := fu) (N := M + 1) (C := C) (F := F) (v := v) (ar := ar) (k := k) (d := 1 * 10 * 10) (by omega) (by omega) (by omega) (by omega)
          have z4 := mnum2_end (fu := fu) (N := M) (C := C) (F := F) (v := v) (ar := ar) (k := k) (d := 1 * 10 * 10 * 10) (by omega) (by omega) (by omega) (by omega)
          rw [← hM] at z1
          exact ((z1.trans z2).trans z3).trans z4)
        obtain ⟨F1, ar1, a1, a2, a3⟩ := mnum_add (v := v) (fu := fu) (N := fu - 5 + 1 + 1 + 1 + 1) (k := k) (d := 1000) hC h (by omega) (by omega) (by omega) (by omega)
        obtain ⟨F2, ar2, b1, b2, b3⟩ := mnum_add (v := v) (fu := fu) (N := fu - 5 + 1 + 1 + 1) (k := k) (d := 1000 / 10) hC a2 (by simp; omega) (by omega) (by omega) (by omega)
        obtain ⟨F3, ar3, c1, c2, c3⟩ := mnum_add (v := v) (fu := fu) (N := fu - 5 + 1 + 1) (k := k) (d := 1000 / 10 / 10) hC b2 (by simp; omega) (by omega) (by omega) (by omega)
        obtain ⟨F4, ar4, d1, d2, d3⟩ := mnum_add (v := v) (fu := fu) (N := fu - 5 + 1) (k := k) (d := 1000 / 10 / 10 / 10) hC c2 (by simp; omega) (by omega) (by omega) (by omega)
        exact ⟨F4, ar4, ((((e.trans a1).trans b1).trans c1).trans d1).trans (fin _ _ _), by rw [List.append_assoc, List.append_assoc, List.append_assoc] at d2; exact d2, ((a3.tr b3).tr c3).tr d3⟩
theorem mext_ok (B : MB C F ar b s) {t : Nat} (ht : t < 8) {lr : MW → Nat → Int32 → Int32 → Option (Int32 × MW)} {i : Nat} (hi : i < (s.1 t).length) : ∀ m x N, (s.1 t).length = x + 1 + m → m < N → nth (s.1 t) x % 2 = nth (s.1 t) i % 2 → f_X11_tell_27 fu lr N (mW C F v ar) 123 (nI t) (nI i) (nI x) = f_X11_tell_80 fu lr (mW C F v ar) 123 (nI t) (nI i) (nI (extE (s.1 t) m x)) := by
  have S := B.2.2.2.2 t ht
  have hl := S.len
  intro m
  induction m with
  | zero =>
    intro x N hx hN _
    obtain ⟨N, rfl⟩ : ∃ k, N = k + 1 := ⟨N - 1, by omega⟩
    rw [f_X11_tell_27, B.cl, B.many ht, some_bind', nI_1, if_pos (nI_le (by omega) (by omega))]
    rfl
  | succ m ih =>
    intro x N hx hN hm
    obtain ⟨N, rfl⟩ : ∃ k, N = k + 1 := ⟨N - 1, by omega⟩
    have a1 := S.lt (j := x) (by omega)
    have a2 := S.lt (j := x + 1) (by omega)
    have a3 := S.inc (i := x) (j := x + 1) (by omega) (by omega)
    rw [f_X11_tell_27, B.cl, B.many ht, some_bind', nI_1, if_neg (nI_ge (by omega) (by omega)), B.cl, B.key ht (by omega), some_bind', B.cl, B.key ht (by omega), some_bind', nI_1, extE]
    by_cases c1 : nth (s.1 t) (x + 1) / 2 = nth (s.1 t) x / 2 + 1
    · rw [c1, if_pos rfl, B.cl, B.mark ht (by omega), some_bind', B.cl, B.mark ht hi, some_bind']
      by_cases c2 : nth (s.1 t) (x + 1) % 2 = nth (s.1 t) i % 2
      · rw [c2, if_pos rfl, if_pos (by omega), bnd_eq]
        exact ih (x + 1) N (by omega) (by omega) c2
      · rw [if_neg (show ¬ nI _ = nI _ from fun q => c2 ((nI_eq (by omega) (by omega)).mp q)), if_neg (by omega)]
    · rw [if_neg (show ¬ nI _ = nI _ from fun q => c1 ((nI_eq (by omega) (by omega)).mp q)), if_neg (by omega)]
theorem mtell_loop {t : Nat} (ht : t < 8) (hfu : 100 ≤ fu) : ∀ m i N F ar T, MB C F ar b s → TM F ar T → i ≤ (s.1 t).length → (s.1 t).length ≤ i + m → m < N → T.length + 6 * ((s.1 t).length - i) ≤ 360 → ∃ F' ar', f_X11_tell_16 fu N (mW C F v ar) 123 (nI t) (nI i) = some (nI (tel (s.1 t) m i T).length, mW C F' v ar') ∧ TM F' ar' (tel (s.1 t) m i T) ∧ TF F ar F' ar' := by
  have stop : ∀ i N F ar T, MB C F ar b s → TM F ar T → i = (s.1 t).length → f_X11_tell_16 fu (N + 1) (mW C F v ar) 123 (nI t) (nI i) = some (nI T.length, mW C F v ar) := by
    intro i N F ar T B hT hi
    have hl := (B.2.2.2.2 t ht).len
    rw [f_X11_tell_16, B.cl, B.many ht, some_bind', if_pos (nI_le (by omega) (by omega)), m_gI B.1 F v ar 5 rfl, some_bind', hT.1]
  intro m
  induction m with
  | zero =>
    intro i N F ar T B hT hi0 hi hN hb
    obtain ⟨N, rfl⟩ : ∃ k, N = k + 1 := ⟨N - 1, by omega⟩
    exact ⟨F, ar, stop i N F ar T B hT (by omega), hT, TF.rf _ _⟩
  | succ m ih =>
    intro i N F ar T B hT hi0 hi hN hb
    obtain ⟨N, rfl⟩ : ∃ k, N = k + 1 := ⟨N - 1, by omega⟩
    have S := B.2.2.2.2 t ht
    have hl := S.len
    have hC := B.1
    rw [tel]
    by_cases c : (s.1 t).length ≤ i
    · rw [if_pos c]
      exact ⟨F, ar, stop i N F ar T B hT (by omega), hT, TF.rf _ _⟩
    · have hi' : i < (s.1 t).length := by omega
      have hb2 := lsT_b hi'
      have hpl := pc_len hi' hb
      have x1 := S.lt hi'
      have x2 := S.lt hb2.2.1
      have hd1 := dg_len (nth (s.1 t) i / 2)
      rw [if_neg c]
      have s0 : f_X11_tell_16 fu (N + 1) (mW C F v ar) 123 (nI t) (nI i) = f_X11_tell_89 fu (f_X11_tell_16 fu N) (mW C F v ar) 123 (nI t) (nI i) (nI (lsT (s.1 t) i)) := by
        have bb := extE_b (s.1 t) ((s.1 t).length - i - 1) i
        rw [f_X11_tell_16, B.cl, B.many ht, some_bind', if_neg (nI_ge hi' (by omega)), bnd_eq, mext_ok B ht hi' ((s.1 t).length - i - 1) i fu (by omega) (by omega) rfl, f_X11_tell_80, nI_sub bb.1, lsT]
        by_cases c2 : 2 ≤ extE (s.1 t) ((s.1 t).length - i - 1) i - i
        · rw [if_pos (show (2 : Int32) ≤ nI _ from nI_le (a := 2) c2 (by omega)), if_pos c2]
        · rw [if_neg (show ¬ (2 : Int32) ≤ nI _ from nI_ge (b := 2) (by omega) (by omega)), if_neg c2, bnd_eq]
      have s1 : ∃ F1 ar1, TM F1 ar1 (T ++ pcA (s.1 t) i) ∧ TF F ar F1 ar1 ∧ f_X11_tell_89 fu (f_X11_tell_16 fu N) (mW C F v ar) 123 (nI t) (nI i) (nI (lsT (s.1 t) i)) = f_X11_tell_99 fu (f_X11_tell_16 fu N) (mW C F1 v ar1) 123 (nI t) (nI i) (nI (lsT (s.1 t) i)) := by
        by_cases z : i = 0
        · refine ⟨F, ar, ?_, TF.rf _ _, ?_⟩
          · unfold pcA; rw [if_pos z, List.append_nil]; exact hT
          · rw [f_X11_tell_89, if_pos (show nI i ≤ 0 by rw [z]; decide)]
        · obtain ⟨F1, ar1, r1, r2, r3⟩ := tells_ok (v := v) hC hT (by omega) 32
          refine ⟨F1, ar1, ?_, r3, ?_⟩
          · unfold pcA; rw [if_neg z]; exact r2
          · rw [f_X11_tell_89, if_neg (nI_nle (by omega) (by omega)), m_cl hC, show (32 : Int32) = nI 32 from rfl, r1, some_bind']
      obtain ⟨F1, ar1, r1, r2, r3⟩ := s1
      have B1 := B.tf r2
      obtain ⟨F2, ar2, u1, u2, u3⟩ := mnum_ok (v := v) (fu := fu) (k := nth (s.1 t) i / 2) hC (by omega) r1 (by simp; omega) (by omega)
      have B2 := B1.tf u3
      have s3 : ∃ F3 ar3, TM F3 ar3 (T ++ pcA (s.1 t) i ++ dg (nth (s.1 t) i / 2) ++ pcB (s.1 t) i) ∧ TF F2 ar2 F3 ar3 ∧ f_X11_tell_99 fu (f_X11_tell_16 fu N) (mW C F1 v ar1) 123 (nI t) (nI i) (nI (lsT (s.1 t) i)) = f_X11_tell_130 fu (f_X11_tell_16 fu N) (mW C F3 v ar3) 123 (nI t) (nI i) (nI (lsT (s.1 t) i)) := by
        by_cases z : lsT (s.1 t) i ≤ i
        · refine ⟨F2, ar2, ?_, TF.rf _ _, ?_⟩
          · unfold pcB; rw [if_pos z, List.append_nil]; exact u2
          · rw [f_X11_tell_99, m_cl hC, B1.key ht hi', some_bind', m_cl hC, u1, some_bind', if_pos (nI_le z (by omega))]
        · have hpB : (pcB (s.1 t) i).length = (dg (nth (s.1 t) (lsT (s.1 t) i) / 2)).length + 1 := by unfold pcB; rw [if_neg z]; simp
          obtain ⟨F3, ar3, g1, g2, g3⟩ := tells_ok (v := v) hC u2 (by simp; omega) 45
          have B3 := B2.tf g3
          obtain ⟨F4, ar4, k1, k2, k3⟩ := mnum_ok (v := v) (fu := fu) (k := nth (s.1 t) (lsT (s.1 t) i) / 2) hC (by omega) g2 (by simp; omega) (by omega)
          refine ⟨F4, ar4, ?_, g3.tr k3, ?_⟩
          · unfold pcB; rw [if_neg z]; rw [List.append_assoc _ [45]] at k2; exact k2
          · rw [f_X11_tell_99, m_cl hC, B1.key ht hi', some_bind', m_cl hC, u1, some_bind', if_neg (nI_ge (by omega) (by omega)), m_cl hC, show (45 : Int32) = nI 45 from rfl, g1, some_bind', m_cl hC, B3.key ht hb2.2.1, some_bind', m_cl hC, k1, some_bind']
      obtain ⟨F3, ar3, g1, g2, g3⟩ := s3
      have B3 := B2.tf g2
      have s4 : ∃ F4 ar4, TM F4 ar4 (T ++ pcA (s.1 t) i ++ dg (nth (s.1 t) i / 2) ++ pcB (s.1 t) i ++ pcC (s.1 t) i) ∧ TF F3 ar3 F4 ar4 ∧ f_X11_tell_130 fu (f_X11_tell_16 fu N) (mW C F3 v ar3) 123 (nI t) (nI i) (nI (lsT (s.1 t) i)) = f_X11_tell_146 fu (f_X11_tell_16 fu N) (mW C F4 v ar4) 123 (nI t) (nI (lsT (s.1 t) i)) := by
        by_cases z : nth (s.1 t) i % 2 = 1
        · have hpC : (pcC (s.1 t) i).length = 1 := by unfold pcC; rw [if_pos z]; rfl
          obtain ⟨F4, ar4, k1, k2, k3⟩ := tells_ok (v := v) hC g1 (by simp; omega) 42
          refine ⟨F4, ar4, ?_, k3, ?_⟩
          · unfold pcC; rw [if_pos z]; exact k2
          · rw [f_X11_tell_130, m_cl hC, B3.mark ht hi', some_bind', z, if_pos (by decide), m_cl hC, show (42 : Int32) = nI 42 from rfl, k1, some_bind']
        · refine ⟨F3, ar3, ?_, TF.rf _ _, ?_⟩
          · unfold pcC; rw [if_neg z, List.append_nil]; exact g1
          · rw [f_X11_tell_130, m_cl hC, B3.mark ht hi', some_bind', show nth (s.1 t) i % 2 = 0 by omega, if_neg (by decide)]
      obtain ⟨F4, ar4, k1, k2, k3⟩ := s4
      obtain ⟨F5, ar5, j1, j2, j3⟩ := ih (lsT (s.1 t) i + 1) N F4 ar4 _ (B3.tf k2) k1 (by omega) (by omega) (by omega) (by simp; omega)
      refine ⟨F5, ar5, ?_, j2, (((r2.tr u3).tr g2).tr k2).tr j3⟩
      rw [s0, r3, g3, k3, f_X11_tell_146, bnd_eq, bnd_eq, nI_1, j1]
theorem tell_res (G : Good C F v ar s V n) (rc : RestC (mW C F v ar) R) (rm : RestM F ar R) (hfu : 100 ≤ fu) (a : Int32) : ResI (f_X10_tell fu (mW C F v ar) 0 a) (fun w => f_X11_tell fu w 123 a) := by
  have keep : Inv (mW C F v ar) := ⟨C, F, v, ar, s, V, n, R, rfl, G, rc, rm⟩
  have H0 := G.1.2.2.1
  rcases set_cases a with ⟨t, ht, rfl⟩ | ha
  · have S := G.1.mb.2.2.2.2 t ht
    have hl := S.len
    have z0 : (0 : Nat) ∉ [87, 88] := by simp
    obtain ⟨a0, b0, d0, f, e0, g0⟩ := id rc.2.2.1
    have c1 := Chg.st (ks := [87, 88]) (mW C F v ar) (a := 87) (.inr (4, [.ref 88, .int (nI 0)])) (by simp)
    have r1 : RW ((mW C F v ar).set 87 (.inr (4, [.ref 88, .int (nI 0)]))) 87 360 [] := ⟨get_set_eq a0, by simp, fun b hb => by simp at hb, f, by rw [get_set_ne (by omega)]; exact e0, fun j hj => by simp at hj⟩
    have H1 : HA _ (13 + 2 * t) (14 + 2 * t) (s.1 t) (s.2 t) := (H0.ha ht).chg c1 (by simp; omega) (by simp; omega)
    obtain ⟨w2, k1, k2, k3⟩ := ctell_loop (fu := fu) S hfu (by simp; omega) (by simp; omega) (s.1 t).length 0 fu _ [] H1 ⟨_, _, c1.at z0 rc.1⟩ r1 (by omega) (by omega) (by omega) (by simp; omega)
    have ch := c1.tr k3
    obtain ⟨C1, e1, e2, G1⟩ := good_r G ch (fun k hk => by simp at hk; omega) (G.1.2.1.chg ch z0)
    have rc1 := rc.told ch k2
    subst e1
    obtain ⟨F', ar', j1, j2, j3⟩ := mtell_loop (C := C1) (b := 0) (s := s) (v := v) (fu := fu) ht hfu (s.1 t).length 0 fu (upd F 5 (nI 0)) ar [] (G1.mod (F' := upd F 5 (nI 0)) (v' := v) (ar' := ar) (upd_ne _ _ (by omega)) (upd_ne _ _ (by omega)) (fun _ _ => rfl)).1.mb ⟨upd_eq _ _ _, fun j hj => by simp at hj⟩ (by omega) (by omega) (by omega) (by simp; omega)
    have hF : ∀ k, k ≠ 5 → F' k = F k := fun k hk => by rw [j3.1 k hk, upd_ne _ _ hk]
    refine ⟨nI (tel (s.1 t) (s.1 t).length 0 []).length, mW C1 F v ar, mW C1 F' v ar', ?_, ?_, m_cl e2 _ _ _ _, ⟨C1, F', v, ar', s, V, n, (R.1, tel (s.1 t) (s.1 t).length 0 [], R.2.2), rfl, G1.mod (hF 8 (by omega)) (hF 9 (by omega)) (fun q _ => by rw [j3.2 0 (by omega)]), rc1.m e2 _ _ _, ?_⟩⟩
    · rw [f_X10_tell, gR_ob rc.1 rfl, some_bind', H0.cl, heapAt_in H0 ht, some_bind']
      dsimp only
      rw [gR_ob rc.1 rfl, some_bind', pV_ob a0 (by simp), some_bind', bnd_eq]
      exact k1
    · dsimp only
      rw [f_X11_tell, mSet_in ht, if_neg (by decide), show (0 : Int32) = nI 0 from rfl, m_p e2 F v ar 5 (by omega) mFt.2.1, some_bind', bnd_eq]
      exact j1
    · obtain ⟨m1, m2, m3, m4, m5, m6, m7⟩ := rm
      exact ⟨by rw [hF 4 (by omega)]; exact m1, j2.1, by rw [hF 6 (by omega)]; exact m3, by rw [hF 7 (by omega)]; exact m4, fun j hj => by rw [j3.2 1 (by omega)]; exact m5 j hj, j2.2, fun k hk => (m7 k hk).same hk ((rc.2.2.2.2.2.2.2 k hk).bd) (by rw [j3.2 3 (by omega)]) (fun q _ _ => by rw [j3.2 0 (by omega)])⟩
  · refine ⟨-1, mW C F v ar, mW C F v ar, ?_, ?_, m_cl G.1.1 _ _ _ _, keep⟩
    · rw [f_X10_tell, gR_ob rc.1 rfl, some_bind', H0.cl, heapAt_out ha, some_bind']
    · dsimp only
      rw [f_X11_tell, mSet_out ha, if_pos rfl]
end Q
