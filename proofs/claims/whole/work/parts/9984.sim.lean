/-! THE READER: both sides, step by step -/
def cks : List Nat := 89 :: 90 :: 11 :: hpl
theorem cks_i {k : Nat} : k ∈ cks → k = 11 ∨ (12 < k ∧ k < 29) ∨ k = 89 ∨ k = 90 := by
  intro h
  unfold cks at h
  simp only [List.mem_cons] at h
  rcases h with h | h | h | h
  · omega
  · omega
  · omega
  · simp only [List.not_mem_nil, or_false] at h; omega
theorem c89 {w w' : MW} (h : Chg [89] w w') : Chg cks w w' := h.mono (fun k hk => by simp at hk; subst hk; unfold cks; simp)
theorem c90 {w w' : MW} (h : Chg [90] w w') : Chg cks w w' := h.mono (fun k hk => by simp at hk; subst hk; unfold cks; simp)
theorem c11 {w w' : MW} (h : Chg (11 :: hpl) w w') : Chg cks w w' := h.mono (fun k hk => by unfold cks; exact List.mem_cons_of_mem _ (List.mem_cons_of_mem _ hk))
/-- what the reading may change in the model -/
def FM (F : Nat → Int32) (ar : Nat → Nat → Int32) (F' : Nat → Int32) (ar' : Nat → Nat → Int32) : Prop := (∀ k, k ≠ 6 → k ≠ 7 → k ≠ 23 → k ≠ 24 → k ≠ 25 → F' k = F k) ∧ (∀ k, k ≠ 0 → ar' k = ar k) ∧ ∀ q, q < 976 ∨ 1952 ≤ q → ar' 0 q = ar 0 q
theorem FM.rf (F : Nat → Int32) (ar : Nat → Nat → Int32) : FM F ar F ar := ⟨fun _ _ _ _ _ _ => rfl, fun _ _ => rfl, fun _ _ => rfl⟩
theorem FM.tr {F F1 F2 : Nat → Int32} {ar ar1 ar2 : Nat → Nat → Int32} (h : FM F ar F1 ar1) (g : FM F1 ar1 F2 ar2) : FM F ar F2 ar2 := ⟨fun k a b c d e => (g.1 k a b c d e).trans (h.1 k a b c d e), fun k hk => (g.2.1 k hk).trans (h.2.1 k hk), fun q hq => (g.2.2 q hq).trans (h.2.2 q hq)⟩
theorem FM.f3 {F F' : Nat → Int32} (h : F3 F F') (ar : Nat → Nat → Int32) : FM F ar F' ar := ⟨fun k _ _ c d e => h k c d e, fun _ _ => rfl, fun _ _ => rfl⟩
def nx (T : List Nat) (z : Nat) : Nat := tS T (tE T z)
/-- both read well so far; the token at z is next -/
def GG (C : MW) (T : List Nat) (z : Nat) (s : AS) (f : Nat → Int32) (w : MW) (F : Nat → Int32) (v : Int64) (ar : Nat → Nat → Int32) : Prop :=
  z ≤ T.length ∧ (∃ num, SK w T (nI (tE T z)) (tK T z) (nI z) num 0 (-1) ∧ (tK T z = 3 → num = nI (nvR T z (tE T z - z)))) ∧ CS w s.1 s.2 ∧ AOK s.1 ∧ Sc w ∧ FOK s ∧ w[90]? = some (.inl (.int, 4, .inl f)) ∧ TP F ar T ∧ F 23 = nI (tE T z) ∧ F 24 = tM T z ∧ F 25 = nI z ∧ tV T z v ∧ F 6 = 0 ∧ F 7 = -1 ∧ MB C F ar 976 s
/-- both have failed alike -/
def BB (C : MW) (T : List Nat) (w : MW) (F : Nat → Int32) : Prop :=
  ∃ (c : Nat) (fp : Int32) (s : AS) (p : Nat) (k st num : Int32) (f : Nat → Int32), 1 ≤ c ∧ c ≤ 4 ∧ p ≤ T.length ∧ SK w T (nI p) k st num (nI c) fp ∧ CS w s.1 s.2 ∧ Sc w ∧ w[90]? = some (.inl (.int, 4, .inl f)) ∧ C.length = 123 ∧ F 6 = nI c ∧ F 7 = fp
theorem SK.chg {ks : List Nat} {w w' : MW} {T : List Nat} {pos k st num fc fp : Int32} (h : SK w T pos k st num fc fp) (Q : Chg ks w w') (h1 : 85 ∉ ks) (h2 : 86 ∉ ks) (h3 : 89 ∉ ks) : SK w' T pos k st num fc fp := ⟨Q.at h3 h.1, h.2.chg Q h1 h2⟩
section Q
variable {C : MW} {T : List Nat} {z n : Nat} {s : AS} {f : Nat → Int32} {w : MW} {F : Nat → Int32} {v : Int64} {ar : Nat → Nat → Int32} {fu : Nat}
theorem nx_b (h : z ≤ T.length) : nx T z ≤ T.length ∧ z ≤ nx T z := by
  have a := tE_b h
  have b := tS_b (T := T) (p := tE T z) a.2
  unfold nx
  omega
theorem tE_lt (h : z < T.length) : z < tE T z := by
  unfold tE
  rw [if_neg (by omega)]
  split
  · rename_i c
    rw [rB_go h c]
    have := (rB_b (T := T) (q := isLt) (p := z + 1) (by omega)).1
    omega
  · split
    · rename_i c
      rw [rB_go h c]
      have := (rB_b (T := T) (q := isDg) (p := z + 1) (by omega)).1
      omega
    · omega
theorem nx_lt (h : z < T.length) : z < nx T z := by
  have a := tE_lt h
  have b := tS_b (T := T) (p := tE T z) (tE_b (by omega)).2
  unfold nx
  omega
/-- the kinds of a token, on both sides -/
theorem tKM : (tK T z = 0 ↔ tM T z = 0) ∧ (tK T z = 2 ↔ tM T z = 1) ∧ (tK T z = 3 ↔ tM T z = 2) ∧ (tK T z = 45 ↔ tM T z = 3 ∧ nth T z = 45) ∧ (tK T z = 59 ↔ tM T z = 3 ∧ nth T z = 59) ∧ (tK T z = 0 ↔ T.length ≤ z) := by
  unfold tK tM
  by_cases c0 : T.length ≤ z
  · simp [c0]
  · simp only [if_neg c0]
    by_cases c1 : isLt (nth T z) = true
    · simp [c1, c0]
    · simp only [if_neg c1]
      by_cases c2 : isDg (nth T z) = true
      · simp only [if_pos c2]
        by_cases c3 : tE T z - z ≤ 4
        · simp [c3, c0]
        · simp [c3, c0]
      · simp only [if_neg c2]
        by_cases c3 : nth T z = 45
        · simp [c3, c0]
        · by_cases c4 : nth T z = 59
          · simp [c4, c0]
          · simp [c3, c4, c0]
theorem tE_dg (h : tK T z = 3) : tE T z - z ≤ 4 ∧ ∀ j, z ≤ j → j < tE T z → isDg (nth T j) = true := by
  have c0 : ¬ T.length ≤ z := fun c => by have := tKM.2.2.2.2.2.mpr c; rw [h] at this; exact absurd this (by decide)
  unfold tK at h
  rw [if_neg c0] at h
  by_cases c1 : isLt (nth T z) = true
  · rw [if_pos c1] at h; exact absurd h (by decide)
  · rw [if_neg c1] at h
    by_cases c2 : isDg (nth T z) = true
    · rw [if_pos c2] at h
      by_cases c3 : tE T z - z ≤ 4
      · refine ⟨c3, ?_⟩
        unfold tE
        rw [if_neg c0, if_neg c1, if_pos c2]
        exact (rB_b (by omega)).2.2
      · rw [if_neg c3] at h; exact absurd h (by decide)
    · rw [if_neg c2] at h
      by_cases c3 : nth T z = 45
      · rw [if_pos c3] at h; exact absurd h (by decide)
      · rw [if_neg c3] at h
        by_cases c4 : nth T z = 59
        · rw [if_pos c4] at h; exact absurd h (by decide)
        · rw [if_neg c4] at h; exact absurd h (by decide)
theorem nvR_lt {y : Nat} : ∀ m, (∀ j, j < m → 48 ≤ nth T (y + j) ∧ nth T (y + j) ≤ 57) → nvR T y m < 10 ^ m := by
  intro m
  induction m with
  | zero => intro _; rw [nvR]; simp
  | succ m ih =>
    intro h
    have a := ih (fun j hj => h j (by omega))
    have b := h m (by omega)
    rw [nvR, Nat.pow_succ]
    omega
theorem num_lt (h : tK T z = 3) : nvR T z (tE T z - z) < 10000 := by
  obtain ⟨a, b⟩ := tE_dg h
  have := nvR_lt (T := T) (y := z) (tE T z - z) (fun j hj => isDg_i.mp (b (z + j) (by omega) (by omega)))
  exact Nat.lt_of_lt_of_le this (show 10 ^ (tE T z - z) ≤ 10 ^ 4 from Nat.pow_le_pow_right (by omega) a)
/-- the next token, in a good state: the class's, the model's -/
theorem GG.adv (G : GG C T z s f w F v ar) (hfu : 1000 ≤ fu) : ∃ w' F' v', f_X5_advance fu w 89 = some w' ∧ f_X11_takes fu (mW C F v ar) 123 = some (mW C F' v' ar) ∧ GG C T (nx T z) s f w' F' v' ar ∧ Chg cks w w' ∧ FM F ar F' ar := by
  obtain ⟨hz, ⟨num, K, hn⟩, h, O, Z, FO, h90, P, m23, m24, m25, mv, m6, m7, B⟩ := G
  have hb := tE_b hz
  obtain ⟨w', num', a1, a2, a3, a4⟩ := advance_ok hfu K hb.2
  obtain ⟨F', v', b1, b2, b3, b4, b5, b6⟩ := takes_ok (v := v) (fu := fu) B.1 hfu P m23 hb.2
  refine ⟨w', F', v', a1, b1, ⟨(tS_b hb.2).2, ⟨num', a2, a3⟩, h.chg a4 (fun k hk => by simp at hk; omega), O, Z.chg a4 (fun k hk => by simp at hk; omega), FO, a4.at (by simp) h90, P.f3 b2, b3, b4, b5, b6, by rw [b2 6 (by omega) (by omega) (by omega)]; exact m6, by rw [b2 7 (by omega) (by omega) (by omega)]; exact m7, ?_⟩, c89 a4, FM.f3 b2 ar⟩
  exact B.F B.1 (b2 9 (by omega) (by omega) (by omega)) B.2.2.2.1 B.2.2.2.2
theorem BB.adv (G : BB C T w F) (hfu : 1000 ≤ fu) : ∃ w', f_X5_advance fu w 89 = some w' ∧ BB C T w' F ∧ Chg cks w w' := by
  obtain ⟨c, fp, s, p, k, st, num, f, c1, c2, hp, K, h, Z, h90, hC, m6, m7⟩ := G
  obtain ⟨w', num', a1, a2, a3, a4⟩ := advance_ok hfu K hp
  exact ⟨w', a1, ⟨c, fp, s, _, _, _, num', f, c1, c2, (tE_b (tS_b hp).2).2, a2, h.chg a4 (fun k hk => by simp at hk; omega), Z.chg a4 (fun k hk => by simp at hk; omega), a4.at (by simp) h90, hC, m6, m7⟩, c89 a4⟩
/-- a failure -/
theorem GG.fail (G : GG C T z s f w F v ar) {c : Nat} (h1 : 1 ≤ c) (h2 : c ≤ 4) (p : Int32) : ∃ w' F', f_X5_fail w 89 (nI c) p = some w' ∧ f_X11_fails (mW C F v ar) 123 (nI c) p = some (mW C F' v ar) ∧ BB C T w' F' ∧ Chg cks w w' ∧ FM F ar F' ar := by
  obtain ⟨hz, ⟨num, K, hn⟩, h, O, Z, FO, h90, P, m23, m24, m25, mv, m6, m7, B⟩ := G
  have hb := tE_b hz
  obtain ⟨a1, a2⟩ := K.to (nI (tE T z)) (tK T z) (nI z) num (nI c) (-1)
  obtain ⟨b1, b2⟩ := a1.to (nI (tE T z)) (tK T z) (nI z) num (nI c) p
  have ch := a2.tr b2
  refine ⟨_, upd (upd F 6 (nI c)) 7 p, ?_, ?_, ⟨c, p, s, _, _, _, num, f, h1, h2, hb.2, b1, h.chg ch (fun k hk => by simp at hk; omega), Z.chg ch (fun k hk => by simp at hk; omega), ch.at (by simp) h90, B.1, by rw [upd_ne _ _ (by omega), upd_eq], upd_eq _ _ _⟩, c89 ch, ⟨fun k k1 k2 _ _ _ => by rw [upd_ne _ _ (by omega), upd_ne _ _ (by omega)], fun _ _ => rfl, fun _ _ => rfl⟩⟩
  · rw [f_X5_fail, K.g.2.2.2.2.1, some_bind', if_pos rfl, K.p7, some_bind', a1.p8, some_bind']
  · rw [f_X11_fails, m_gI B.1 F v ar 6 rfl, some_bind', m6, if_pos (by decide), m_p B.1 F v ar 6 (by omega) mFt.2.2.1, some_bind', m_p B.1 _ v ar 7 (by omega) mFt.2.2.2.1, some_bind']
theorem BB.fail (G : BB C T w F) {c p : Int32} : f_X5_fail w 89 c p = some w := by
  obtain ⟨d, fp, s, q, k, st, num, f, c1, c2, hp, K, h, Z, h90, hC, m6, m7⟩ := G
  rw [f_X5_fail, K.g.2.2.2.2.1, some_bind', if_neg (nI_ne0 (by omega) (by omega))]
theorem BB.good (G : BB C T w F) : f_X11_isGood (mW C F v ar) 123 = some 0 ∧ ∃ x, ¬ x = 0 ∧ gI w 5 89 7 = some x := by
  obtain ⟨d, fp, s, q, k, st, num, f, c1, c2, hp, K, h, Z, h90, hC, m6, m7⟩ := G
  refine ⟨?_, nI d, nI_ne0 (by omega) (by omega), K.g.2.2.2.2.1⟩
  rw [f_X11_isGood, m_gI hC F v ar 6 rfl, some_bind', m6, if_neg (nI_ne0 (by omega) (by omega))]
theorem BB.sk (G : BB C T w F) : ∃ pos k st num fc fp, SK w T pos k st num fc fp := by
  obtain ⟨d, fp, s, q, k, st, num, f, c1, c2, hp, K, h, Z, h90, hC, m6, m7⟩ := G
  exact ⟨_, _, _, _, _, _, K⟩
theorem GG.good (G : GG C T z s f w F v ar) : f_X11_isGood (mW C F v ar) 123 = some 1 ∧ gI w 5 89 7 = some 0 := by
  obtain ⟨hz, ⟨num, K, hn⟩, h, O, Z, FO, h90, P, m23, m24, m25, mv, m6, m7, B⟩ := G
  refine ⟨?_, K.g.2.2.2.2.1⟩
  rw [f_X11_isGood, m_gI B.1 F v ar 6 rfl, some_bind', m6, if_pos rfl]
theorem GG.len (G : GG C T z s f w F v ar) : C.length = 123 := G.2.2.2.2.2.2.2.2.2.2.2.2.2.2.1
theorem BB.len (G : BB C T w F) : C.length = 123 := by
  obtain ⟨d, fp, s, q, k, st, num, f, c1, c2, hp, K, h, Z, h90, hC, m6, m7⟩ := G
  exact hC
/-- good from n on, or failed -/
def St (C : MW) (T : List Nat) (n : Nat) (s : AS) (f : Nat → Int32) (w : MW) (F : Nat → Int32) (v : Int64) (ar : Nat → Nat → Int32) : Prop := (∃ z, n ≤ z ∧ GG C T z s f w F v ar) ∨ BB C T w F
theorem BB.st (G : BB C T w F) : St C T n s f w F v ar := Or.inr G
theorem St.len (G : St C T n s f w F v ar) : C.length = 123 := by
  rcases G with ⟨z, _, G⟩ | G
  · exact G.len
  · exact G.len
theorem St.cl {α : Type} (G : St C T n s f w F v ar) (x : Option α) : cl w 5 89 x = x := by
  rcases G with ⟨z, _, G⟩ | G
  · obtain ⟨num, K, _⟩ := G.2.1
    exact K.cl x
  · obtain ⟨_, _, _, _, _, _, K⟩ := G.sk
    exact K.cl x
theorem St.mono (G : St C T n s f w F v ar) {m : Nat} (h : m ≤ n) : St C T m s f w F v ar := by
  rcases G with ⟨z, h1, G⟩ | G
  · exact Or.inl ⟨z, by omega, G⟩
  · exact Or.inr G
end Q
