/-- what the class can undo, the oldest first -/
def CP (w : MW) (n : Nat) (V : List AS) : Prop := n < 13 ∧ V.length ≤ 12 ∧ w[31]? = some (.inr (3, [.ref 32, .int (nI n), .int (nI V.length)])) ∧ (∃ f, w[32]? = some (.inl (.object RX6, 13, .inr (.inr (.inr (.inr f))))) ∧ ∀ k, k < 13 → f k = some (33 + 4 * k)) ∧ (∀ k, k < 13 → SNq w (33 + 4 * k) as0 0) ∧ ∀ t, t < V.length → SNP w (33 + 4 * ((n + 13 - V.length + t) % 13)) (V.getD t as0) ∧ AOK (V.getD t as0).1
theorem CP.chg {ks : List Nat} {w w' : MW} {n : Nat} {V : List AS} (h : CP w n V) (C : Chg ks w w') (hk : ∀ k, k ∈ ks → k < 31 ∨ 84 < k) : CP w' n V := by
  obtain ⟨h1, h2, h3, ⟨f, h4, h4'⟩, h5, h6⟩ := h
  refine ⟨h1, h2, C.at (fun q => by have := hk _ q; omega) h3, ⟨f, C.at (fun q => by have := hk _ q; omega) h4, h4'⟩, fun k hk' => (h5 k hk').chg C (fun q hq => by have := hk _ hq; omega), fun t ht => ⟨(h6 t ht).1.chg C (fun q hq => ?_), (h6 t ht).2⟩⟩
  have := hk _ hq
  have := Nat.mod_lt (n + 13 - V.length + t) (show 0 < 13 by omega)
  omega
theorem CP.cl {α : Type} {w : MW} {n : Nat} {V : List AS} (h : CP w n V) (x : Option α) : cl w 3 31 x = x := cl_ob h.2.2.1 x
theorem getD_l {V : List AS} {s : AS} {t : Nat} (c : t < V.length) : (V ++ [s]).getD t as0 = V.getD t as0 := by
  rw [List.getD_eq_getElem?_getD, List.getElem?_append_left c, List.getD_eq_getElem?_getD]
theorem getD_r {V : List AS} {s : AS} {t : Nat} (c : t = V.length) : (V ++ [s]).getD t as0 = s := by
  rw [c, List.getD_eq_getElem?_getD, List.getElem?_append_right (Nat.le_refl _), Nat.sub_self]; rfl
theorem getD_d {V : List AS} {t : Nat} : (V.drop 1).getD t as0 = V.getD (t + 1) as0 := by
  rw [List.getD_eq_getElem?_getD, List.getElem?_drop, List.getD_eq_getElem?_getD, Nat.add_comm]
theorem getD_t {V : List AS} {t m : Nat} (h : t < m) : (V.take m).getD t as0 = V.getD t as0 := by
  rw [List.getD_eq_getElem?_getD, List.getElem?_take_of_lt h, List.getD_eq_getElem?_getD]
theorem prepare_ok {s : AS} (O : AOK s.1) {fu : Nat} (hfu : 100 ≤ fu) {w : MW} (h : CS w s.1 s.2) {n : Nat} {V : List AS} (P : CP w n V) : ∃ w', f_X3_prepare fu w 31 1 = some w' ∧ CS w' s.1 s.2 ∧ CP w' n V ∧ SNP w' (33 + 4 * n) s ∧ Chg [34 + 4 * n, 35 + 4 * n, 36 + 4 * n] w w' := by
  obtain ⟨h1, h2, h3, ⟨f, h4, h4'⟩, h5, h6⟩ := id P
  obtain ⟨w', g1, g2, g3⟩ := take_ok O hfu (show 33 ≤ 33 + 4 * n by omega) h (h5 n h1)
  have g3' : Chg [34 + 4 * n, 35 + 4 * n, 36 + 4 * n] w w' := g3.mono (fun k hk => by simp at hk ⊢; omega)
  refine ⟨w', ?_, h.chg g3 (fun k hk => by simp at hk; omega), ?_, g2, g3'⟩
  · rw [f_X3_prepare, gR_ob h3 rfl, some_bind', gI_ob h3 rfl, some_bind', aRn_ar h4 (h4' n h1) h1 (by omega), some_bind', cl_ob (h5 n h1).1, g1, some_bind']
  · refine ⟨h1, h2, g3.at (by simp; omega) h3, ⟨f, g3.at (by simp; omega) h4, h4'⟩, fun k hk => ?_, fun t ht => ⟨(h6 t ht).1.chg g3 (fun q hq => ?_), (h6 t ht).2⟩⟩
    · by_cases c : k = n
      · subst c; exact SNq.shape g2
      · exact (h5 k hk).chg g3 (fun q hq => by simp at hq; omega)
    · have : (n + 13 - V.length + t) % 13 ≠ n := by omega
      simp at hq
      omega
theorem settle_ok {s : AS} (O : AOK s.1) {w : MW} {n : Nat} {V : List AS} (P : CP w n V) (S : SNP w (33 + 4 * n) s) {x : Int32} (hx : ¬ x < 0) : ∃ w', f_X3_settle w 31 x = some (x, w') ∧ CP w' ((n + 1) % 13) (kept V s) ∧ Chg [31] w w' := by
  obtain ⟨h1, h2, h3, ⟨f, h4, h4'⟩, h5, h6⟩ := id P
  have hl : (kept V s).length = min (V.length + 1) 12 := by
    unfold kept
    by_cases c : V.length = 12
    · rw [if_pos c]; simp; omega
    · rw [if_neg c]; simp; omega
  have hmn : imin (nI (V.length + 1)) 12 = nI (min (V.length + 1) 12) := by
    by_cases c : V.length = 12
    · rw [c]; rfl
    · rw [show (12 : Int32) = nI 12 from rfl, imin_l (by omega) (by omega)]; congr 1; omega
  have c1 := Chg.st (ks := [31]) w (a := 31) (.inr (3, [.ref 32, .int (nI ((n + 1) % 13)), .int (nI V.length)])) (by simp)
  generalize hw1 : w.set 31 (.inr (3, [.ref 32, .int (nI ((n + 1) % 13)), .int (nI V.length)])) = w1 at c1
  have b1 : w1[31]? = some (.inr (3, [.ref 32, .int (nI ((n + 1) % 13)), .int (nI V.length)])) := by rw [← hw1, get_set_eq h3]
  have c2 := Chg.st (ks := [31]) w1 (a := 31) (.inr (3, [.ref 32, .int (nI ((n + 1) % 13)), .int (nI (min (V.length + 1) 12))])) (by simp)
  generalize hw2 : w1.set 31 (.inr (3, [.ref 32, .int (nI ((n + 1) % 13)), .int (nI (min (V.length + 1) 12))])) = w2 at c2
  have e1 : pV w 3 31 1 (.int (nI ((n + 1) % 13))) = some w1 := by rw [pV_ob h3 (by simp), ← hw1]; rfl
  have e2 : pV w1 3 31 2 (.int (nI (min (V.length + 1) 12))) = some w2 := by rw [pV_ob b1 (by simp), ← hw2]; rfl
  have c12 := c1.tr c2
  have key : f_X3_settle_26 w 31 x 31 (nI ((n + 1) % 13)) = some (x, w2) := by
    rw [f_X3_settle_26, e1, some_bind', gI_ob b1 rfl, some_bind', nI_1, hmn, e2, some_bind']
  refine ⟨w2, ?_, ⟨by omega, by omega, by rw [hl, ← hw2, get_set_eq b1], ⟨f, c12.at (by simp) h4, h4'⟩, fun k hk => (h5 k hk).chg c12 (fun q hq => by simp at hq; omega), fun t ht => ?_⟩, c12⟩
  · rw [f_X3_settle, if_neg hx, gI_ob h3 rfl, some_bind', nI_1]
    by_cases c : n = 12
    · rw [if_pos (show (13 : Int32) ≤ nI (n + 1) from nI_le (a := 13) (by omega) (by omega)), ← key, c]; rfl
    · rw [if_neg (show ¬ (13 : Int32) ≤ nI (n + 1) from nI_ge (b := 13) (by omega) (by omega)), some_bind', nI_1, ← key, show (n + 1) % 13 = n + 1 by omega]
  · rw [hl] at ht ⊢
    have T : ∀ p, 33 ≤ p → ∀ q, SNP w p q → SNP w2 p q := fun p hp q hq => hq.chg c12 (fun r hr => by simp at hr; omega)
    unfold kept
    by_cases c : V.length = 12
    · rw [if_pos c]
      have hd : (V.drop 1).length = 11 := by simp; omega
      by_cases ct : t < 11
      · rw [getD_l (by omega), getD_d]
        have := h6 (t + 1) (by omega)
        refine ⟨T _ (by omega) _ ?_, this.2⟩
        rw [show ((n + 1) % 13 + 13 - min (V.length + 1) 12 + t) % 13 = (n + 13 - V.length + (t + 1)) % 13 by omega]
        exact this.1
      · rw [getD_r (by omega), show ((n + 1) % 13 + 13 - min (V.length + 1) 12 + t) % 13 = n by omega]
        exact ⟨T _ (by omega) _ S, O⟩
    · rw [if_neg c]
      by_cases ct : t < V.length
      · rw [getD_l ct]
        have := h6 t ct
        refine ⟨T _ (by omega) _ ?_, this.2⟩
        rw [show ((n + 1) % 13 + 13 - min (V.length + 1) 12 + t) % 13 = (n + 13 - V.length + t) % 13 by omega]
        exact this.1
      · rw [getD_r (by omega), show ((n + 1) % 13 + 13 - min (V.length + 1) 12 + t) % 13 = n by omega]
        exact ⟨T _ (by omega) _ S, O⟩
theorem settle_no {w : MW} {x : Int32} (hx : x < 0) : f_X3_settle w 31 x = some (x, w) := by
  rw [f_X3_settle, if_pos hx]
theorem stepBack_ok {fu : Nat} (hfu : 100 ≤ fu) {s : AS} {w : MW} (h : CS w s.1 s.2) {n : Nat} {V : List AS} (P : CP w n V) (hV : 0 < V.length) : ∃ w', f_X3_stepBack fu w 31 1 = some w' ∧ CS w' (V.getD (V.length - 1) as0).1 (V.getD (V.length - 1) as0).2 ∧ CP w' ((n + 12) % 13) (V.take (V.length - 1)) ∧ Chg (31 :: hpl) w w' := by
  obtain ⟨h1, h2, h3, ⟨f, h4, h4'⟩, h5, h6⟩ := id P
  have c1 := Chg.st (ks := [31]) w (a := 31) (.inr (3, [.ref 32, .int (nI ((n + 12) % 13)), .int (nI V.length)])) (by simp)
  generalize hw1 : w.set 31 (.inr (3, [.ref 32, .int (nI ((n + 12) % 13)), .int (nI V.length)])) = w1 at c1
  have b1 : w1[31]? = some (.inr (3, [.ref 32, .int (nI ((n + 12) % 13)), .int (nI V.length)])) := by rw [← hw1, get_set_eq h3]
  have c2 := Chg.st (ks := [31]) w1 (a := 31) (.inr (3, [.ref 32, .int (nI ((n + 12) % 13)), .int (nI (V.length - 1))])) (by simp)
  generalize hw2 : w1.set 31 (.inr (3, [.ref 32, .int (nI ((n + 12) % 13)), .int (nI (V.length - 1))])) = w2 at c2
  have e1 : pV w 3 31 1 (.int (nI ((n + 12) % 13))) = some w1 := by rw [pV_ob h3 (by simp), ← hw1]; rfl
  have e2 : pV w1 3 31 2 (.int (nI (V.length - 1))) = some w2 := by rw [pV_ob b1 (by simp), ← hw2]; rfl
  have b2 : w2[31]? = some (.inr (3, [.ref 32, .int (nI ((n + 12) % 13)), .int (nI (V.length - 1))])) := by rw [← hw2, get_set_eq b1]
  have c12 := c1.tr c2
  have d4 := c12.at (by simp) h4
  have H2 : CS w2 s.1 s.2 := h.chg c12 (fun q hq => by simp at hq; omega)
  have hr : (n + 12) % 13 < 13 := by omega
  have hS := h6 (V.length - 1) (by omega)
  have S2 : SNP w2 (33 + 4 * ((n + 12) % 13)) (V.getD (V.length - 1) as0) := by
    rw [show (n + 12) % 13 = (n + 13 - V.length + (V.length - 1)) % 13 by omega]
    exact hS.1.chg c12 (fun r hr => by simp at hr; omega)
  obtain ⟨w', g1, g2, g3⟩ := giveb_ok hS.2 hfu (show 33 ≤ 33 + 4 * ((n + 12) % 13) by omega) H2 S2
  have key : f_X3_stepBack_19 fu w 31 1 31 (nI ((n + 12) % 13)) = some w' := by
    rw [f_X3_stepBack_19, e1, some_bind', gI_ob b1 rfl, some_bind', show (1 : Int32) = nI 1 from rfl, nI_sub (by omega), e2, some_bind', gR_ob b2 rfl, some_bind', gI_ob b2 rfl, some_bind', aRn_ar d4 (h4' _ hr) hr (by omega), some_bind', cl_ob S2.1, g1, some_bind']
  have hh : ∀ k, k ∈ hpl → k < 31 := by decide
  have hl : (V.take (V.length - 1)).length = V.length - 1 := by simp
  refine ⟨w', ?_, g2, ?_, (c12.mono (fun k hk => by simp at hk; simp [hk])).tr (g3.mono (fun k hk => List.mem_cons_of_mem _ hk))⟩
  · rw [f_X3_stepBack, gI_ob h3 rfl, some_bind']
    by_cases c : n = 0
    · subst c
      rw [if_pos (show nI 0 ≤ 0 by decide)]; exact key
    · rw [if_neg (show ¬ nI n ≤ 0 from fun q => c (by have := (nI_leI (b := 0) (by omega) (by omega)).mp q; omega)), some_bind', show (1 : Int32) = nI 1 from rfl, nI_sub (by omega), ← key, show (n + 12) % 13 = n - 1 by omega]
  · have P2 : CP w2 ((n + 12) % 13) (V.take (V.length - 1)) := by
      refine ⟨hr, by omega, by rw [hl]; exact b2, ⟨f, d4, h4'⟩, fun k hk => (h5 k hk).chg c12 (fun q hq => by simp at hq; omega), fun t ht => ?_⟩
      rw [hl] at ht ⊢
      rw [getD_t ht]
      have := h6 t (by omega)
      refine ⟨SNq.chg ?_ c12 (fun r hr => by simp at hr; omega), this.2⟩
      rw [show ((n + 12) % 13 + 13 - (V.length - 1) + t) % 13 = (n + 13 - V.length + t) % 13 by omega]
      exact this.1
    exact P2.chg g3 (fun k hk => by have := hh k hk; omega)
theorem forget_ok {w : MW} {n : Nat} {V : List AS} (P : CP w n V) : ∃ w', f_X3_forget w 31 = some w' ∧ CP w' n [] ∧ Chg [31] w w' := by
  obtain ⟨h1, h2, h3, ⟨f, h4, h4'⟩, h5, h6⟩ := id P
  have c1 := Chg.st (ks := [31]) w (a := 31) (.inr (3, [.ref 32, .int (nI n), .int (nI 0)])) (by simp)
  refine ⟨_, ?_, ⟨h1, by simp, get_set_eq h3, ⟨f, c1.at (by simp) h4, h4'⟩, fun k hk => (h5 k hk).chg c1 (fun q hq => by simp at hq; omega), fun t ht => by simp at ht⟩, c1⟩
  rw [f_X3_forget, pV_ob h3 (by simp), some_bind']
  rfl
