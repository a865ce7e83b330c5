theorem smF_snoc (f : Nat → Nat) : ∀ (e i : Nat), i ≤ e → smF f i (e + 1) = smF f i e + f e := by
  intro e i h
  unfold smF
  rw [show e + 1 - i = (e - i) + 1 by omega, List.range'_concat, List.map_append, List.sum_append]
  simp
  rw [show i + (e - i) = e by omega]
theorem smF_mono (f : Nat → Nat) {i j : Nat} (h : i ≤ j) : smF f 0 i ≤ smF f 0 j := by
  induction j with
  | zero => rw [show i = 0 by omega]; exact Nat.le_refl _
  | succ j ih =>
    rcases Nat.lt_or_ge i (j + 1) with q | q
    · rw [smF_snoc f j 0 (by omega)]
      have := ih (by omega)
      omega
    · rw [show i = j + 1 by omega]; exact Nat.le_refl _
def off (hs : Nat → List Nat) (i : Nat) : Nat := smF (fun t => (hs t).length) 0 i
theorem off_s (hs : Nat → List Nat) (i : Nat) : off hs (i + 1) = off hs i + (hs i).length := smF_snoc _ i 0 (Nat.zero_le _)
theorem off_le {hs : Nat → List Nat} (O : AOK hs) {i : Nat} (hi : i < 8) : off hs i + (hs i).length ≤ 240 := by
  rw [← off_s]
  exact Nat.le_trans (smF_mono _ (by omega)) O.2
/-- a snapshot's cells hold the sets below i -/
def SNq (w : MW) (p : Nat) (s : AS) (i : Nat) : Prop := w[p]? = some (.inr (6, [.ref (p + 1), .ref (p + 2), .ref (p + 3)])) ∧ ∃ es ss fs, w[p + 1]? = some (.inl (.int, 240, .inl es)) ∧ w[p + 2]? = some (.inl (.int, 8, .inl ss)) ∧ w[p + 3]? = some (.inl (.int, 8, .inl fs)) ∧ ∀ t, t < i → ss t = nI (s.1 t).length ∧ fs t = s.2 t ∧ ∀ j, j < (s.1 t).length → es (off s.1 t + j) = nI (nth (s.1 t) j)
abbrev SNP (w : MW) (p : Nat) (s : AS) : Prop := SNq w p s 8
theorem SNq.chg {ks : List Nat} {w w' : MW} {p i : Nat} {s : AS} (h : SNq w p s i) (C : Chg ks w w') (hk : ∀ k, k ∈ ks → k < p ∨ p + 3 < k) : SNq w' p s i := by
  obtain ⟨h0, es, ss, fs, h1, h2, h3, h4⟩ := h
  exact ⟨C.at (fun q => by have := hk _ q; omega) h0, es, ss, fs, C.at (fun q => by have := hk _ q; omega) h1, C.at (fun q => by have := hk _ q; omega) h2, C.at (fun q => by have := hk _ q; omega) h3, h4⟩
theorem imin_l {a b : Nat} (h : a ≤ b) (hb : b < 2 ^ 31) : imin (nI a) (nI b) = nI a := by
  unfold imin
  rw [if_neg (nI_nlt h hb)]
theorem take_loop {s : AS} (O : AOK s.1) {fu p : Nat} (hp : 33 ≤ p) : ∀ N i w, CS w s.1 s.2 → SNq w p s i → i ≤ 8 → 8 - i < N → ∃ w', f_X6_take_4 fu N w p 1 (nI (off s.1 i)) (nI i) = some w' ∧ SNP w' p s ∧ Chg [p + 1, p + 2, p + 3] w w' := by
  intro N
  induction N with
  | zero => intro i w _ _ _ hN; omega
  | succ N ih =>
    intro i w h S hi hN
    rw [f_X6_take_4]
    by_cases h8 : 8 ≤ i
    · rw [if_pos (show (8 : Int32) ≤ nI i from nI_le (a := 8) h8 (by omega))]
      rw [show i = 8 by omega] at S
      exact ⟨w, rfl, S, Chg.rf _ _⟩
    · have hi8 : i < 8 := by omega
      have hl := (O.1 i hi8).len
      have ho := off_le O hi8
      obtain ⟨hne, a1, xs, a2, a3⟩ := h.ha hi8
      obtain ⟨h0, es, ss, fs, h1, h2, h3, h4⟩ := S
      have c1 := Chg.st (ks := [p + 1, p + 2, p + 3]) w (a := p + 1) (.inl (.int, 240, .inl (va_cpy xs es 0 (off s.1 i) (s.1 i).length))) (by simp)
      generalize hw1 : w.set (p + 1) (.inl (.int, 240, .inl (va_cpy xs es 0 (off s.1 i) (s.1 i).length))) = w1 at c1
      have e1 : cpI w .int (14 + 2 * i) (nI 0) (p + 1) (nI (off s.1 i)) (nI (s.1 i).length) = some w1 := by
        rw [cpI_ar a2 h1 (by omega) (by omega) (by omega) (by omega), hw1]
      have b0 : w1[p]? = some (.inr (6, [.ref (p + 1), .ref (p + 2), .ref (p + 3)])) := by rw [← hw1, get_set_ne (by omega)]; exact h0
      have b1 : w1[p + 1]? = some (.inl (.int, 240, .inl (va_cpy xs es 0 (off s.1 i) (s.1 i).length))) := by rw [← hw1, get_set_eq h1]
      have b2 : w1[p + 2]? = some (.inl (.int, 8, .inl ss)) := by rw [← hw1, get_set_ne (by omega)]; exact h2
      have b3 : w1[p + 3]? = some (.inl (.int, 8, .inl fs)) := by rw [← hw1, get_set_ne (by omega)]; exact h3
      have c2 := Chg.st (ks := [p + 1, p + 2, p + 3]) w1 (a := p + 2) (.inl (.int, 8, .inl (upd ss i (nI (s.1 i).length)))) (by simp)
      generalize hw2 : w1.set (p + 2) (.inl (.int, 8, .inl (upd ss i (nI (s.1 i).length)))) = w2 at c2
      have e2 : sI w1 .int (p + 2) (nI i) (nI (s.1 i).length) = some w2 := by rw [sI_ar b2 hi8 (by omega), hw2]
      have d0 : w2[p]? = some (.inr (6, [.ref (p + 1), .ref (p + 2), .ref (p + 3)])) := by rw [← hw2, get_set_ne (by omega)]; exact b0
      have d3 : w2[p + 3]? = some (.inl (.int, 8, .inl fs)) := by rw [← hw2, get_set_ne (by omega)]; exact b3
      have C2 := h.chg (c1.tr c2) (fun k hk => by simp at hk; omega)
      have c3 := Chg.st (ks := [p + 1, p + 2, p + 3]) w2 (a := p + 3) (.inl (.int, 8, .inl (upd fs i (s.2 i)))) (by simp)
      generalize hw3 : w2.set (p + 3) (.inl (.int, 8, .inl (upd fs i (s.2 i)))) = w3 at c3
      have e3 : sI w2 .int (p + 3) (nI i) (s.2 i) = some w3 := by rw [sI_ar d3 hi8 (by omega), hw3]
      have C3 := h.chg ((c1.tr c2).tr c3) (fun k hk => by simp at hk; omega)
      have S3 : SNq w3 p s (i + 1) := by
        refine ⟨by rw [← hw3, get_set_ne (by omega)]; exact d0, va_cpy xs es 0 (off s.1 i) (s.1 i).length, upd ss i (nI (s.1 i).length), upd fs i (s.2 i), by rw [← hw3, get_set_ne (by omega), ← hw2, get_set_ne (by omega)]; exact b1, by rw [← hw3, get_set_ne (by omega), ← hw2, get_set_eq b2], by rw [← hw3, get_set_eq d3], fun t ht => ?_⟩
        by_cases c : t = i
        · subst c
          refine ⟨upd_eq _ _ _, upd_eq _ _ _, fun j hj => ?_⟩
          unfold va_cpy
          rw [if_pos (by omega), show 0 + (off s.1 t + j - off s.1 t) = j by omega]
          exact a3 j hj
        · have h5 := h4 t (by omega)
          refine ⟨by rw [upd_ne _ _ c]; exact h5.1, by rw [upd_ne _ _ c]; exact h5.2.1, fun j hj => ?_⟩
          have h6 : off s.1 (t + 1) ≤ off s.1 i := smF_mono _ (by omega)
          rw [off_s] at h6
          unfold va_cpy
          rw [if_neg (by omega)]
          exact h5.2.2 j hj
      obtain ⟨w', g1, g2, g3⟩ := ih (i + 1) w3 C3 S3 (by omega) (by omega)
      rw [if_neg (show ¬ (8 : Int32) ≤ nI i from nI_ge (b := 8) hi8 (by omega)), h.arr, some_bind', h.heap hi8, some_bind', gI_ob a1 rfl, some_bind', show (240 : Int32) = nI 240 from rfl, nI_sub (by omega), imin_l (by omega) (by omega), bnd_eq, gR_ob a1 rfl, some_bind', gR_ob h0 rfl, some_bind', show (0 : Int32) = nI 0 from rfl, e1, some_bind', gR_ob b0 rfl, some_bind', e2, some_bind', gR_ob d0 rfl, some_bind', gI_ob (C2.ha hi8).2.1 rfl, some_bind', e3, some_bind', bnd_eq, nI_add, bnd_eq, nI_1, ← off_s, g1]
      exact ⟨w', rfl, g2, ((c1.tr c2).tr c3).tr g3⟩
theorem take_ok {s : AS} (O : AOK s.1) {fu p : Nat} (hfu : 100 ≤ fu) (hp : 33 ≤ p) {w : MW} (h : CS w s.1 s.2) {s0 : AS} (S : SNq w p s0 0) : ∃ w', f_X6_take fu w p 1 = some w' ∧ SNP w' p s ∧ Chg [p + 1, p + 2, p + 3] w w' := by
  have S0 : SNq w p s 0 := by
    obtain ⟨h0, es, ss, fs, h1, h2, h3, -⟩ := S
    exact ⟨h0, es, ss, fs, h1, h2, h3, fun t ht => by omega⟩
  rw [f_X6_take, bnd_eq, bnd_eq, show (0 : Int32) = nI 0 from rfl]
  exact take_loop O hp fu 0 w h S0 (by omega) (by omega)
theorem SNq.shape {w : MW} {p i : Nat} {s s' : AS} (h : SNq w p s i) : SNq w p s' 0 := by
  obtain ⟨h0, es, ss, fs, h1, h2, h3, -⟩ := h
  exact ⟨h0, es, ss, fs, h1, h2, h3, fun t ht => by omega⟩
theorem CS.ext {w : MW} {hs hs' : Nat → List Nat} {fg fg' : Nat → Int32} (h : CS w hs fg) (e : ∀ t, t < 8 → hs t = hs' t ∧ fg t = fg' t) : CS w hs' fg' := ⟨h.1, h.2.1, fun i hi => by rw [← (e i hi).1, ← (e i hi).2]; exact h.2.2 i hi⟩
theorem giveb_loop {s : AS} (O : AOK s.1) {fu p : Nat} (hp : 33 ≤ p) : ∀ N i w (hs : Nat → List Nat) (fg : Nat → Int32), CS w hs fg → (∀ t, t < i → hs t = s.1 t ∧ fg t = s.2 t) → SNP w p s → i ≤ 8 → 8 - i < N → ∃ w', f_X6_give_4 fu N w p 1 (nI (off s.1 i)) (nI i) = some w' ∧ CS w' s.1 s.2 ∧ Chg hpl w w' := by
  intro N
  induction N with
  | zero => intro i w hs fg _ _ _ _ hN; omega
  | succ N ih =>
    intro i w hs fg h hd S hi hN
    rw [f_X6_give_4]
    by_cases h8 : 8 ≤ i
    · rw [if_pos (show (8 : Int32) ≤ nI i from nI_le (a := 8) h8 (by omega))]
      exact ⟨w, rfl, h.ext (fun t ht => hd t (by omega)), Chg.rf _ _⟩
    · have hi8 : i < 8 := by omega
      have hl := (O.1 i hi8).len
      have ho := off_le O hi8
      obtain ⟨hne, a1, xs, a2, a3⟩ := h.ha hi8
      obtain ⟨h0, es, ss, fs, h1, h2, h3, h4⟩ := id S
      obtain ⟨s1, s2, s3⟩ := h4 i hi8
      have hin1 : 14 + 2 * i ∈ [13 + 2 * i, 14 + 2 * i] := by simp
      have hin2 : 13 + 2 * i ∈ [13 + 2 * i, 14 + 2 * i] := by simp
      have c1 := Chg.st (ks := [13 + 2 * i, 14 + 2 * i]) w (a := 14 + 2 * i) (.inl (.int, 60, .inl (va_cpy es xs (off s.1 i) 0 (s.1 i).length))) hin1
      generalize hw1 : w.set (14 + 2 * i) (.inl (.int, 60, .inl (va_cpy es xs (off s.1 i) 0 (s.1 i).length))) = w1 at c1
      have e1 : cpI w .int (p + 1) (nI (off s.1 i)) (14 + 2 * i) (nI 0) (nI (s.1 i).length) = some w1 := by
        rw [cpI_ar h1 a2 (by omega) (by omega) (by omega) (by omega), hw1]
      have b1 : w1[13 + 2 * i]? = some (.inr (0, [.ref (14 + 2 * i), .int (nI (hs i).length), .int (fg i)])) := by rw [← hw1, get_set_ne (by omega)]; exact a1
      have b2 : w1[14 + 2 * i]? = some (.inl (.int, 60, .inl (va_cpy es xs (off s.1 i) 0 (s.1 i).length))) := by rw [← hw1, get_set_eq a2]
      have c2 := Chg.st (ks := [13 + 2 * i, 14 + 2 * i]) w1 (a := 13 + 2 * i) (.inr (0, [.ref (14 + 2 * i), .int (nI (s.1 i).length), .int (fg i)])) hin2
      generalize hw2 : w1.set (13 + 2 * i) (.inr (0, [.ref (14 + 2 * i), .int (nI (s.1 i).length), .int (fg i)])) = w2 at c2
      have e2 : pV w1 0 (13 + 2 * i) 1 (.int (nI (s.1 i).length)) = some w2 := by rw [pV_ob b1 (by simp), ← hw2]; rfl
      have S2 : SNP w2 p s := S.chg (c1.tr c2) (fun k hk => by simp at hk; omega)
      obtain ⟨f0, es', ss', fs', f1, f2, f3, f4⟩ := id S2
      have d1 : w2[13 + 2 * i]? = some (.inr (0, [.ref (14 + 2 * i), .int (nI (s.1 i).length), .int (fg i)])) := by rw [← hw2, get_set_eq b1]
      have c3 := Chg.st (ks := [13 + 2 * i, 14 + 2 * i]) w2 (a := 13 + 2 * i) (.inr (0, [.ref (14 + 2 * i), .int (nI (s.1 i).length), .int (s.2 i)])) hin2
      generalize hw3 : w2.set (13 + 2 * i) (.inr (0, [.ref (14 + 2 * i), .int (nI (s.1 i).length), .int (s.2 i)])) = w3 at c3
      have e3 : pV w2 0 (13 + 2 * i) 2 (.int (s.2 i)) = some w3 := by rw [pV_ob d1 (by simp), ← hw3]; rfl
      have H3 : HA w3 (13 + 2 * i) (14 + 2 * i) (s.1 i) (s.2 i) := by
        refine ⟨hne, by rw [← hw3, get_set_eq d1], va_cpy es xs (off s.1 i) 0 (s.1 i).length, by rw [← hw3, get_set_ne (by omega), ← hw2, get_set_ne (by omega)]; exact b2, fun j hj => ?_⟩
        unfold va_cpy
        rw [if_pos (by omega), Nat.sub_zero]
        exact s3 j hj
      have C3 := h.put hi8 H3 ((c1.tr c2).tr c3)
      obtain ⟨w', g1, g2, g3⟩ := ih (i + 1) w3 _ _ C3 (fun t ht => by
        by_cases c : t = i
        · subst c; exact ⟨vu_eq _ _ _, vu_eq _ _ _⟩
        · rw [vu_ne _ _ c, vu_ne _ _ c]; exact hd t (by omega)) (S.chg ((c1.tr c2).tr c3) (fun k hk => by simp at hk; omega)) (by omega) (by omega)
      rw [if_neg (show ¬ (8 : Int32) ≤ nI i from nI_ge (b := 8) hi8 (by omega)), h.arr, some_bind', h.heap hi8, some_bind', gR_ob h0 rfl, some_bind', aI_ar h2 hi8 (by omega), some_bind', s1, show (240 : Int32) = nI 240 from rfl, nI_sub (by omega), imin_l (by omega) (by omega), bnd_eq, gR_ob h0 rfl, some_bind', gR_ob a1 rfl, some_bind', show (0 : Int32) = nI 0 from rfl, e1, some_bind', e2, some_bind', gR_ob f0 rfl, some_bind', aI_ar f3 hi8 (by omega), some_bind', (f4 i hi8).2.1, e3, some_bind', bnd_eq, nI_add, bnd_eq, nI_1, ← off_s, g1]
      exact ⟨w', rfl, g2, (((c1.tr c2).tr c3).mono (hpl_in hi8)).tr g3⟩
theorem giveb_ok {s : AS} (O : AOK s.1) {fu p : Nat} (hfu : 100 ≤ fu) (hp : 33 ≤ p) {w : MW} {hs : Nat → List Nat} {fg : Nat → Int32} (h : CS w hs fg) (S : SNP w p s) : ∃ w', f_X6_give fu w p 1 = some w' ∧ CS w' s.1 s.2 ∧ Chg hpl w w' := by
  rw [f_X6_give, bnd_eq, bnd_eq, show (0 : Int32) = nI 0 from rfl]
  exact giveb_loop O hp fu 0 w hs fg h (fun t ht => by omega) S (by omega) (by omega)
