theorem cmp_m1 {a : Nat} (h : a < 2 ^ 31) : f_J6_compare_7cf53 (nI a) (-1) = cmpV 2 ∧ f_J6_compare_7cf53 (-1) (nI a) = cmpV 0 := by
  constructor
  · rw [f_J6_compare_7cf53, if_pos (Int32.le_of_lt (m1_lt a h)), if_neg (m1_ne a h)]; rfl
  · rw [f_J6_compare_7cf53, if_neg (Int32.not_le.mpr (m1_lt a h))]; rfl
theorem absorb_loop {fu h e h2 e2 K : Nat} {L M R : List Nat} {fg fg2 : Int32} (d1 : h ≠ e) (d2 : h ≠ h2) (d3 : h ≠ e2) (d4 : e ≠ h2) (d5 : e ≠ e2) (S : SOK L) (S2 : SOK M) (hR : R.length = K) (hK : K ≤ 60) : ∀ N p q k w xs, p + q < N → w[h]? = some (.inr (0, [.ref e, .int (nI L.length), .int fg])) → w[e]? = some (.inl (.int, 60, .inl xs)) → (∀ j, j < p → xs j = nI (nth L j)) → (∀ j, k ≤ j → j < K → xs j = nI (nth R j)) → HA w h2 e2 M fg2 → R.take k = mT L M p q → k = (mT L M p q).length → k ≤ K → p ≤ L.length → q ≤ M.length → ∃ w', f_X0_absorb_25 fu N w h h2 (nI K) (mI p) (mI q) (mI k) = some w' ∧ HA w' h e R (if K = L.length then fg else -1) ∧ HA w' h2 e2 [] (-1) ∧ Chg [h, e, h2] w w' := by
  have l1 := S.len
  have l2 := S2.len
  intro N
  induction N with
  | zero => intro p q k w xs hN; omega
  | succ N ih =>
    intro p q k w xs hN hw he hxs hys H2 hT hkl hkK hp hq
    obtain ⟨-, -, -, hpl, -⟩ := mT_ok S S2 _ p q (Nat.le_refl _) hp hq
    rw [f_X0_absorb_25]
    rcases Nat.eq_zero_or_pos k with hk0 | hk0
    · subst hk0
      rw [mI_0, if_pos (by decide), gI_ob hw rfl, some_bind']
      have fin : ∀ u g, u[h]? = some (.inr (0, [.ref e, .int (nI L.length), .int g])) → u[e]? = some (.inl (.int, 60, .inl xs)) → HA u h2 e2 M fg2 → ∃ w', f_X0_absorb_122 fu u h h2 (nI K) = some w' ∧ HA w' h e R g ∧ HA w' h2 e2 [] (-1) ∧ Chg [h, e, h2] u w' := by
        intro u g hu hue HU
        have c1 := Chg.st (ks := [h]) u (a := h) (.inr (0, [.ref e, .int (nI K), .int g])) (by simp)
        obtain ⟨w', g1, g2, g3⟩ := empty_ok (HU.chg c1 (by simp; omega) (by simp; omega))
        rw [f_X0_absorb_122, show (60 : Int32) = nI 60 from rfl, imin_l hK (by omega), pV_ob hu (by simp), some_bind']
        dsimp only [List.set]
        rw [(HU.chg c1 (by simp; omega) (by simp; omega)).cl, g1, some_bind']
        refine ⟨w', rfl, ⟨d1, ?_, xs, ?_, fun j hj => hys j (by omega) (by omega)⟩, g2, (c1.mono (by simp)).tr (g3.mono (by simp))⟩
        · rw [hR]; exact g3.at (by simp; omega) (get_set_eq hu)
        · exact g3.at (by simp; omega) (by rw [get_set_ne (by omega)]; exact hue)
      by_cases c : K = L.length
      · rw [if_pos (by rw [c]), if_pos c]
        exact fin w fg hw he H2
      · have c1 := Chg.st (ks := [h]) w (a := h) (.inr (0, [.ref e, .int (nI L.length), .int (-1)])) (by simp)
        obtain ⟨w', g1, g2, g3, g4⟩ := fin _ (-1) (get_set_eq hw) (by rw [get_set_ne (by omega)]; exact he) (H2.chg c1 (by simp; omega) (by simp; omega))
        rw [if_neg (fun z => c ((nI_eq (by omega) (by omega)).mp z)), if_neg c, pV_ob hw (by simp), some_bind']
        exact ⟨w', g1, g2, g3, (c1.mono (by simp)).tr g4⟩
    · obtain ⟨k', rfl⟩ : ∃ k', k = k' + 1 := ⟨k - 1, by omega⟩
      rw [mI_s, if_neg (nI_pos (by omega))]
      have wr : ∀ p1 q1 x, mT L M p q = mT L M p1 q1 ++ [x] → p1 ≤ p → q1 ≤ q → p1 + q1 < p + q → ∃ w', f_X0_absorb_94 fu (f_X0_absorb_25 fu N) w h h2 (nI K) (mI p1) (mI q1) (nI k') (nI x) = some w' ∧ HA w' h e R (if K = L.length then fg else -1) ∧ HA w' h2 e2 [] (-1) ∧ Chg [h, e, h2] w w' := by
        intro p1 q1 x hm hp1 hq1 hlt
        obtain ⟨-, -, -, hpl1, -⟩ := mT_ok S S2 _ p1 q1 (Nat.le_refl _) (by omega) (by omega)
        have hk1 : (mT L M p1 q1).length = k' := by
          rw [hm] at hkl; simp at hkl; omega
        have hT1 : R.take k' = mT L M p1 q1 := by
          have : (R.take (k' + 1)).take k' = mT L M p1 q1 := by rw [hT, hm, ← hk1, List.take_left]
          rw [List.take_take, Nat.min_eq_left (by omega)] at this
          exact this
        have hx : nth R k' = x := by
          have e1 : R.take (k' + 1) = R.take k' ++ [nth R k'] := take_s (by omega)
          rw [hT, hm, hT1] at e1
          have := List.append_cancel_left e1
          simpa using this.symm
        have c1 := Chg.st (ks := [e]) w (a := e) (.inl (.int, 60, .inl (upd xs k' (nI x)))) (by simp)
        obtain ⟨w', g1, g2, g3, g4⟩ := ih p1 q1 k' (w.set e (.inl (.int, 60, .inl (upd xs k' (nI x))))) (upd xs k' (nI x)) (by omega) (by rw [get_set_ne (Ne.symm d1)]; exact hw) (get_set_eq he) (fun j hj => by rw [upd_ne _ _ (by omega)]; exact hxs j (by omega)) (fun j h1 h2 => by
          by_cases z : j = k'
          · subst z; rw [upd_eq, hx]
          · rw [upd_ne _ _ z]; exact hys j (by omega) h2) (H2.chg c1 (by simp; omega) (by simp; omega)) hT1 hk1.symm (by omega) (by omega) (by omega)
        rw [f_X0_absorb_94, gR_ob hw rfl, some_bind', sI_ar he (by omega) (by omega), some_bind', bnd_eq]
        exact ⟨w', g1, g2, g3, (c1.mono (by simp)).tr g4⟩
      have kA : ∀ p', p = p' + 1 → f_X0_keyAt w h (mI p) = some (nI (nth L p' / 2)) ∧ aI w .int e (nI p') = some (nI (nth L p')) := by
        intro p' hp'
        have hb := S.lt (show p' < L.length by omega)
        have hx := hxs p' (by omega)
        rw [hp', mI_s]
        refine ⟨?_, by rw [aI_ar he (by omega) (by omega), hx]⟩
        rw [f_X0_keyAt, if_neg (nI_pos (by omega)), gI_ob hw rfl, some_bind', if_neg (nI_ge (by omega) (by omega)), gR_ob hw rfl, some_bind', aI_ar he (by omega) (by omega), some_bind', hx, nI_half (by omega)]
      rw [cl_ob hw, H2.cl]
      rcases Nat.eq_zero_or_pos p with hp0 | hp0
      · subst hp0
        rcases Nat.eq_zero_or_pos q with hq0 | hq0
        · subst hq0
          rw [mT] at hkl
          simp at hkl
        · obtain ⟨q', rfl⟩ : ∃ q', q = q' + 1 := ⟨q - 1, by omega⟩
          have hb := S2.lt (show q' < M.length by omega)
          rw [mI_0, keyAt_m1, some_bind', mI_s, keyAt_in H2 S2 (by omega), some_bind', bnd_eq, bnd_eq, (cmp_m1 (by omega)).2, if_pos (by decide), f_X0_absorb_69, if_neg (by decide), if_neg (nI_pos (by omega)), gR_ob H2.2.1 rfl, some_bind', H2.ent l2 (by omega), some_bind', bnd_eq, bnd_eq, nI_or0]
          have := wr 0 q' (nth M q') (by rw [mT]) (by omega) (by omega) (by omega)
          rw [mI_0] at this
          exact this
      · obtain ⟨p', rfl⟩ : ∃ p', p = p' + 1 := ⟨p - 1, by omega⟩
        have hb := S.lt (show p' < L.length by omega)
        obtain ⟨k1, k2⟩ := kA p' rfl
        rw [k1, some_bind']
        rcases Nat.eq_zero_or_pos q with hq0 | hq0
        · subst hq0
          rw [mI_0, keyAt_m1, some_bind', bnd_eq, bnd_eq, (cmp_m1 (by omega)).1, if_neg (by decide), mI_s, if_neg (nI_pos (by omega)), gR_ob hw rfl, some_bind', k2, some_bind', bnd_eq, bnd_eq, f_X0_absorb_69, if_pos (by decide)]
          have := wr p' 0 (nth L p') (by rw [mT]) (by omega) (by omega) (by omega)
          rw [mI_0] at this
          exact this
        · obtain ⟨q', rfl⟩ : ∃ q', q = q' + 1 := ⟨q - 1, by omega⟩
          have hb2 := S2.lt (show q' < M.length by omega)
          rw [mI_s, mI_s, keyAt_in H2 S2 (by omega), some_bind', bnd_eq, bnd_eq]
          have hm : mT L M (p' + 1) (q' + 1) = _ := mT.eq_4 L M p' q'
          by_cases c1 : nth M q' / 2 < nth L p' / 2
          · rw [if_pos c1] at hm
            rw [cmp_gt c1 (by omega), if_neg (by decide), if_neg (nI_pos (by omega)), gR_ob hw rfl, some_bind', k2, some_bind', bnd_eq, bnd_eq, f_X0_absorb_69, if_pos (by decide)]
            have := wr p' (q' + 1) (nth L p') hm (by omega) (by omega) (by omega)
            rw [mI_s] at this
            exact this
          · rw [if_neg c1] at hm
            by_cases c2 : nth L p' / 2 = nth M q' / 2
            · rw [if_pos c2] at hm
              rw [c2, cmp_eq, if_neg (by decide), if_neg (nI_pos (by omega)), gR_ob hw rfl, some_bind', k2, some_bind', bnd_eq, bnd_eq, f_X0_absorb_69, if_neg (by decide), if_neg (nI_pos (by omega)), gR_ob H2.2.1 rfl, some_bind', H2.ent l2 (by omega), some_bind', bnd_eq, bnd_eq, nI_or hb hb2 c2]
              exact wr p' q' _ hm (by omega) (by omega) (by omega)
            · rw [if_neg c2] at hm
              rw [cmp_lt (by omega) (by omega), if_pos (by decide), f_X0_absorb_69, if_neg (by decide), if_neg (nI_pos (by omega)), gR_ob H2.2.1 rfl, some_bind', H2.ent l2 (by omega), some_bind', bnd_eq, bnd_eq, nI_or0]
              have := wr (p' + 1) q' _ hm (by omega) (by omega) (by omega)
              rw [mI_s] at this
              exact this
theorem absorb_ok {fu h e h2 e2 K : Nat} (hfu : 200 ≤ fu) {L M : List Nat} {fg fg2 : Int32} (d2 : h ≠ h2) (d3 : h ≠ e2) (d4 : e ≠ h2) (d5 : e ≠ e2) (S : SOK L) (S2 : SOK M) {w : MW} (H : HA w h e L fg) (H2 : HA w h2 e2 M fg2) (hK : K = (mT L M L.length M.length).length) (hK2 : K ≤ 60) : ∃ w', f_X0_absorb fu w h h2 (nI K) = some w' ∧ HA w' h e (mT L M L.length M.length) (if K = L.length then fg else -1) ∧ HA w' h2 e2 [] (-1) ∧ Chg [h, e, h2] w w' := by
  have l1 := S.len
  have l2 := S2.len
  obtain ⟨d1, hw, xs, he, hxs⟩ := id H
  rw [f_X0_absorb, gI_ob hw rfl, some_bind', bnd_eq, gI_ob H2.2.1 rfl, some_bind', bnd_eq, bnd_eq, mI_sub, mI_sub, show (60 : Int32) = nI 60 from rfl, imin_l hK2 (by omega), mI_sub]
  exact absorb_loop d1 d2 d3 d4 d5 S S2 hK.symm hK2 fu L.length M.length K w xs (by omega) hw he hxs (fun j h1 h2 => by omega) H2 (by rw [hK, List.take_length]) hK (Nat.le_refl _) (Nat.le_refl _) (Nat.le_refl _)
/-- MELT, of the sets -/
def xMelt (s : AS) (t o : Nat) : Int32 × AS :=
  if (s.1 o).length = 0 then (-2, s)
  else if 60 < (evs (s.1 t) (s.1 o)).length then (-4, s)
  else (nI (rsOf (s.1 t) (s.1 o)).2.1, (va_up (va_up s.1 t (mT (s.1 t) (s.1 o) (s.1 t).length (s.1 o).length)) o [], va_up (va_up s.2 t (if (evs (s.1 t) (s.1 o)).length = (s.1 t).length then s.2 t else -1)) o (-1)))
theorem evs_cNew {L M : List Nat} (S : SOK L) (S2 : SOK M) : (evs L M).length = L.length + cNew L M := by
  have h1 := (evs_len S S2).2
  have h2 := cNew_twN S S2
  omega
theorem goI_mT {s : AS} {o t : Nat} (O : ∀ q, q < 8 → SOK (s.1 q)) (ho : o < 8) (ht : t < 8) (hto : o ≠ t) (hK : (evs (s.1 t) (s.1 o)).length ≤ 60) : (goI o t 0 (s.1 o).length s).1 t = mT (s.1 t) (s.1 o) (s.1 t).length (s.1 o).length ∧ (mT (s.1 t) (s.1 o) (s.1 t).length (s.1 o).length).length = (evs (s.1 t) (s.1 o)).length ∧ SOK (mT (s.1 t) (s.1 o) (s.1 t).length (s.1 o).length) := by
  have hc := evs_cNew (O t ht) (O o ho)
  obtain ⟨g1, g2, g3, g4, g5, g6, g7⟩ := goI_melt ho ht hto (s.1 o).length s O rfl (by omega)
  obtain ⟨m1, m2, m3, m4, m5⟩ := mT_ok (O t ht) (O o ho) _ (s.1 t).length (s.1 o).length (Nat.le_refl _) (Nat.le_refl _) (Nat.le_refl _)
  have e : (goI o t 0 (s.1 o).length s).1 t = mT (s.1 t) (s.1 o) (s.1 t).length (s.1 o).length := by
    refine mk_ext (g7 t ht).1 m1 (fun k => ?_)
    rw [g2 k, m3 k, List.take_length, List.take_length]
  refine ⟨e, by rw [← e, g6, hc], ?_⟩
  rw [← e]; exact g7 t ht
theorem xMelt_do {s : AS} (O : ∀ q, q < 8 → SOK (s.1 q)) {o t : Nat} (ho : o < 8) (ht : t < 8) (hto : t ≠ o) (hx : ¬ (xMelt s t o).1 < 0) : 1 ≤ (s.1 o).length ∧ (evs (s.1 t) (s.1 o)).length ≤ 60 ∧ (xMelt s t o).1 = nI (rsOf (s.1 t) (s.1 o)).2.1 ∧ (xMelt s t o).2 = goI o t 0 (s.1 o).length s := by
  unfold xMelt at hx ⊢
  by_cases c1 : (s.1 o).length = 0
  · rw [if_pos c1] at hx; exact absurd (show (-2 : Int32) < 0 by decide) hx
  · rw [if_neg c1] at hx ⊢
    by_cases c2 : 60 < (evs (s.1 t) (s.1 o)).length
    · rw [if_pos c2] at hx; exact absurd (show (-4 : Int32) < 0 by decide) hx
    · rw [if_neg c2]
      refine ⟨by omega, by omega, rfl, ?_⟩
      have hc := evs_cNew (O t ht) (O o ho)
      obtain ⟨g1, g2, g3, g4, g5, g6, g7⟩ := goI_melt ho ht (Ne.symm hto) (s.1 o).length s O rfl (by omega)
      obtain ⟨e, -, -⟩ := goI_mT O ho ht (Ne.symm hto) (by omega)
      refine Prod.ext (funext fun q => ?_) (funext fun q => ?_)
      · by_cases q1 : q = o
        · subst q1; simp only [vu_eq]; exact g1.symm
        · by_cases q2 : q = t
          · subst q2; simp only [vu_ne _ _ q1, vu_eq]; exact e.symm
          · simp only [vu_ne _ _ q1, vu_ne _ _ q2]; exact (g3 q q1 q2).1.symm
      · by_cases q1 : q = o
        · subst q1; simp only [vu_eq]; exact (g5 (by omega)).symm
        · by_cases q2 : q = t
          · subst q2
            simp only [vu_ne _ _ q1, vu_eq]
            rw [g4]
            by_cases z : cNew (s.1 q) (s.1 o) = 0
            · rw [if_pos z, if_pos (by omega)]
            · rw [if_neg z, if_neg (by omega)]
          · simp only [vu_ne _ _ q1, vu_ne _ _ q2]; exact (g3 q q1 q2).2.symm
