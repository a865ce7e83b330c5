/-! THE READER: the line that puts keys -/
section Q
variable {C : MW} {T : List Nat} {z n : Nat} {s : AS} {f : Nat → Int32} {w : MW} {F : Nat → Int32} {v : Int64} {ar : Nat → Nat → Int32} {fu : Nat}
theorem BB.item (G : BB C T w F) {N N' : Nat} {i p b a : Int32} : f_X5_putItem_60 fu (N + 1) w 89 i p b a = some w ∧ f_X11_readsKeys_57 fu (N' + 1) (mW C F v ar) 123 i p b a = some (mW C F v ar) := by
  obtain ⟨e1, x, e2, e3⟩ := G.good (v := v) (ar := ar)
  constructor
  · rw [f_X5_putItem_60]
    split
    · rfl
    · rw [e3, some_bind', if_neg e2]
  · rw [f_X11_readsKeys_57]
    split
    · rfl
    · rw [m_cl G.len, e1, some_bind', if_pos rfl]
/-- one key put, both sides -/
theorem GG.put1 (G : GG C T z s f w F v ar) (hfu : 100 ≤ fu) {i k : Nat} (hi : i < 8) (hk : k < 10000) : ∃ s' w' al, f_X7_putKey fu w 1 (nI i) (nI k) = some ((xPut s i k).1, w') ∧ GG C T z s' f w' F v (ua ar 0 al) ∧ Chg cks w w' ∧ FM F ar F (ua ar 0 al) ∧ ((xPut s i k).1 < 0 → ua ar 0 al = ar) ∧ (¬ (xPut s i k).1 < 0 → f_X11_puts fu (mW C F v ar) 123 (nI i) (nI k) 0 = some (mW C F v (ua ar 0 al))) := by
  obtain ⟨hz, ⟨num, K, hn⟩, h, O, Z, FO, h90, P, m23, m24, m25, mv, m6, m7, B⟩ := G
  obtain ⟨z1, z2⟩ := xPut_rz O hi hk
  have z3 : FOK (xPut s i k).2 := by
    unfold xPut; split
    · exact FO
    · split
      · exact FO
      · exact FO.up i _
  obtain ⟨u, g1, g2, g3⟩ := cput2 h O hfu hi hk
  have K2 := K.chg g3 (by decide) (by decide) (by decide)
  have h902 := g3.at (by decide) h90
  by_cases hx : (xPut s i k).1 < 0
  · obtain ⟨y1, y2⟩ := z1 hx
    refine ⟨(xPut s i k).2, u, ar 0, g1, ?_, c11 (hpl_11 g3), by rw [ua_self]; exact FM.rf _ _, fun _ => ua_self _ _, fun q => absurd hx q⟩
    rw [ua_self]
    exact ⟨hz, ⟨num, K2, hn⟩, g2, z2, Z.hp g3, z3, h902, P, m23, m24, m25, mv, m6, m7, by rw [y1]; exact B⟩
  · obtain ⟨al, d1, d2, d3, d4⟩ := mputs2 (v := v) B hfu hi hk hx
    exact ⟨(xPut s i k).2, u, al, g1, ⟨hz, ⟨num, K2, hn⟩, g2, z2, Z.hp g3, z3, h902, ⟨P.1, P.2.1, fun j hj => by rw [ua_ne _ _ (by omega)]; exact P.2.2.1 j hj, P.2.2.2⟩, m23, m24, m25, mv, m6, m7, B.F B.1 rfl (by rw [ua_eq]; exact d2) z2.1⟩, c11 (hpl_11 g3), ⟨fun _ _ _ _ _ _ => rfl, fun k hk => ua_ne _ _ hk, fun q hq => by rw [ua_eq]; exact d4 q (by omega)⟩, fun q => absurd q hx, fun _ => d1⟩
theorem items {i b : Nat} (hi : i < 8) (hb : b < 10000) (hfu : 1000 ≤ fu) {p : Int32} : ∀ m a N N' s w F ar, b + 1 = a + m → m < N → m < N' → GG C T z s f w F v ar → ∃ s' w' F' ar', f_X5_putItem_60 fu N w 89 (nI i) p (nI b) (nI a) = some w' ∧ f_X11_readsKeys_57 fu N' (mW C F v ar) 123 (nI i) p (nI b) (nI a) = some (mW C F' v ar') ∧ St C T z s' f w' F' v ar' ∧ Chg cks w w' ∧ FM F ar F' ar' := by
  intro m
  induction m with
  | zero =>
    intro a N N' s w F ar hm hN hN' G
    obtain ⟨N, rfl⟩ : ∃ q, N = q + 1 := ⟨N - 1, by omega⟩
    obtain ⟨N', rfl⟩ : ∃ q, N' = q + 1 := ⟨N' - 1, by omega⟩
    refine ⟨s, w, F, ar, ?_, ?_, Or.inl ⟨z, by omega, G⟩, Chg.rf _ _, FM.rf _ _⟩
    · rw [f_X5_putItem_60, if_pos (nI_lt (by omega) (by omega))]
    · rw [f_X11_readsKeys_57, if_pos (nI_lt (by omega) (by omega))]
  | succ m ih =>
    intro a N N' s w F ar hm hN hN' G
    obtain ⟨N, rfl⟩ : ∃ q, N = q + 1 + 1 := ⟨N - 2, by omega⟩
    obtain ⟨N', rfl⟩ : ∃ q, N' = q + 1 + 1 := ⟨N' - 2, by omega⟩
    have ha : a < 10000 := by omega
    have hC := G.len
    obtain ⟨g1, g2⟩ := id G.good
    obtain ⟨num, K, hnum⟩ := id G.2.1
    have hS := G.2.2.1
    have O := G.2.2.2.1
    have B : MB C F ar 976 s := G.2.2.2.2.2.2.2.2.2.2.2.2.2.2
    have r1 := mrPut (v := v) B O.2 (fu := fu) (by omega) hi ha
    obtain ⟨z1, z2⟩ := xPut_rz O hi ha
    obtain ⟨s', w', al, a1, a2, a3, a4, a5, a6⟩ := G.put1 (fu := fu) (by omega) hi ha
    obtain ⟨num', K', hnum'⟩ := id a2.2.1
    rw [f_X5_putItem_60, if_neg (nI_nlt (by omega) (by omega)), g2, some_bind', if_pos rfl, K.g.2.2.2.2.2.2.2.1, some_bind', hS.cl, a1, some_bind', f_X11_readsKeys_57, if_neg (nI_nlt (by omega) (by omega)), m_cl hC, g1, some_bind', if_neg (show ¬ (1 : Int32) = 0 by decide), m_cl hC, r1, some_bind', bnd_eq]
    dsimp only
    by_cases h4 : (xPut s i a).1 = -4
    · rw [h4] at a5 ⊢
      have e5 := a5 (by decide)
      rw [e5] at a2
      obtain ⟨w2, F2, b1, b2, b3, b4, b5⟩ := a2.fail (c := 3) (by omega) (by omega) p
      rw [if_pos rfl, K'.cl, show (3 : Int32) = nI 3 from rfl, b1, some_bind', f_X5_putItem_95, bnd_eq, wOf_4, if_pos rfl, m_cl hC, b2, some_bind', f_X11_readsKeys_92, if_neg (by decide), f_X11_readsKeys_105, bnd_eq]
      obtain ⟨t1, t2⟩ := b3.item (fu := fu) (v := v) (ar := ar) (N := N) (N' := N') (i := nI i) (p := p) (b := nI b) (a := nI a + 1)
      exact ⟨s, w2, F2, ar, t1, t2, Or.inr b3, a3.tr b4, b5⟩
    · rw [if_neg h4, f_X5_putItem_95, bnd_eq, nI_1]
      by_cases hx : (xPut s i a).1 < 0
      · obtain ⟨y1, y2⟩ := z1 hx
        have e5 := a5 hx
        rw [e5] at a2
        have n4 : ¬ wOf (xPut s i a).1 = 4 := by
          rcases y2 with e | e | e | e
          · rw [e]; decide
          · rw [e]; decide
          · rw [e]; decide
          · exact absurd e h4
        have n0 : ¬ wOf (xPut s i a).1 = 0 := fun q => (neg4 y2).2 (by rw [q]; decide)
        rw [if_neg n4, f_X11_readsKeys_92, if_neg n0, f_X11_readsKeys_105, bnd_eq, nI_1]
        obtain ⟨s2, w2, F2, ar2, c1, c2, c3, c4, c5⟩ := ih (a + 1) (N + 1) (N' + 1) s' w' F ar (by omega) (by omega) (by omega) a2
        exact ⟨s2, w2, F2, ar2, c1, c2, c3, a3.tr c4, c5⟩
      · rw [wOf_p hx, if_neg (by decide), f_X11_readsKeys_92, if_pos rfl, m_cl hC, a6 hx, some_bind', f_X11_readsKeys_105, bnd_eq, nI_1]
        obtain ⟨s2, w2, F2, ar2, c1, c2, c3, c4, c5⟩ := ih (a + 1) (N + 1) (N' + 1) s' w' F (ua ar 0 al) (by omega) (by omega) (by omega) a2
        exact ⟨s2, w2, F2, ar2, c1, c2, c3, a3.tr c4, a4.tr c5⟩
/-- an item: a key, or a stretch of keys -/
theorem item (G : GG C T z s f w F v ar) (hfu : 20000 ≤ fu) {i : Nat} (hi : i < 8) (hk : tK T z = 3) : ∃ s' w' F' v' ar', f_X5_putItem fu w 89 (nI i) = some w' ∧ f_X11_readsKeys fu (mW C F v ar) 123 (nI i) = some (mW C F' v' ar') ∧ St C T (z + 1) s' f w' F' v' ar' ∧ Chg cks w w' ∧ FM F ar F' ar' := by
  have hC := G.len
  have hz := G.t0 (x := 3) (by decide) hk
  have hlt := nx_lt hz
  have m25 : F 25 = nI z := G.2.2.2.2.2.2.2.2.2.2.1
  have m24 : F 24 = tM T z := G.2.2.2.2.2.2.2.2.2.1
  obtain ⟨g1, g2⟩ := id G.good
  obtain ⟨num, K, hnum⟩ := id G.2.1
  have ha := num_lt hk
  obtain ⟨w1, F1, v1, a1, a2, a3, a4, a5⟩ := G.num (fu := fu) (by omega) hk
  have c1 : f_X5_takeNumber fu w 89 9999 = some (nI (nvR T z (tE T z - z)), w1) := by
    rw [f_X5_takeNumber, K.g.2.1, some_bind', if_pos hk, K.g.2.2.2.1, some_bind', hnum hk, if_pos (show nI _ ≤ (9999 : Int32) from nI_le (b := 9999) (by omega) (by omega)), a1]
  have c2 : f_X11_numeral fu (mW C F v ar) 123 = some (nI (nvR T z (tE T z - z)), mW C F1 v1 ar) := by
    rw [f_X11_numeral, m_cl hC, g1, some_bind', if_neg (by decide), m_gI hC F v ar 24 rfl, some_bind', m24, if_pos (tKM.2.2.1.mp hk), a2]
  generalize nvR T z (tE T z - z) = a at *
  obtain ⟨num1, K1, hnum1⟩ := id a3.2.1
  by_cases h45 : tK T (nx T z) = 45
  · obtain ⟨w2, F2, v2, b1, b2, b3, b4, b5, b6⟩ := a3.sign_in (fu := fu) (by omega) (c := 45) (Or.inl rfl) h45
    obtain ⟨num2, K2, hnum2⟩ := id b3.2.1
    have n25 : F2 25 = nI (nx T (nx T z)) := b3.2.2.2.2.2.2.2.2.2.2.1
    have S2 : St C T (nx T z) s f w2 F2 v2 ar := Or.inl ⟨_, by omega, b3⟩
    obtain ⟨j, w3, F3, v3, d0, d1, d2, d3, d4, d5⟩ := num9 S2 (fu := fu) (by omega)
    have e45 : f_X11_hasSign fu (mW C F1 v1 ar) 123 45 = some (1, mW C F2 v2 ar) := b2
    have cE : f_X5_putItem fu w 89 (nI i) = if nI a ≤ nI j then f_X5_putItem_60 fu fu w3 89 (nI i) (nI z) (nI j) (nI a) else (cl w3 5 89 (f_X5_fail w3 89 2 (nI (nx T (nx T z))))).bind fun q29 => f_X5_putItem_60 fu fu q29 89 (nI i) (nI z) (nI j) (nI a) := by
      rw [f_X5_putItem, K.g.2.2.1, some_bind', bnd_eq, K.cl, c1, some_bind']
      simp only [bnd_eq]
      rw [K1.g.2.1, some_bind', if_pos h45, K1.cl, b1, some_bind', K2.g.2.2.1, some_bind', K2.cl, d1, some_bind']
    have mE : f_X11_readsKeys fu (mW C F v ar) 123 (nI i) = (f_X11_isGood (mW C F3 v3 ar) 123).bind fun q32 => if q32 = 0 then f_X11_readsKeys_57 fu fu (mW C F3 v3 ar) 123 (nI i) (nI z) (nI j) (nI a) else if nI a ≤ nI j then f_X11_readsKeys_57 fu fu (mW C F3 v3 ar) 123 (nI i) (nI z) (nI j) (nI a) else (cl (mW C F3 v3 ar) 11 123 (f_X11_fails (mW C F3 v3 ar) 123 2 (nI (nx T (nx T z))))).bind fun q37 => f_X11_readsKeys_57 fu fu q37 123 (nI i) (nI z) (nI j) (nI a) := by
      rw [f_X11_readsKeys, m_gI hC F v ar 25 rfl, some_bind', m25, bnd_eq, m_cl hC, c2, some_bind']
      simp only [bnd_eq]
      rw [m_cl hC, e45, some_bind']
      dsimp only
      rw [if_neg (show ¬ (1 : Int32) = 0 by decide), m_gI hC F2 v2 ar 25 rfl, some_bind', n25, m_cl hC, d2, some_bind']
      dsimp only
      rw [m_cl hC]
    have chA := (a4.tr b5).tr d4
    have fmA := (a5.tr b6).tr d5
    rw [cE, mE]
    rcases d3 with ⟨z3, hz3, G3⟩ | X
    · obtain ⟨i1, i2⟩ := id G3.good
      rw [i1, some_bind', if_neg (show ¬ (1 : Int32) = 0 by decide)]
      by_cases hle : a ≤ j
      · rw [if_pos (nI_le hle (by omega)), if_pos (nI_le hle (by omega))]
        obtain ⟨s', w', F', ar', k1, k2, k3, k4, k5⟩ := items (fu := fu) (v := v3) (p := nI z) hi d0 (by omega) (j + 1 - a) a fu fu s w3 F3 ar (by omega) (by omega) (by omega) G3
        exact ⟨s', w', F', v3, ar', k1, k2, k3.mono (by omega), chA.tr k4, fmA.tr k5⟩
      · obtain ⟨num3, K3, _⟩ := id G3.2.1
        obtain ⟨w4, F4, t1, t2, t3, t4, t5⟩ := G3.fail (c := 2) (by omega) (by omega) (nI (nx T (nx T z)))
        obtain ⟨N, hN⟩ : ∃ N, fu = N + 1 := ⟨fu - 1, by omega⟩
        obtain ⟨t6, t7⟩ := t3.item (fu := fu) (v := v3) (ar := ar) (N := N) (N' := N) (i := nI i) (p := nI z) (b := nI j) (a := nI a)
        rw [← hN] at t6 t7
        refine ⟨s, w4, F4, v3, ar, ?_, ?_, Or.inr t3, chA.tr t4, fmA.tr t5⟩
        · rw [if_neg (nI_ge (by omega) (by omega)), K3.cl, show (2 : Int32) = nI 2 from rfl, t1, some_bind', t6]
        · rw [if_neg (nI_ge (by omega) (by omega)), m_cl hC, show (2 : Int32) = nI 2 from rfl, t2, some_bind', t7]
    · obtain ⟨e1, x, e2, e3⟩ := X.good (v := v3) (ar := ar)
      obtain ⟨_, _, _, _, _, _, KX⟩ := X.sk
      obtain ⟨N, hN⟩ : ∃ N, fu = N + 1 := ⟨fu - 1, by omega⟩
      obtain ⟨t6, t7⟩ := X.item (fu := fu) (v := v3) (ar := ar) (N := N) (N' := N) (i := nI i) (p := nI z) (b := nI j) (a := nI a)
      rw [← hN] at t6 t7
      refine ⟨s, w3, F3, v3, ar, ?_, by rw [e1, some_bind', if_pos rfl, t7], Or.inr X, chA, fmA⟩
      split
      · exact t6
      · rw [KX.cl, X.fail, some_bind']; exact t6
  · have e45 : f_X11_hasSign fu (mW C F1 v1 ar) 123 45 = some (0, mW C F1 v1 ar) := a3.sign_no (c := 45) (Or.inl rfl) h45
    obtain ⟨s', w', F', ar', k1, k2, k3, k4, k5⟩ := items (fu := fu) (v := v1) (p := nI z) hi ha (by omega) 1 a fu fu s w1 F1 ar (by omega) (by omega) (by omega) a3
    refine ⟨s', w', F', v1, ar', ?_, ?_, k3.mono (by omega), a4.tr k4, a5.tr k5⟩
    · rw [f_X5_putItem, K.g.2.2.1, some_bind', bnd_eq, K.cl, c1, some_bind']
      simp only [bnd_eq]
      rw [K1.g.2.1, some_bind', if_neg h45, k1]
    · rw [f_X11_readsKeys, m_gI hC F v ar 25 rfl, some_bind', m25, bnd_eq, m_cl hC, c2, some_bind']
      simp only [bnd_eq]
      rw [m_cl hC, e45, some_bind']
      dsimp only
      rw [if_pos rfl, k2]
/-- the end of such a line -/
theorem set_end (G : GG C T z s f w F v ar) (hfu : 1000 ≤ fu) (p : Int32) : ∃ w' F' v', f_X5_doLine_137 fu w 89 p 0 = some w' ∧ f_X11_ends fu (mW C F v ar) 123 = some (mW C F' v' ar) ∧ St C T z s f w' F' v' ar ∧ Chg cks w w' ∧ FM F ar F' ar := by
  by_cases hk : tK T z = 59
  · obtain ⟨w1, F1, v1, a1, a2, a3, a4, a5, a6⟩ := G.isEnd hfu hk
    obtain ⟨g1, g2⟩ := id G.good
    obtain ⟨num, K, hnum⟩ := id G.2.1
    refine ⟨w1, F1, v1, ?_, a2, Or.inl ⟨_, by omega, a3⟩, a5, a6⟩
    rw [f_X5_doLine_137, K.g.2.1, some_bind', if_pos hk, f_X5_doLine_155, g2, some_bind', if_pos rfl, K.cl, f_X5_act, if_neg (by decide), if_neg (by decide), if_neg (by decide), if_neg (by decide), if_neg (by decide), if_neg (by decide), some_bind']
    dsimp only
    rw [if_pos (by decide), f_X5_doLine_176, K.cl, a1, some_bind']
  · obtain ⟨w1, F1, a1, a2, a3, a4, a5⟩ := G.noEnd hfu hk (v1 := p) (v2 := 0)
    exact ⟨w1, F1, v, a1, a2, Or.inr a3, a4, a5⟩
theorem set_loop (hfu : 20000 ≤ fu) {i : Nat} (hi : i < 8) (hf : f 0 = nI i) (p : Int32) : ∀ m c N N' s w F v ar, 801 = c + m → m < N → m < N' → St C T (c + n) s f w F v ar → ∃ s' w' F' v' ar', f_X5_doLine_94 fu N w 89 p 0 (nI c) = some w' ∧ f_X11_readsSet_5 fu N' (mW C F v ar) 123 (nI i) = some (mW C F' v' ar') ∧ St C T (c + n) s' f w' F' v' ar' ∧ Chg cks w w' ∧ FM F ar F' ar' := by
  intro m
  induction m with
  | zero =>
    intro c N N' s w F v ar hm hN hN' G
    obtain ⟨N, rfl⟩ : ∃ q, N = q + 1 := ⟨N - 1, by omega⟩
    obtain ⟨N', rfl⟩ : ∃ q, N' = q + 1 := ⟨N' - 1, by omega⟩
    have hC := G.len
    rcases G with ⟨z, hz, G⟩ | G
    · have := G.1
      obtain ⟨num, K, _⟩ := G.2.1
      have := K.2.2.1
      omega
    · obtain ⟨w', a1, a2, a3⟩ := G.d137 (fu := fu) (by omega) (v1 := p) (v2 := 0)
      obtain ⟨e1, x, e2, e3⟩ := G.good (v := v) (ar := ar)
      refine ⟨s, w', F, v, ar, ?_, ?_, Or.inr a2, a3, FM.rf _ _⟩
      · rw [f_X5_doLine_94, if_pos (show (800 : Int32) ≤ nI c from nI_le (a := 800) (by omega) (by omega)), a1]
      · rw [f_X11_readsSet_5, m_cl hC, e1, some_bind', if_pos rfl, f_X11_readsSet_28, m_cl hC, G.ends, some_bind']
  | succ m ih =>
    intro c N N' s w F v ar hm hN hN' G
    obtain ⟨N, rfl⟩ : ∃ q, N = q + 1 := ⟨N - 1, by omega⟩
    obtain ⟨N', rfl⟩ : ∃ q, N' = q + 1 := ⟨N' - 1, by omega⟩
    have hC := G.len
    rcases G with ⟨z, hz, G⟩ | G
    · obtain ⟨g1, g2⟩ := id G.good
      obtain ⟨num, K, hnum⟩ := id G.2.1
      have hl := K.2.2.1
      have hzl := G.1
      have m24 : F 24 = tM T z := G.2.2.2.2.2.2.2.2.2.1
      have h90 := G.2.2.2.2.2.2.1
      rw [f_X11_readsSet_5, m_cl hC, g1, some_bind', if_neg (by decide), m_gI hC F v ar 24 rfl, some_bind', m24]
      by_cases hk : tK T z = 3
      · have hz2 := G.t0 (x := 3) (by decide) hk
        obtain ⟨s1, w1, F1, v1, ar1, a1, a2, a3, a4, a5⟩ := item G hfu hi hk
        obtain ⟨s2, w2, F2, v2, ar2, b1, b2, b3, b4, b5⟩ := ih (c + 1) N N' s1 w1 F1 v1 ar1 (by omega) (by omega) (by omega) (a3.mono (by omega))
        refine ⟨s2, w2, F2, v2, ar2, ?_, ?_, b3.mono (by omega), a4.tr b4, a5.tr b5⟩
        · rw [f_X5_doLine_94, if_neg (show ¬ (800 : Int32) ≤ nI c from nI_ge (b := 800) (by omega) (by omega)), if_pos rfl, g2, some_bind', if_pos rfl, K.g.2.1, some_bind', if_pos hk, K.g.2.2.2.2.2.2.2.2, some_bind', (arr4 h90).1, some_bind', hf, K.cl, a1, some_bind', bnd_eq, nI_1, b1]
        · rw [if_pos (tKM.2.2.1.mp hk), m_cl hC, a2, some_bind', b2]
      · obtain ⟨w1, F1, v1, a1, a2, a3, a4, a5⟩ := set_end G (fu := fu) (by omega) p
        refine ⟨s, w1, F1, v1, ar, ?_, ?_, a3.mono hz, a4, a5⟩
        · rw [f_X5_doLine_94]
          split
          · exact a1
          · rw [if_pos rfl, g2, some_bind', if_pos rfl, K.g.2.1, some_bind', if_neg hk, a1]
        · rw [if_neg (fun q => hk (tKM.2.2.1.mpr q)), f_X11_readsSet_28, m_cl hC, a2, some_bind']
    · obtain ⟨w', a1, a2, a3⟩ := G.d137 (fu := fu) (by omega) (v1 := p) (v2 := 0)
      obtain ⟨e1, x, e2, e3⟩ := G.good (v := v) (ar := ar)
      refine ⟨s, w', F, v, ar, ?_, ?_, Or.inr a2, a3, FM.rf _ _⟩
      · rw [f_X5_doLine_94]
        split
        · exact a1
        · rw [if_pos rfl, e3, some_bind', if_neg e2, a1]
      · rw [f_X11_readsSet_5, m_cl hC, e1, some_bind', if_pos rfl, f_X11_readsSet_28, m_cl hC, G.ends, some_bind']
theorem line_set (G : St C T n s f w F v ar) (hfu : 20000 ≤ fu) {N : Nat} (hN : 10 ≤ N) (p : Int32) : LR C T n w F ar (f_X5_doLine_49 fu N w 89 p 0 10007 0) (f_X11_readsSet fu (mW C F v ar) 123) := by
  obtain ⟨M, rfl⟩ : ∃ M, N = M + 1 + 1 := ⟨N - 2, by omega⟩
  have hC := G.len
  obtain ⟨i, w1, F1, v1, i0, i1, i2, i3, i4, i5⟩ := argS G (fu := fu) (by omega)
  obtain ⟨w1', x1, x2, x3⟩ := i3.arr (i := 0) (by omega) (nI i)
  obtain ⟨s', w', F', v', ar', k1, k2, k3, k4, k5⟩ := set_loop (fu := fu) (C := C) (T := T) hfu i0 (f := upd f 0 (nI i)) (upd_eq _ _ _) (n := n) p 801 0 fu fu s w1' F1 v1 ar (by omega) (by omega) (by omega) (x2.mono (by omega))
  refine ⟨s', _, w', F', v', ar', ?_, ?_, k3.mono (by omega), (i4.tr x3).tr k4, i5.tr k5⟩
  · have e1 := arg_step (k := 7) (N := M + 1) (v1 := p) (v2 := 0) (l := 115) G (by omega) (by decide) (by omega) rfl i1 x1
    have e4 := arg_end (fu := fu) (w := w1') (k := 7) (i := 1) (N := M) (v1 := p) (v2 := 0) (by omega) rfl
    exact (e1.trans e4).trans k1
  · rw [f_X11_readsSet, m_cl hC, i2, some_bind', bnd_eq]
    exact k2
end Q
