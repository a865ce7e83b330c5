/-! THE READER: numbers and signs, both sides -/
section Q
variable {C : MW} {T : List Nat} {z n : Nat} {s : AS} {f : Nat → Int32} {w : MW} {F : Nat → Int32} {v : Int64} {ar : Nat → Nat → Int32} {fu : Nat}
theorem GG.failC (G : GG C T z s f w F v ar) {c : Nat} (h1 : 1 ≤ c) (h2 : c ≤ 4) (p : Int32) : ∃ w', f_X5_fail w 89 (nI c) p = some w' ∧ (∀ F' : Nat → Int32, F' 6 = nI c → F' 7 = p → BB C T w' F') ∧ Chg cks w w' := by
  obtain ⟨hz, ⟨num, K, hn⟩, h, O, Z, FO, h90, P, m23, m24, m25, mv, m6, m7, B⟩ := G
  have hb := tE_b hz
  obtain ⟨a1, a2⟩ := K.to (nI (tE T z)) (tK T z) (nI z) num (nI c) (-1)
  obtain ⟨b1, b2⟩ := a1.to (nI (tE T z)) (tK T z) (nI z) num (nI c) p
  have ch := a2.tr b2
  refine ⟨_, ?_, fun F' g6 g7 => ⟨c, p, s, _, _, _, num, f, h1, h2, hb.2, b1, h.chg ch (fun k hk => by simp at hk; omega), Z.chg ch (fun k hk => by simp at hk; omega), ch.at (by simp) h90, B.1, g6, g7⟩, c89 ch⟩
  rw [f_X5_fail, K.g.2.2.2.2.1, some_bind', if_pos rfl, K.p7, some_bind', a1.p8, some_bind']
theorem GG.failM (G : GG C T z s f w F v ar) {c : Nat} (p : Int32) : ∃ F', f_X11_fails (mW C F v ar) 123 (nI c) p = some (mW C F' v ar) ∧ F' 6 = nI c ∧ F' 7 = p ∧ FM F ar F' ar := by
  obtain ⟨hz, ⟨num, K, hn⟩, h, O, Z, FO, h90, P, m23, m24, m25, mv, m6, m7, B⟩ := G
  refine ⟨upd (upd F 6 (nI c)) 7 p, ?_, by rw [upd_ne _ _ (by omega), upd_eq], upd_eq _ _ _, ⟨fun k k1 k2 _ _ _ => by rw [upd_ne _ _ (by omega), upd_ne _ _ (by omega)], fun _ _ => rfl, fun _ _ => rfl⟩⟩
  rw [f_X11_fails, m_gI B.1 F v ar 6 rfl, some_bind', m6, if_pos (by decide), m_p B.1 F v ar 6 (by omega) mFt.2.2.1, some_bind', m_p B.1 _ v ar 7 (by omega) mFt.2.2.2.1, some_bind']
theorem bad_good {C : MW} (hC : C.length = 123) {c : Nat} (h1 : 1 ≤ c) (h2 : c ≤ 4) (h : F 6 = nI c) : f_X11_isGood (mW C F v ar) 123 = some 0 := by
  rw [f_X11_isGood, m_gI hC F v ar 6 rfl, some_bind', h, if_neg (nI_ne0 (by omega) (by omega))]
theorem GG.t0 (G : GG C T z s f w F v ar) {x : Int32} (hx : ¬ x = 0) (h : tK T z = x) : z < T.length := by
  rcases Nat.lt_or_ge z T.length with q | q
  · exact q
  · exact absurd ((tKM.2.2.2.2.2.mpr q).symm.trans h).symm hx
/-- a number token taken, both sides -/
theorem GG.num (G : GG C T z s f w F v ar) (hfu : 1000 ≤ fu) (hk : tK T z = 3) : ∃ w' F' v', f_X5_takeNumber_37 fu w 89 = some (nI (nvR T z (tE T z - z)), w') ∧ f_X11_numeral_24 fu (mW C F v ar) 123 = some (nI (nvR T z (tE T z - z)), mW C F' v' ar) ∧ GG C T (nx T z) s f w' F' v' ar ∧ Chg cks w w' ∧ FM F ar F' ar := by
  obtain ⟨w', F', v', a1, a2, a3, a4, a5⟩ := G.adv hfu
  obtain ⟨g1, g2⟩ := id G.good
  have hC := G.len
  obtain ⟨hz, ⟨num, K, hn⟩, h, O, Z, FO, h90, P, m23, m24, m25, mv, m6, m7, B⟩ := G
  refine ⟨w', F', v', ?_, ?_, a3, a4, a5⟩
  · rw [f_X5_takeNumber_37, g2, some_bind', if_pos rfl, K.g.2.2.2.1, some_bind', bnd_eq, K.cl, a1, some_bind', hn hk]
  · rw [f_X11_numeral_24, m_cl hC, g1, some_bind', if_neg (by decide), m_gJ hC F v ar, some_bind', bnd_eq, m_cl hC, a2, some_bind', mv.2.1 (tKM.2.2.1.mp hk), lN_i]
theorem num9 (G : St C T n s f w F v ar) (hfu : 1000 ≤ fu) : ∃ j w' F' v', j < 10000 ∧ f_X5_takeNumber fu w 89 9999 = some (nI j, w') ∧ f_X11_numeral fu (mW C F v ar) 123 = some (nI j, mW C F' v' ar) ∧ St C T (n + 1) s f w' F' v' ar ∧ Chg cks w w' ∧ FM F ar F' ar := by
  have hC := G.len
  rcases G with ⟨z, hn, G⟩ | G
  · obtain ⟨g1, g2⟩ := id G.good
    obtain ⟨num, K, hnum⟩ := id G.2.1
    have m24 : F 24 = tM T z := G.2.2.2.2.2.2.2.2.2.1
    have m25 : F 25 = nI z := G.2.2.2.2.2.2.2.2.2.2.1
    by_cases hk : tK T z = 3
    · have hlt := num_lt hk
      have hz := G.t0 (x := 3) (by decide) hk
      obtain ⟨w', F', v', a1, a2, a3, a4, a5⟩ := G.num hfu hk
      refine ⟨_, w', F', v', hlt, ?_, ?_, Or.inl ⟨nx T z, by have := nx_lt hz; omega, a3⟩, a4, a5⟩
      · rw [f_X5_takeNumber, K.g.2.1, some_bind', if_pos hk, K.g.2.2.2.1, some_bind', hnum hk, if_pos (show nI _ ≤ (9999 : Int32) from nI_le (b := 9999) (by omega) (by omega)), a1]
      · rw [f_X11_numeral, m_cl hC, g1, some_bind', if_neg (by decide), m_gI hC F v ar 24 rfl, some_bind', m24, if_pos (tKM.2.2.1.mp hk), a2]
    · obtain ⟨w', b1, b2, b3⟩ := G.failC (c := 1) (by omega) (by omega) (nI z)
      obtain ⟨F', d1, d2, d3, d4⟩ := G.failM (c := 1) (nI z)
      have X := b2 F' d2 d3
      obtain ⟨e1, x, e2, e3⟩ := X.good (v := v) (ar := ar)
      refine ⟨0, w', F', v, by omega, ?_, ?_, Or.inr X, b3, d4⟩
      · rw [f_X5_takeNumber, K.g.2.1, some_bind', if_neg hk, K.g.2.2.1, some_bind', K.cl, show (1 : Int32) = nI 1 from rfl, b1, some_bind', f_X5_takeNumber_37, e3, some_bind', if_neg e2]; rfl
      · rw [f_X11_numeral, m_cl hC, g1, some_bind', if_neg (by decide), m_gI hC F v ar 24 rfl, some_bind', m24, if_neg (fun q => hk (tKM.2.2.1.mpr q)), m_gI hC F v ar 25 rfl, some_bind', m25, m_cl hC, show (1 : Int32) = nI 1 from rfl, d1, some_bind', f_X11_numeral_24, m_cl hC, e1, some_bind', if_pos rfl]; rfl
  · obtain ⟨e1, x, e2, e3⟩ := G.good (v := v) (ar := ar)
    obtain ⟨pos, k, st, num, fc, fp, K⟩ := G.sk
    refine ⟨0, w, F, v, by omega, ?_, ?_, Or.inr G, Chg.rf _ _, FM.rf _ _⟩
    · have t37 : f_X5_takeNumber_37 fu w 89 = some (nI 0, w) := by
        rw [f_X5_takeNumber_37, e3, some_bind', if_neg e2]; rfl
      rw [f_X5_takeNumber, K.g.2.1, some_bind']
      split
      · rw [K.g.2.2.2.1, some_bind']
        split
        · exact t37
        · rw [K.g.2.2.1, some_bind', K.cl, G.fail, some_bind']; exact t37
      · rw [K.g.2.2.1, some_bind', K.cl, G.fail, some_bind']; exact t37
    · rw [f_X11_numeral, m_cl hC, e1, some_bind', if_pos rfl, f_X11_numeral_24, m_cl hC, e1, some_bind', if_pos rfl]; rfl
theorem num7 (G : St C T n s f w F v ar) (hfu : 1000 ≤ fu) : ∃ j w' F' v', j < 8 ∧ f_X5_takeNumber fu w 89 7 = some (nI j, w') ∧ f_X11_setNumber fu (mW C F v ar) 123 = some (nI j, mW C F' v' ar) ∧ St C T (n + 1) s f w' F' v' ar ∧ Chg cks w w' ∧ FM F ar F' ar := by
  have hC := G.len
  rcases G with ⟨z, hn, G⟩ | G
  · obtain ⟨g1, g2⟩ := id G.good
    obtain ⟨num, K, hnum⟩ := id G.2.1
    have m24 : F 24 = tM T z := G.2.2.2.2.2.2.2.2.2.1
    have m25 : F 25 = nI z := G.2.2.2.2.2.2.2.2.2.2.1
    by_cases hk : tK T z = 3
    · have hlt := num_lt hk
      have hz := G.t0 (x := 3) (by decide) hk
      obtain ⟨w', F', v', a1, a2, a3, a4, a5⟩ := G.num hfu hk
      obtain ⟨i1, i2⟩ := id a3.good
      have en : f_X11_numeral fu (mW C F v ar) 123 = some (nI (nvR T z (tE T z - z)), mW C F' v' ar) := by
        rw [f_X11_numeral, m_cl hC, g1, some_bind', if_neg (by decide), m_gI hC F v ar 24 rfl, some_bind', m24, if_pos (tKM.2.2.1.mp hk), a2]
      by_cases c7 : nvR T z (tE T z - z) ≤ 7
      · refine ⟨nvR T z (tE T z - z), w', F', v', by omega, ?_, ?_, Or.inl ⟨nx T z, by have := nx_lt hz; omega, a3⟩, a4, a5⟩
        · rw [f_X5_takeNumber, K.g.2.1, some_bind', if_pos hk, K.g.2.2.2.1, some_bind', hnum hk, if_pos (show nI _ ≤ (7 : Int32) from nI_le (b := 7) (by omega) (by omega)), a1]
        · rw [f_X11_setNumber, m_gI hC F v ar 25 rfl, some_bind', bnd_eq, m_cl hC, en, some_bind', bnd_eq]
          dsimp only
          rw [m_cl hC, i1, some_bind', if_neg (by decide), mSet_in (by omega), if_neg (by decide), f_X11_setNumber_30, m_cl hC, i1, some_bind', if_neg (by decide)]
      · obtain ⟨w2, b1, b2, b3⟩ := G.failC (c := 2) (by omega) (by omega) (nI z)
        obtain ⟨F2, d1, d2, d3, d4⟩ := a3.failM (c := 2) (nI z)
        have X := b2 F2 d2 d3
        obtain ⟨e1, x, e2, e3⟩ := X.good (v := v') (ar := ar)
        refine ⟨0, w2, F2, v', by omega, ?_, ?_, Or.inr X, b3, a5.tr d4⟩
        · rw [f_X5_takeNumber, K.g.2.1, some_bind', if_pos hk, K.g.2.2.2.1, some_bind', hnum hk, if_neg (show ¬ nI _ ≤ (7 : Int32) from nI_ge (a := 7) (by omega) (by omega)), K.g.2.2.1, some_bind', K.cl, show (2 : Int32) = nI 2 from rfl, b1, some_bind', f_X5_takeNumber_37, e3, some_bind', if_neg e2]; rfl
        · rw [f_X11_setNumber, m_gI hC F v ar 25 rfl, some_bind', bnd_eq, m_cl hC, en, some_bind', bnd_eq]
          dsimp only
          rw [m_cl hC, i1, some_bind', if_neg (by decide), mSet_out (Or.inr (show (8 : Int32) ≤ nI _ from nI_le (a := 8) (by omega) (by omega))), if_pos rfl, m_cl hC, m25, show (2 : Int32) = nI 2 from rfl, d1, some_bind', f_X11_setNumber_30, m_cl hC, e1, some_bind', if_pos rfl]; rfl
    · obtain ⟨w', b1, b2, b3⟩ := G.failC (c := 1) (by omega) (by omega) (nI z)
      obtain ⟨F', d1, d2, d3, d4⟩ := G.failM (c := 1) (nI z)
      have X := b2 F' d2 d3
      obtain ⟨e1, x, e2, e3⟩ := X.good (v := v) (ar := ar)
      refine ⟨0, w', F', v, by omega, ?_, ?_, Or.inr X, b3, d4⟩
      · rw [f_X5_takeNumber, K.g.2.1, some_bind', if_neg hk, K.g.2.2.1, some_bind', K.cl, show (1 : Int32) = nI 1 from rfl, b1, some_bind', f_X5_takeNumber_37, e3, some_bind', if_neg e2]; rfl
      · have en : f_X11_numeral fu (mW C F v ar) 123 = some (0, mW C F' v ar) := by
          rw [f_X11_numeral, m_cl hC, g1, some_bind', if_neg (by decide), m_gI hC F v ar 24 rfl, some_bind', m24, if_neg (fun q => hk (tKM.2.2.1.mpr q)), m_gI hC F v ar 25 rfl, some_bind', m25, m_cl hC, show (1 : Int32) = nI 1 from rfl, d1, some_bind', f_X11_numeral_24, m_cl hC, e1, some_bind', if_pos rfl]
        rw [f_X11_setNumber, m_gI hC F v ar 25 rfl, some_bind', bnd_eq, m_cl hC, en, some_bind', bnd_eq]
        dsimp only
        rw [m_cl hC, e1, some_bind', if_pos rfl, f_X11_setNumber_30, m_cl hC, e1, some_bind', if_pos rfl]; rfl
  · obtain ⟨e1, x, e2, e3⟩ := G.good (v := v) (ar := ar)
    obtain ⟨pos, k, st, num, fc, fp, K⟩ := G.sk
    refine ⟨0, w, F, v, by omega, ?_, ?_, Or.inr G, Chg.rf _ _, FM.rf _ _⟩
    · have t37 : f_X5_takeNumber_37 fu w 89 = some (nI 0, w) := by
        rw [f_X5_takeNumber_37, e3, some_bind', if_neg e2]; rfl
      rw [f_X5_takeNumber, K.g.2.1, some_bind']
      split
      · rw [K.g.2.2.2.1, some_bind']
        split
        · exact t37
        · rw [K.g.2.2.1, some_bind', K.cl, G.fail, some_bind']; exact t37
      · rw [K.g.2.2.1, some_bind', K.cl, G.fail, some_bind']; exact t37
    · have en : f_X11_numeral fu (mW C F v ar) 123 = some (0, mW C F v ar) := by
        rw [f_X11_numeral, m_cl hC, e1, some_bind', if_pos rfl, f_X11_numeral_24, m_cl hC, e1, some_bind', if_pos rfl]
      rw [f_X11_setNumber, m_gI hC F v ar 25 rfl, some_bind', bnd_eq, m_cl hC, en, some_bind', bnd_eq]
      dsimp only
      rw [m_cl hC, e1, some_bind', if_pos rfl, f_X11_setNumber_30, m_cl hC, e1, some_bind', if_pos rfl]; rfl
/-- a sign -/
theorem GG.sign_in (G : GG C T z s f w F v ar) (hfu : 1000 ≤ fu) {c : Nat} (hc : c = 45 ∨ c = 59) (hk : tK T z = nI c) : ∃ w' F' v', f_X5_advance fu w 89 = some w' ∧ f_X11_hasSign fu (mW C F v ar) 123 (nI c) = some (1, mW C F' v' ar) ∧ GG C T (nx T z) s f w' F' v' ar ∧ z < nx T z ∧ Chg cks w w' ∧ FM F ar F' ar := by
  obtain ⟨w', F', v', a1, a2, a3, a4, a5⟩ := G.adv hfu
  obtain ⟨g1, g2⟩ := id G.good
  have hC := G.len
  have m24 : F 24 = tM T z := G.2.2.2.2.2.2.2.2.2.1
  have mv : tV T z v := G.2.2.2.2.2.2.2.2.2.2.2.1
  have hz := G.t0 (x := nI c) (by rcases hc with rfl | rfl <;> decide) hk
  have km : tM T z = 3 ∧ nth T z = c := by
    rcases hc with rfl | rfl
    · exact tKM.2.2.2.1.mp hk
    · exact tKM.2.2.2.2.1.mp hk
  refine ⟨w', F', v', a1, ?_, a3, nx_lt hz, a4, a5⟩
  rw [f_X11_hasSign, m_cl hC, g1, some_bind', if_neg (by decide), m_gI hC F v ar 24 rfl, some_bind', m24, if_pos km.1, m_gJ hC F v ar, some_bind', if_pos ((lg_cmp_eq _ _).mpr (by rw [mv.2.2 km.1, km.2, nI_l (by omega)])), f_X11_hasSign_30, bnd_eq, if_neg (by decide), m_cl hC, a2, some_bind', zr_b 1 (Or.inr rfl), some_bind']
theorem GG.sign_no (G : GG C T z s f w F v ar) {c : Nat} (hc : c = 45 ∨ c = 59) (hk : ¬ tK T z = nI c) : f_X11_hasSign fu (mW C F v ar) 123 (nI c) = some (0, mW C F v ar) := by
  obtain ⟨g1, g2⟩ := id G.good
  have hC := G.len
  have m24 : F 24 = tM T z := G.2.2.2.2.2.2.2.2.2.1
  have mv : tV T z v := G.2.2.2.2.2.2.2.2.2.2.2.1
  have P : TP F ar T := G.2.2.2.2.2.2.2.1
  have t30 : f_X11_hasSign_30 fu (mW C F v ar) 123 0 = some (0, mW C F v ar) := by
    rw [f_X11_hasSign_30, bnd_eq, if_pos rfl, zr_b 0 (Or.inl rfl), some_bind']
  rw [f_X11_hasSign, m_cl hC, g1, some_bind', if_neg (by decide), m_gI hC F v ar 24 rfl, some_bind', m24]
  by_cases k3 : tM T z = 3
  · have hz : z < T.length := by
      rcases Nat.lt_or_ge z T.length with q | q
      · exact q
      · have e := tKM.1.mp (tKM.2.2.2.2.2.mpr q)
        rw [k3] at e; exact absurd e (by decide)
    have hb := P.lt hz
    rw [if_pos k3, m_gJ hC F v ar, some_bind', if_neg (fun q => ?_)]
    · exact t30
    · have q1 := (lg_cmp_eq _ _).mp q
      rw [mv.2.2 k3, nI_l (by omega)] at q1
      have q2 := (lN_eq (by omega) (by omega)).mp q1
      apply hk
      rcases hc with rfl | rfl
      · exact tKM.2.2.2.1.mpr ⟨k3, q2⟩
      · exact tKM.2.2.2.2.1.mpr ⟨k3, q2⟩
  · rw [if_neg k3]; exact t30
theorem BB.sign (G : BB C T w F) {c : Int32} : f_X11_hasSign fu (mW C F v ar) 123 c = some (0, mW C F v ar) := by
  obtain ⟨e1, x, e2, e3⟩ := G.good (v := v) (ar := ar)
  rw [f_X11_hasSign, m_cl G.len, e1, some_bind', if_pos rfl, f_X11_hasSign_30, bnd_eq, if_pos rfl, zr_b 0 (Or.inl rfl), some_bind']
theorem argS (G : St C T n s f w F v ar) (hfu : 1000 ≤ fu) : ∃ j w' F' v', j < 8 ∧ f_X5_takeArgument fu w 89 115 = some (nI j, w') ∧ f_X11_setNumber fu (mW C F v ar) 123 = some (nI j, mW C F' v' ar) ∧ St C T (n + 1) s f w' F' v' ar ∧ Chg cks w w' ∧ FM F ar F' ar := by
  obtain ⟨j, w', F', v', a0, a1, a2, a3⟩ := num7 G hfu
  refine ⟨j, w', F', v', a0, ?_, a2, a3⟩
  rw [f_X5_takeArgument, if_neg (by decide), f_X5_takeArgument_20, bnd_eq, if_pos rfl, f_X5_takeArgument_29, if_pos rfl, f_X5_takeArgument_44, G.cl, a1, some_bind', bnd_eq, if_pos rfl]
theorem argK (G : St C T n s f w F v ar) (hfu : 1000 ≤ fu) : ∃ j w' F' v', j < 10000 ∧ f_X5_takeArgument fu w 89 107 = some (nI j, w') ∧ f_X11_numeral fu (mW C F v ar) 123 = some (nI j, mW C F' v' ar) ∧ St C T (n + 1) s f w' F' v' ar ∧ Chg cks w w' ∧ FM F ar F' ar := by
  obtain ⟨j, w', F', v', a0, a1, a2, a3⟩ := num9 G hfu
  refine ⟨j, w', F', v', a0, ?_, a2, a3⟩
  rw [f_X5_takeArgument, if_neg (by decide), f_X5_takeArgument_20, bnd_eq, if_pos rfl, f_X5_takeArgument_29, if_neg (by decide), f_X5_takeArgument_44, G.cl, a1, some_bind', bnd_eq, if_pos rfl]
theorem argB (G : St C T n s f w F v ar) (hfu : 1000 ≤ fu) : ∃ x zz j w' F1 v1 F' v', j < 10000 ∧ ((zz = 0 ∧ x = nI j) ∨ (¬ zz = 0 ∧ x = -nI j)) ∧ f_X5_takeArgument fu w 89 98 = some (x, w') ∧ f_X11_hasSign fu (mW C F v ar) 123 45 = some (zz, mW C F1 v1 ar) ∧ f_X11_numeral fu (mW C F1 v1 ar) 123 = some (nI j, mW C F' v' ar) ∧ St C T (n + 1) s f w' F' v' ar ∧ Chg cks w w' ∧ FM F ar F' ar := by
  have plain : f_X11_hasSign fu (mW C F v ar) 123 45 = some (0, mW C F v ar) → (∃ x, gI w 5 89 4 = some x ∧ ¬ x = 45) → ∃ x zz j w' F1 v1 F' v', j < 10000 ∧ ((zz = 0 ∧ x = nI j) ∨ (¬ zz = 0 ∧ x = -nI j)) ∧ f_X5_takeArgument fu w 89 98 = some (x, w') ∧ f_X11_hasSign fu (mW C F v ar) 123 45 = some (zz, mW C F1 v1 ar) ∧ f_X11_numeral fu (mW C F1 v1 ar) 123 = some (nI j, mW C F' v' ar) ∧ St C T (n + 1) s f w' F' v' ar ∧ Chg cks w w' ∧ FM F ar F' ar := by
    intro h1 ⟨x, h2, h3⟩
    obtain ⟨j, w', F', v', a0, a1, a2, a3⟩ := num9 G hfu
    refine ⟨nI j, 0, j, w', F, v, F', v', a0, Or.inl ⟨rfl, rfl⟩, ?_, h1, a2, a3⟩
    rw [f_X5_takeArgument, if_pos rfl, h2, some_bind', if_neg h3, f_X5_takeArgument_20, bnd_eq, if_pos rfl, f_X5_takeArgument_29, if_neg (by decide), f_X5_takeArgument_44, G.cl, a1, some_bind', bnd_eq, if_pos rfl]
  rcases id G with ⟨z, hn, g⟩ | g
  · obtain ⟨num, K, hnum⟩ := id g.2.1
    by_cases hk : tK T z = nI 45
    · obtain ⟨w1, F1, v1, b1, b2, b3, b4, b5, b6⟩ := g.sign_in hfu (Or.inl rfl) hk
      have G1 : St C T n s f w1 F1 v1 ar := Or.inl ⟨nx T z, by omega, b3⟩
      obtain ⟨j, w', F', v', a0, a1, a2, a3, a4, a5⟩ := num9 G1 hfu
      refine ⟨-nI j, 1, j, w', F1, v1, F', v', a0, Or.inr ⟨by decide, rfl⟩, ?_, b2, a2, a3, b5.tr a4, b6.tr a5⟩
      rw [f_X5_takeArgument, if_pos rfl, K.g.2.1, some_bind', if_pos (by exact hk), f_X5_takeArgument_20, bnd_eq, if_neg (by decide), K.cl, b1, some_bind', f_X5_takeArgument_29, if_neg (by decide), f_X5_takeArgument_44, G1.cl, a1, some_bind', bnd_eq, if_neg (by decide)]
    · exact plain (g.sign_no (Or.inl rfl) hk) ⟨_, K.g.2.1, hk⟩
  · obtain ⟨pos, k, st, num, fc, fp, K⟩ := g.sk
    by_cases hk : k = 45
    · obtain ⟨w1, b1, b2, b3⟩ := g.adv hfu
      have G1 : St C T n s f w1 F v ar := Or.inr b2
      obtain ⟨e1, x, e2, e3⟩ := b2.good (v := v) (ar := ar)
      obtain ⟨j, w', F', v', a0, a1, a2, a3, a4, a5⟩ := num9 G1 hfu
      have hC := g.len
      have ej : f_X11_numeral fu (mW C F v ar) 123 = some (nI 0, mW C F v ar) := by
        rw [f_X11_numeral, m_cl hC, e1, some_bind', if_pos rfl, f_X11_numeral_24, m_cl hC, e1, some_bind', if_pos rfl]; rfl
      have hj : nI j = 0 := by
        rw [ej] at a2
        exact (congrArg Prod.fst (Option.some.inj a2)).symm
      refine ⟨-nI j, 0, j, w', F, v, F', v', a0, Or.inl ⟨rfl, by rw [hj]; decide⟩, ?_, g.sign, a2, a3, b3.tr a4, a5⟩
      rw [f_X5_takeArgument, if_pos rfl, K.g.2.1, some_bind', if_pos (by exact hk), f_X5_takeArgument_20, bnd_eq, if_neg (by decide), K.cl, b1, some_bind', f_X5_takeArgument_29, if_neg (by decide), f_X5_takeArgument_44, G1.cl, a1, some_bind', bnd_eq, if_neg (by decide)]
    · exact plain g.sign ⟨_, K.g.2.1, hk⟩
end Q
