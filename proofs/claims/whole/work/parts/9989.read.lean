/-! THE READER: a line, a text -/
section Q
variable {C : MW} {T : List Nat} {z n : Nat} {s : AS} {f : Nat → Int32} {w : MW} {F : Nat → Int32} {v : Int64} {ar : Nat → Nat → Int32} {fu : Nat}
theorem GG.hw_no (G : GG C T z s f w F v ar) {k : Nat} (hk : k < 7) (h : ¬ (tK T z = 2 ∧ spl T z (tE T z) k = true)) : f_X11_hasWord fu (mW C F v ar) 123 (lN (wH k)) = some (0, mW C F v ar) := by
  obtain ⟨g1, g2⟩ := id G.good
  have hC := G.len
  have m24 : F 24 = tM T z := G.2.2.2.2.2.2.2.2.2.1
  have mv : tV T z v := G.2.2.2.2.2.2.2.2.2.2.2.1
  have t29 : f_X11_hasWord_29 fu (mW C F v ar) 123 0 = some (0, mW C F v ar) := by
    rw [f_X11_hasWord_29, bnd_eq, if_pos rfl, zr_b 0 (Or.inl rfl), some_bind']
  rw [f_X11_hasWord, m_cl hC, g1, some_bind', if_neg (by decide), m_gI hC F v ar 24 rfl, some_bind', m24]
  by_cases k1 : tM T z = 1
  · obtain ⟨y1, y2, y3⟩ := mv.1 k1
    rw [if_pos k1, m_gJ hC F v ar, some_bind', if_neg (fun q => ?_)]
    · exact t29
    · have q1 := (lg_cmp_eq _ _).mp q
      rw [y1] at q1
      exact h ⟨tKM.2.1.mpr k1, (word_iff hk (tE_b G.1).1 y3).mp q1⟩
  · rw [if_neg k1]; exact t29
theorem GG.hw_in (G : GG C T z s f w F v ar) (hfu : 1000 ≤ fu) {k : Nat} (hk : k < 7) (h1 : tK T z = 2) (h2 : spl T z (tE T z) k = true) : v = lN (wH k) ∧ ∃ w' F' v', f_X5_advance fu w 89 = some w' ∧ f_X11_hasWord fu (mW C F v ar) 123 (lN (wH k)) = some (1, mW C F' v' ar) ∧ GG C T (nx T z) s f w' F' v' ar ∧ z < nx T z ∧ Chg cks w w' ∧ FM F ar F' ar := by
  obtain ⟨w', F', v', a1, a2, a3, a4, a5⟩ := G.adv hfu
  obtain ⟨g1, g2⟩ := id G.good
  have hC := G.len
  have m24 : F 24 = tM T z := G.2.2.2.2.2.2.2.2.2.1
  have mv : tV T z v := G.2.2.2.2.2.2.2.2.2.2.2.1
  have k1 := tKM.2.1.mp h1
  obtain ⟨y1, y2, y3⟩ := mv.1 k1
  have ev : v = lN (wH k) := y1.trans ((word_iff hk (tE_b G.1).1 y3).mpr h2)
  refine ⟨ev, w', F', v', a1, ?_, a3, nx_lt y2, a4, a5⟩
  rw [f_X11_hasWord, m_cl hC, g1, some_bind', if_neg (by decide), m_gI hC F v ar 24 rfl, some_bind', m24, if_pos k1, m_gJ hC F v ar, some_bind', if_pos ((lg_cmp_eq _ _).mpr ev), f_X11_hasWord_29, bnd_eq, if_neg (by decide), m_cl hC, a2, some_bind', zr_b 1 (Or.inr rfl), some_bind']
theorem LR.pre {w1 : MW} {F1 : Nat → Int32} {p q : Option MW} (h : LR C T n w1 F1 ar p q) (c : Chg cks w w1) (m : FM F ar F1 ar) : LR C T n w F ar p q := by
  obtain ⟨s', f', w', F', v', ar', a, b, d, e, g⟩ := h
  exact ⟨s', f', w', F', v', ar', a, b, d, c.tr e, m.tr g⟩
theorem LR.eq {p q p' q' : Option MW} (h : LR C T n w F ar p q) (e1 : p' = p) (e2 : q' = q) : LR C T n w F ar p' q' := by rw [e1, e2]; exact h
theorem line (G : GG C T z s f w F v ar) (hfu : 20000 ≤ fu) (hz : z < T.length) : LR C T (z + 1) w F ar (f_X5_doLine fu w 89) (f_X11_readsLine fu (mW C F v ar) 123) := by
  have hC := G.len
  obtain ⟨num, K, hnum⟩ := id G.2.1
  have m25 : F 25 = nI z := G.2.2.2.2.2.2.2.2.2.2.1
  have m24 : F 24 = tM T z := G.2.2.2.2.2.2.2.2.2.1
  have O := G.2.2.2.1
  have hE := tE_b G.1
  obtain ⟨n0, n1, n2, n3, n4, n5, n6⟩ := wH_v
  -- none of the words
  have none : (∀ k, k < 7 → ¬ (tK T z = 2 ∧ spl T z (tE T z) k = true)) → ∀ x4 : Int64, ∃ w' F', BB C T w' F' ∧ f_X5_doLine_21 fu w 89 (nI z) (-1) = some w' ∧ f_X11_readsLine_21 fu (mW C F v ar) 123 (nI z) x4 = some (mW C F' v ar) ∧ Chg cks w w' ∧ FM F ar F' ar := by
    intro h x4
    obtain ⟨w', F', b1, b2, b3, b4, b5⟩ := G.fail (c := 1) (by omega) (by omega) (nI z)
    refine ⟨w', F', b3, ?_, ?_, b4, b5⟩
    · rw [f_X5_doLine_21, bnd_eq, if_pos rfl, K.g.2.2.1, some_bind', K.cl, show (1 : Int32) = nI 1 from rfl, b1, some_bind']
    · rw [f_X11_readsLine_21, bnd_eq, ← n0, ← n1, ← n2, ← n3, ← n4, ← n5, ← n6]
      simp only [m_cl hC, G.hw_no (by omega : 0 < 7) (h 0 (by omega)), G.hw_no (by omega : 1 < 7) (h 1 (by omega)), G.hw_no (by omega : 2 < 7) (h 2 (by omega)), G.hw_no (by omega : 3 < 7) (h 3 (by omega)), G.hw_no (by omega : 4 < 7) (h 4 (by omega)), G.hw_no (by omega : 5 < 7) (h 5 (by omega)), G.hw_no (by omega : 6 < 7) (h 6 (by omega)), some_bind', if_true]
      rw [m_gI hC F v ar 25 rfl, some_bind', m25, show (1 : Int32) = nI 1 from rfl, b2, some_bind']
  by_cases h2 : tK T z = 2
  · have k1 := tKM.2.1.mp h2
    have cE : f_X5_doLine fu w 89 = f_X5_doLine_21 fu w 89 (nI z) (wI T z (tE T z)) := by
      rw [f_X5_doLine, K.g.2.2.1, some_bind', bnd_eq, K.g.2.1, some_bind', if_pos h2, K.cl, lineHere_ok (by omega) K hE.1 hE.2, some_bind']
    have mE : f_X11_readsLine fu (mW C F v ar) 123 = f_X11_readsLine_21 fu (mW C F v ar) 123 (nI z) v := by
      rw [f_X11_readsLine, m_gI hC F v ar 25 rfl, some_bind', bnd_eq, m25, m_gI hC F v ar 24 rfl, some_bind', m24, if_pos k1, m_gJ hC F v ar, some_bind']
    -- one of them
    have one : ∀ k, k < 7 → spl T z (tE T z) k = true → v = lN (wH k) ∧ ∃ w1 F1 v1, GG C T (nx T z) s f w1 F1 v1 ar ∧ z < nx T z ∧ Chg cks w w1 ∧ FM F ar F1 ar ∧ (∀ x : Int32, ¬ x = -1 → f_X5_doLine_21 fu w 89 (nI z) x = f_X5_doLine_49 fu fu w1 89 (nI z) x (f_X5_shapeOf x) 0) ∧ f_X11_hasWord fu (mW C F v ar) 123 (lN (wH k)) = some (1, mW C F1 v1 ar) := by
      intro k hk hs
      obtain ⟨ev, w1, F1, v1, a1, a2, a3, a4, a5, a6⟩ := G.hw_in (fu := fu) (by omega) hk h2 hs
      refine ⟨ev, w1, F1, v1, a3, a4, a5, a6, fun x hx => ?_, a2⟩
      rw [f_X5_doLine_21, bnd_eq, if_neg hx, K.cl, a1, some_bind', bnd_eq]
    have no : ∀ k, k < 7 → ¬ spl T z (tE T z) k = true → f_X11_hasWord fu (mW C F v ar) 123 (lN (wH k)) = some (0, mW C F v ar) := fun k hk h => G.hw_no hk (fun q => h q.2)
    by_cases s0 : spl T z (tE T z) 0 = true
    · obtain ⟨ev, w1, F1, v1, a1, a2, a3, a4, a5, a6⟩ := one 0 (by omega) s0
      have L := (line_set (fu := fu) (N := fu) (n := z + 1) (Or.inl ⟨_, by omega, a1⟩) hfu (by omega) (nI z)).pre a3 a4
      refine L.eq ?_ ?_
      · rw [cE, show wI T z (tE T z) = 0 by unfold wI; rw [if_pos s0], a5 0 (by decide)]; rfl
      · rw [mE, f_X11_readsLine_21, bnd_eq, m_cl hC, ← n0, a6, some_bind']
        dsimp only
        rw [if_neg (by decide), m_cl hC]
        cases f_X11_readsSet fu (mW C F1 v1 ar) 123 <;> rfl
    · have b0 := no 0 (by omega) s0
      by_cases s1 : spl T z (tE T z) 1 = true
      · obtain ⟨ev, w1, F1, v1, a1, a2, a3, a4, a5, a6⟩ := one 1 (by omega) s1
        have L := (line_mark (fu := fu) (N := fu) (n := z + 1) (Or.inl ⟨_, by omega, a1⟩) O (by omega) (by omega) (nI z)).pre a3 a4
        refine L.eq ?_ ?_
        · rw [cE, show wI T z (tE T z) = 1 by unfold wI; rw [if_neg s0, if_pos s1], a5 1 (by decide)]; rfl
        · rw [mE, f_X11_readsLine_21, bnd_eq, ← n0, ← n1]
          simp only [m_cl hC, b0, some_bind', if_true]
          rw [a6, some_bind']
          dsimp only
          rw [if_neg (by decide), ev]
      · have b1 := no 1 (by omega) s1
        by_cases s2 : spl T z (tE T z) 2 = true
        · obtain ⟨ev, w1, F1, v1, a1, a2, a3, a4, a5, a6⟩ := one 2 (by omega) s2
          have L := (line_cut (fu := fu) (N := fu) (n := z + 1) (Or.inl ⟨_, by omega, a1⟩) O (by omega) (by omega) (nI z)).pre a3 a4
          refine L.eq ?_ ?_
          · rw [cE, show wI T z (tE T z) = 2 by unfold wI; rw [if_neg s0, if_neg s1, if_pos s2], a5 2 (by decide)]; rfl
          · rw [mE, f_X11_readsLine_21, bnd_eq, ← n0, ← n1, ← n2]
            simp only [m_cl hC, b0, b1, some_bind', if_true]
            rw [a6, some_bind']
            dsimp only
            rw [if_neg (by decide), ev]
        · have b2 := no 2 (by omega) s2
          by_cases s3 : spl T z (tE T z) 3 = true
          · obtain ⟨ev, w1, F1, v1, a1, a2, a3, a4, a5, a6⟩ := one 3 (by omega) s3
            have L := (line_join (fu := fu) (N := fu) (n := z + 1) (Or.inl ⟨_, by omega, a1⟩) O (by omega) (by omega) (nI z)).pre a3 a4
            refine L.eq ?_ ?_
            · rw [cE, show wI T z (tE T z) = 3 by unfold wI; rw [if_neg s0, if_neg s1, if_neg s2, if_pos s3], a5 3 (by decide)]; rfl
            · rw [mE, f_X11_readsLine_21, bnd_eq, ← n0, ← n1, ← n2, ← n3]
              simp only [m_cl hC, b0, b1, b2, some_bind', if_true]
              rw [a6, some_bind']
              dsimp only
              rw [if_neg (by decide), ev]
          · have b3 := no 3 (by omega) s3
            by_cases s4 : spl T z (tE T z) 4 = true
            · obtain ⟨ev, w1, F1, v1, a1, a2, a3, a4, a5, a6⟩ := one 4 (by omega) s4
              have L := (line_melt (fu := fu) (N := fu) (n := z + 1) (Or.inl ⟨_, by omega, a1⟩) O (by omega) (by omega) (nI z)).pre a3 a4
              refine L.eq ?_ ?_
              · rw [cE, show wI T z (tE T z) = 4 by unfold wI; rw [if_neg s0, if_neg s1, if_neg s2, if_neg s3, if_pos s4], a5 4 (by decide)]; rfl
              · rw [mE, f_X11_readsLine_21, bnd_eq, ← n0, ← n1, ← n2, ← n3, ← n4]
                simp only [m_cl hC, b0, b1, b2, b3, some_bind', if_true]
                rw [a6, some_bind']
                dsimp only
                rw [if_neg (by decide), ev]
            · have b4 := no 4 (by omega) s4
              by_cases s5 : spl T z (tE T z) 5 = true
              · obtain ⟨ev, w1, F1, v1, a1, a2, a3, a4, a5, a6⟩ := one 5 (by omega) s5
                have L := (line_shift (fu := fu) (N := fu) (n := z + 1) (Or.inl ⟨_, by omega, a1⟩) O (by omega) (by omega) (nI z)).pre a3 a4
                refine L.eq ?_ ?_
                · rw [cE, show wI T z (tE T z) = 5 by unfold wI; rw [if_neg s0, if_neg s1, if_neg s2, if_neg s3, if_neg s4, if_pos s5], a5 5 (by decide)]; rfl
                · rw [mE, f_X11_readsLine_21, bnd_eq, ← n0, ← n1, ← n2, ← n3, ← n4, ← n5]
                  simp only [m_cl hC, b0, b1, b2, b3, b4, some_bind', if_true]
                  rw [a6, some_bind']
                  dsimp only
                  rw [if_neg (by decide), ev]
              · have b5 := no 5 (by omega) s5
                by_cases s6 : spl T z (tE T z) 6 = true
                · obtain ⟨ev, w1, F1, v1, a1, a2, a3, a4, a5, a6⟩ := one 6 (by omega) s6
                  have L := (line_move (fu := fu) (N := fu) (n := z + 1) (Or.inl ⟨_, by omega, a1⟩) O (by omega) (by omega) (nI z)).pre a3 a4
                  refine L.eq ?_ ?_
                  · rw [cE, show wI T z (tE T z) = 6 by unfold wI; rw [if_neg s0, if_neg s1, if_neg s2, if_neg s3, if_neg s4, if_neg s5, if_pos s6], a5 6 (by decide)]; rfl
                  · rw [mE, f_X11_readsLine_21, bnd_eq, ← n0, ← n1, ← n2, ← n3, ← n4, ← n5, ← n6]
                    simp only [m_cl hC, b0, b1, b2, b3, b4, b5, some_bind', if_true]
                    rw [a6, some_bind']
                    dsimp only
                    rw [if_neg (by decide), ev]
                · obtain ⟨w', F', c1, c2, c3, c4, c5⟩ := none (fun k hk q => by
                    have : k = 0 ∨ k = 1 ∨ k = 2 ∨ k = 3 ∨ k = 4 ∨ k = 5 ∨ k = 6 := by omega
                    rcases this with rfl | rfl | rfl | rfl | rfl | rfl | rfl
                    · exact s0 q.2
                    · exact s1 q.2
                    · exact s2 q.2
                    · exact s3 q.2
                    · exact s4 q.2
                    · exact s5 q.2
                    · exact s6 q.2) v
                  refine ⟨s, f, w', F', v, ar, ?_, ?_, Or.inr c1, c4, c5⟩
                  · rw [cE, show wI T z (tE T z) = -1 by unfold wI; rw [if_neg s0, if_neg s1, if_neg s2, if_neg s3, if_neg s4, if_neg s5, if_neg s6], c2]
                  · rw [mE, c3]
  · obtain ⟨w', F', c1, c2, c3, c4, c5⟩ := none (fun k hk q => h2 q.1) 0
    refine ⟨s, f, w', F', v, ar, ?_, ?_, Or.inr c1, c4, c5⟩
    · rw [f_X5_doLine, K.g.2.2.1, some_bind', bnd_eq, K.g.2.1, some_bind', if_neg h2, c2]
    · rw [f_X11_readsLine, m_gI hC F v ar 25 rfl, some_bind', bnd_eq, m25, m_gI hC F v ar 24 rfl, some_bind', m24, if_neg (fun q => h2 (tKM.2.1.mpr q)), c3]
theorem read_loop (hfu : 20000 ≤ fu) : ∀ m c N N' s f w F v ar, 801 = c + m → m < N → m < N' → St C T c s f w F v ar → ∃ s' f' w' F' v' ar', f_X5_perform_21 fu N w 89 (nI c) = some w' ∧ f_X11_text_46 fu N' (mW C F v ar) 123 = f_X11_text_67 fu (mW C F' v' ar') 123 ∧ St C T c s' f' w' F' v' ar' ∧ Chg cks w w' ∧ FM F ar F' ar' := by
  intro m
  induction m with
  | zero =>
    intro c N N' s f w F v ar hm hN hN' G
    obtain ⟨N, rfl⟩ : ∃ q, N = q + 1 := ⟨N - 1, by omega⟩
    obtain ⟨N', rfl⟩ : ∃ q, N' = q + 1 := ⟨N' - 1, by omega⟩
    have hC := G.len
    rcases G with ⟨z, hz, G⟩ | G
    · have := G.1
      obtain ⟨num, K, _⟩ := G.2.1
      have := K.2.2.1
      omega
    · obtain ⟨e1, x, e2, e3⟩ := G.good (v := v) (ar := ar)
      refine ⟨s, f, w, F, v, ar, ?_, ?_, Or.inr G, Chg.rf _ _, FM.rf _ _⟩
      · rw [f_X5_perform_21, if_pos (show (800 : Int32) ≤ nI c from nI_le (a := 800) (by omega) (by omega))]
      · rw [f_X11_text_46, m_cl hC, e1, some_bind', if_pos rfl]
  | succ m ih =>
    intro c N N' s f w F v ar hm hN hN' G
    obtain ⟨N, rfl⟩ : ∃ q, N = q + 1 := ⟨N - 1, by omega⟩
    obtain ⟨N', rfl⟩ : ∃ q, N' = q + 1 := ⟨N' - 1, by omega⟩
    have hC := G.len
    rcases G with ⟨z, hz, G⟩ | G
    · obtain ⟨g1, g2⟩ := id G.good
      obtain ⟨num, K, hnum⟩ := id G.2.1
      have hl := K.2.2.1
      have m24 : F 24 = tM T z := G.2.2.2.2.2.2.2.2.2.1
      by_cases hz0 : T.length ≤ z
      · have hk := tKM.2.2.2.2.2.mpr hz0
        refine ⟨s, f, w, F, v, ar, ?_, ?_, Or.inl ⟨z, hz, G⟩, Chg.rf _ _, FM.rf _ _⟩
        · rw [f_X5_perform_21]
          split
          · rfl
          · rw [g2, some_bind', if_pos rfl, K.g.2.1, some_bind', if_pos hk]
        · rw [f_X11_text_46, m_cl hC, g1, some_bind', if_neg (by decide), m_gI hC F v ar 24 rfl, some_bind', m24, if_pos (tKM.1.mp hk)]
      · have hk : ¬ tK T z = 0 := fun q => hz0 (tKM.2.2.2.2.2.mp q)
        obtain ⟨s1, f1, w1, F1, v1, ar1, a1, a2, a3, a4, a5⟩ := line G hfu (by omega)
        obtain ⟨s2, f2, w2, F2, v2, ar2, b1, b2, b3, b4, b5⟩ := ih (c + 1) N N' s1 f1 w1 F1 v1 ar1 (by omega) (by omega) (by omega) (a3.mono (by omega))
        refine ⟨s2, f2, w2, F2, v2, ar2, ?_, ?_, b3.mono (by omega), a4.tr b4, a5.tr b5⟩
        · rw [f_X5_perform_21, if_neg (show ¬ (800 : Int32) ≤ nI c from nI_ge (b := 800) (by omega) (by omega)), g2, some_bind', if_pos rfl, K.g.2.1, some_bind', if_neg hk, K.cl, a1, some_bind', bnd_eq, nI_1, b1]
        · rw [f_X11_text_46, m_cl hC, g1, some_bind', if_neg (by decide), m_gI hC F v ar 24 rfl, some_bind', m24, if_neg (fun q => hk (tKM.1.mpr q)), m_cl hC, a2, some_bind', b2]
    · obtain ⟨e1, x, e2, e3⟩ := G.good (v := v) (ar := ar)
      refine ⟨s, f, w, F, v, ar, ?_, ?_, Or.inr G, Chg.rf _ _, FM.rf _ _⟩
      · rw [f_X5_perform_21]
        split
        · rfl
        · rw [e3, some_bind', if_neg e2]
      · rw [f_X11_text_46, m_cl hC, e1, some_bind', if_pos rfl]
end Q
