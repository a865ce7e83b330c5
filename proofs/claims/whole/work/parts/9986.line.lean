/-! THE READER: lines, both sides -/
section Q
variable {C : MW} {T : List Nat} {z n : Nat} {s : AS} {f : Nat → Int32} {w : MW} {F : Nat → Int32} {v : Int64} {ar : Nat → Nat → Int32} {fu : Nat}
theorem St.arr (G : St C T n s f w F v ar) {i : Nat} (hi : i < 4) (x : Int32) : ∃ w', sI w .int 90 (nI i) x = some w' ∧ St C T n s (upd f i x) w' F v ar ∧ Chg cks w w' := by
  rcases G with ⟨z, hz, G⟩ | G
  · obtain ⟨g1, ⟨num, K, hn⟩, h, O, Z, FO, h90, M⟩ := G
    have ch := Chg.st (ks := [90]) w (a := 90) (.inl (.int, 4, .inl (upd f i x))) (by simp)
    exact ⟨_, sI_ar h90 hi (by omega), Or.inl ⟨z, hz, g1, ⟨num, K.chg ch (by simp) (by simp) (by simp), hn⟩, h.chg ch (fun k hk => by simp at hk; omega), O, Z.chg ch (fun k hk => by simp at hk; omega), FO, get_set_eq h90, M⟩, c90 ch⟩
  · obtain ⟨c, fp, s', p, k, st, num, f', c1, c2, hp, K, h, Z, h90, M⟩ := G
    have ch := Chg.st (ks := [90]) w (a := 90) (.inl (.int, 4, .inl (upd f' i x))) (by simp)
    exact ⟨_, sI_ar h90 hi (by omega), Or.inr ⟨c, fp, s', p, k, st, num, _, c1, c2, hp, K.chg ch (by simp) (by simp) (by simp), h.chg ch (fun k hk => by simp at hk; omega), Z.chg ch (fun k hk => by simp at hk; omega), get_set_eq h90, M⟩, c90 ch⟩
theorem St.r2 (G : St C T n s f w F v ar) : gR w 5 89 2 = some 90 ∧ aL w .int 90 = some (nI 4) := by
  rcases G with ⟨z, hz, G⟩ | G
  · obtain ⟨g1, ⟨num, K, hn⟩, h, O, Z, FO, h90, M⟩ := G
    exact ⟨K.g.2.2.2.2.2.2.2.2, aL_ar h90⟩
  · obtain ⟨c, fp, s', p, k, st, num, f', c1, c2, hp, K, h, Z, h90, M⟩ := G
    exact ⟨K.g.2.2.2.2.2.2.2.2, aL_ar h90⟩
/-- one argument -/
theorem arg_step (G : St C T n s f w F v ar) {k i l N : Nat} {v1 v2 x : Int32} {w' w'' : MW} (hk : k < 13) (hi : i < (wL k).length) (hi4 : i < 4) (hl : nth (wL k) i = l) (h1 : f_X5_takeArgument fu w 89 (nI l) = some (x, w')) (h2 : sI w' .int 90 (nI i) x = some w'') : f_X5_doLine_49 fu (N + 1) w 89 v1 v2 (10000 + k) (nI i) = f_X5_doLine_49 fu N w'' 89 v1 v2 (10000 + k) (nI (i + 1)) := by
  obtain ⟨w1, w2, w3⟩ := wL_len k hk
  obtain ⟨r1, r2⟩ := G.r2
  rw [f_X5_doLine_49, w1, some_bind', if_neg (nI_ge hi (by omega)), r1, some_bind', r2, some_bind', if_neg (nI_ge hi4 (by omega)), some_bind', wL_by hk hi, some_bind', hl, G.cl, h1, some_bind']
  dsimp only
  rw [h2, some_bind', bnd_eq, nI_1]
theorem arg_end {k i N : Nat} {v1 v2 : Int32} (hk : k < 13) (hi : (wL k).length = i) : f_X5_doLine_49 fu (N + 1) w 89 v1 v2 (10000 + k) (nI i) = f_X5_doLine_94 fu fu w 89 v1 v2 0 := by
  obtain ⟨w1, w2, w3⟩ := wL_len k hk
  rw [f_X5_doLine_49, w1, some_bind', if_pos (nI_le (by omega) (by omega)), bnd_eq]
theorem d94_no {N : Nat} {v1 v2 : Int32} (h : ¬ v2 = 0) : f_X5_doLine_94 fu (N + 1) w 89 v1 v2 0 = f_X5_doLine_137 fu w 89 v1 v2 := by
  rw [f_X5_doLine_94, if_neg (by decide), if_neg h]
theorem BB.d155 (G : BB C T w F) (hfu : 1000 ≤ fu) {v1 v2 : Int32} : ∃ w', f_X5_doLine_155 fu w 89 v1 v2 = some w' ∧ BB C T w' F ∧ Chg cks w w' := by
  obtain ⟨w', a1, a2, a3⟩ := G.adv hfu
  obtain ⟨e1, x, e2, e3⟩ := G.good (v := 0) (ar := fun _ _ => 0)
  obtain ⟨pos, k, st, num, fc, fp, K⟩ := G.sk
  exact ⟨w', by rw [f_X5_doLine_155, e3, some_bind', if_neg e2, f_X5_doLine_176, K.cl, a1, some_bind'], a2, a3⟩
theorem BB.d137 (G : BB C T w F) (hfu : 1000 ≤ fu) {v1 v2 : Int32} : ∃ w', f_X5_doLine_137 fu w 89 v1 v2 = some w' ∧ BB C T w' F ∧ Chg cks w w' := by
  obtain ⟨w', a1, a2, a3⟩ := G.d155 hfu (v1 := v1) (v2 := v2)
  obtain ⟨pos, k, st, num, fc, fp, K⟩ := G.sk
  refine ⟨w', ?_, a2, a3⟩
  rw [f_X5_doLine_137, K.g.2.1, some_bind']
  split
  · exact a1
  · rw [K.g.2.2.1, some_bind', K.cl, G.fail, some_bind']; exact a1
def tail99 (w : Option (Int32 × MW)) (p : Int32) : Option MW := w.bind fun q11 => if q11.1 ≤ 0 then some q11.2 else (cl q11.2 11 123 (f_X11_fails q11.2 123 (4 : Int32) p)).bind fun q14 => some q14
theorem r115 {w : MW} {v1 : Int64} {a b c d e : Int32} : f_X11_readsAct_115 fu w 123 v1 a b c d e = (cl w 11 123 (f_X11_ends fu w 123)).bind fun q15 => (cl q15 11 123 (f_X11_isGood q15 123)).bind fun q18 => if q18 = 0 then some ((0 : Int32), q15) else mAct fu q15 v1 a b c d e := rfl
theorem GG.noEnd (G : GG C T z s f w F v ar) (hfu : 1000 ≤ fu) (hk : ¬ tK T z = 59) {v1 v2 : Int32} : ∃ w' F', f_X5_doLine_137 fu w 89 v1 v2 = some w' ∧ f_X11_ends fu (mW C F v ar) 123 = some (mW C F' v ar) ∧ BB C T w' F' ∧ Chg cks w w' ∧ FM F ar F' ar := by
  obtain ⟨g1, g2⟩ := id G.good
  obtain ⟨num, K, hnum⟩ := id G.2.1
  have hC := G.len
  have m25 : F 25 = nI z := G.2.2.2.2.2.2.2.2.2.2.1
  obtain ⟨w1, b1, b2, b3⟩ := G.failC (c := 1) (by omega) (by omega) (nI z)
  obtain ⟨F1, d1, d2, d3, d4⟩ := G.failM (c := 1) (nI z)
  have X := b2 F1 d2 d3
  obtain ⟨w2, e1, e2, e3⟩ := X.d155 hfu (v1 := v1) (v2 := v2)
  refine ⟨w2, F1, ?_, ?_, e2, b3.tr e3, d4⟩
  · rw [f_X5_doLine_137, K.g.2.1, some_bind', if_neg hk, K.g.2.2.1, some_bind', K.cl, show (1 : Int32) = nI 1 from rfl, b1, some_bind', e1]
  · rw [f_X11_ends, m_cl hC, g1, some_bind', if_neg (by decide), m_cl hC]
    have := G.sign_no (fu := fu) (c := 59) (Or.inr rfl) hk
    rw [show (59 : Int32) = nI 59 from rfl, this, some_bind', if_pos rfl, m_gI hC F v ar 25 rfl, some_bind', m25, m_cl hC, show (1 : Int32) = nI 1 from rfl, d1, some_bind']
theorem BB.ends (G : BB C T w F) : f_X11_ends fu (mW C F v ar) 123 = some (mW C F v ar) := by
  obtain ⟨e1, x, e2, e3⟩ := G.good (v := v) (ar := ar)
  rw [f_X11_ends, m_cl G.len, e1, some_bind', if_pos rfl]
theorem GG.isEnd (G : GG C T z s f w F v ar) (hfu : 1000 ≤ fu) (hk : tK T z = 59) : ∃ w' F' v', f_X5_advance fu w 89 = some w' ∧ f_X11_ends fu (mW C F v ar) 123 = some (mW C F' v' ar) ∧ GG C T (nx T z) s f w' F' v' ar ∧ z < nx T z ∧ Chg cks w w' ∧ FM F ar F' ar := by
  obtain ⟨g1, g2⟩ := id G.good
  have hC := G.len
  obtain ⟨w1, F1, v1, a1, a2, a3, a4, a5, a6⟩ := G.sign_in hfu (c := 59) (Or.inr rfl) hk
  refine ⟨w1, F1, v1, a1, ?_, a3, a4, a5, a6⟩
  rw [f_X11_ends, m_cl hC, g1, some_bind', if_neg (by decide), m_cl hC, show (59 : Int32) = nI 59 from rfl, a2, some_bind', if_neg (show ¬ (1 : Int32) = 0 by decide)]
theorem line_end (G : St C T n s f w F v ar) (hfu : 1000 ≤ fu) {kd p : Int32} {s' : AS} {x : Int32} {cf : MW → Option (Int32 × MW)} {v1 : Int64} {a b c d e : Int32} (A : ActS s s' x cf (fun w => mAct fu w v1 a b c d e)) (hact : ∀ w pos k st num fc fp, SK w T pos k st num fc fp → w[90]? = some (.inl (.int, 4, .inl f)) → CS w s.1 s.2 → f_X5_act fu w 89 kd = (cf w).bind fun q => some (q.1, q.2)) : ∃ w' F' v' ar', f_X5_doLine_137 fu w 89 p kd = some w' ∧ tail99 (f_X11_readsAct_115 fu (mW C F v ar) 123 v1 a b c d e) p = some (mW C F' v' ar') ∧ St C T n s' f w' F' v' ar' ∧ Chg cks w w' ∧ FM F ar F' ar' := by
  have hC := G.len
  rcases G with ⟨z, hz, G⟩ | G
  · obtain ⟨num, K, hnum⟩ := id G.2.1
    by_cases hk : tK T z = 59
    · obtain ⟨w1, F1, v1', a1, a2, a3, a4, a5, a6⟩ := G.isEnd hfu hk
      obtain ⟨i1, i2⟩ := id a3.good
      obtain ⟨g1, g2⟩ := id G.good
      obtain ⟨A1, A2, A3, A4⟩ := A
      obtain ⟨q1, ⟨num1, K1, hn1⟩, q3, q4, q5, q6, q7, P, m23, m24, m25, mv, m6, m7, B⟩ := a3
      obtain ⟨r, al, y1, y2, y3, y4⟩ := A4 C F1 v1' ar B
      have h90 := G.2.2.2.2.2.2.1
      have hCS := G.2.2.1
      obtain ⟨w2, u1, u2, u3, u4⟩ := A3 w hCS G.2.2.2.2.1
      have K2 : SK w2 T (nI (tE T z)) (tK T z) (nI z) num 0 (-1) := K.chg u4 (by decide) (by decide) (by decide)
      have h902 := u4.at (by decide) h90
      have fA : FM F1 ar F1 (ua ar 0 al) := ⟨fun _ _ _ _ _ _ => rfl, fun k hk => ua_ne _ _ hk, fun q hq => by rw [ua_eq]; exact y4 q hq⟩
      have hb := tE_b G.1
      have ea := hact w _ _ _ _ _ _ K h90 hCS
      rw [u1, some_bind'] at ea
      dsimp only at y1
      have head : f_X11_readsAct_115 fu (mW C F v ar) 123 v1 a b c d e = some (r, mW C F1 v1' (ua ar 0 al)) := by
        rw [r115, m_cl hC, a2, some_bind', m_cl hC, i1, some_bind', if_neg (by decide), y1]
      rcases y2 with ⟨x1, x2⟩ | ⟨x1, x2⟩
      · obtain ⟨d1, d2⟩ := K2.to (nI (tE T z)) (tK T z) (nI z) num (nI 4) (-1)
        obtain ⟨d3, d4⟩ := d1.to (nI (tE T z)) (tK T z) (nI z) num (nI 4) p
        obtain ⟨w3, num3, j1, j2, j3, j4⟩ := advance_ok hfu d3 hb.2
        have cc := (d2.tr d4).tr j4
        refine ⟨w3, upd (upd F1 6 (nI 4)) 7 p, v1', ua ar 0 al, ?_, ?_, Or.inr ⟨4, p, s', _, _, _, num3, f, by omega, by omega, (tE_b (tS_b hb.2).2).2, j2, u2.chg cc (fun k hk => by simp at hk; omega), u3.chg cc (fun k hk => by simp at hk; omega), cc.at (by simp) h902, hC, by rw [upd_ne _ _ (by omega), upd_eq], upd_eq _ _ _⟩, (c11 u4).tr (c89 cc), (a6.tr fA).tr ⟨fun k k1 k2 _ _ _ => by rw [upd_ne _ _ (by omega), upd_ne _ _ (by omega)], fun _ _ => rfl, fun _ _ => rfl⟩⟩
        · rw [f_X5_doLine_137, K.g.2.1, some_bind', if_pos hk, f_X5_doLine_155, g2, some_bind', if_pos rfl, K.cl, ea, some_bind']
          dsimp only
          rw [if_neg (Int32.not_le.mpr x1), K2.cl, f_X5_fail, K2.g.2.2.2.2.1, some_bind', if_pos rfl, show (4 : Int32) = nI 4 from rfl, K2.p7, some_bind', d1.p8, some_bind', some_bind', f_X5_doLine_176, d3.cl, j1, some_bind']
        · rw [tail99, head, some_bind']
          dsimp only
          rw [if_neg x2, m_cl hC, f_X11_fails, m_gI hC F1 v1' _ 6 rfl, some_bind', m6, if_pos (by decide), show (4 : Int32) = nI 4 from rfl, m_p hC F1 v1' _ 6 (by omega) mFt.2.2.1, some_bind', m_p hC _ v1' _ 7 (by omega) mFt.2.2.2.1, some_bind', some_bind']
      · obtain ⟨w3, num3, j1, j2, j3, j4⟩ := advance_ok hfu K2 hb.2
        refine ⟨w3, F1, v1', ua ar 0 al, ?_, ?_, Or.inl ⟨nx T z, by omega, q1, ⟨num3, j2, j3⟩, u2.chg j4 (fun k hk => by simp at hk; omega), A1, u3.chg j4 (fun k hk => by simp at hk; omega), A2 q6, j4.at (by simp) h902, ⟨P.1, P.2.1, fun j hj => by rw [ua_ne _ _ (by omega)]; exact P.2.2.1 j hj, P.2.2.2⟩, m23, m24, m25, mv, m6, m7, B.F hC rfl (by rw [ua_eq]; exact y3) A1.1⟩, (c11 u4).tr (c89 j4), a6.tr fA⟩
        · rw [f_X5_doLine_137, K.g.2.1, some_bind', if_pos hk, f_X5_doLine_155, g2, some_bind', if_pos rfl, K.cl, ea, some_bind']
          dsimp only
          rw [if_pos (Int32.not_lt.mp x1), f_X5_doLine_176, K2.cl, j1, some_bind']
        · rw [tail99, head, some_bind']
          dsimp only
          rw [if_pos x2]
    · obtain ⟨w1, F1, a1, a2, a3, a4, a5⟩ := G.noEnd hfu hk (v1 := p) (v2 := kd)
      obtain ⟨e1, x, e2, e3⟩ := a3.good (v := v) (ar := ar)
      refine ⟨w1, F1, v, ar, a1, ?_, Or.inr a3, a4, a5⟩
      rw [tail99, r115, m_cl hC, a2, some_bind', m_cl hC, e1, some_bind', if_pos rfl, some_bind']
      rfl
  · obtain ⟨w1, a1, a2, a3⟩ := G.d137 hfu (v1 := p) (v2 := kd)
    obtain ⟨e1, x, e2, e3⟩ := G.good (v := v) (ar := ar)
    refine ⟨w1, F, v, ar, a1, ?_, Or.inr a2, a3, FM.rf _ _⟩
    rw [tail99, r115, m_cl hC, G.ends, some_bind', m_cl hC, e1, some_bind', if_pos rfl, some_bind']
    rfl
end Q
