/-! THE READER: the six kinds of act -/
def LR (C : MW) (T : List Nat) (n : Nat) (w : MW) (F : Nat → Int32) (ar : Nat → Nat → Int32) (p q : Option MW) : Prop := ∃ s' f' w' F' v' ar', p = some w' ∧ q = some (mW C F' v' ar') ∧ St C T n s' f' w' F' v' ar' ∧ Chg cks w w' ∧ FM F ar F' ar'
theorem arr4 {w : MW} {f : Nat → Int32} (h : w[90]? = some (.inl (.int, 4, .inl f))) : aI w .int 90 0 = some (f 0) ∧ aI w .int 90 1 = some (f 1) ∧ aI w .int 90 2 = some (f 2) ∧ aI w .int 90 3 = some (f 3) := ⟨aI_ar (j := 0) h (by omega) (by omega), aI_ar (j := 1) h (by omega) (by omega), aI_ar (j := 2) h (by omega) (by omega), aI_ar (j := 3) h (by omega) (by omega)⟩
section Q
variable {C : MW} {T : List Nat} {z n : Nat} {s : AS} {f : Nat → Int32} {w : MW} {F : Nat → Int32} {v : Int64} {ar : Nat → Nat → Int32} {fu : Nat}
theorem r99 (hC : C.length = 123) {p : Int32} {v1 : Int64} : f_X11_readsLine_99 fu (mW C F v ar) 123 p v1 = tail99 (f_X11_readsAct fu (mW C F v ar) 123 v1) p := by
  rw [f_X11_readsLine_99, m_cl hC]; rfl
theorem line_mark (G : St C T n s f w F v ar) (O : AOK s.1) (hfu : 3000 ≤ fu) {N : Nat} (hN : 10 ≤ N) (p : Int32) : LR C T n w F ar (f_X5_doLine_49 fu N w 89 p 1 10008 0) (f_X11_readsLine_99 fu (mW C F v ar) 123 p 257105) := by
  obtain ⟨M, rfl⟩ : ∃ M, N = M + 1 + 1 + 1 + 1 + 1 := ⟨N - 5, by omega⟩
  obtain ⟨Mf, hMf⟩ : ∃ M, fu = M + 1 := ⟨fu - 1, by omega⟩
  have hC := G.len
  obtain ⟨i, w1, F1, v1, i0, i1, i2, i3, i4, i5⟩ := argS G (fu := fu) (by omega)
  obtain ⟨w1', x1, x2, x3⟩ := i3.arr (i := 0) (by omega) (nI i)
  obtain ⟨a, w2, F2, v2, a0, a1, a2, a3, a4, a5⟩ := argK x2 (fu := fu) (by omega)
  obtain ⟨w2', y1, y2, y3⟩ := a3.arr (i := 1) (by omega) (nI a)
  obtain ⟨c, w3, F3, v3, c0, c1, c2, c3, c4, c5⟩ := argK y2 (fu := fu) (by omega)
  obtain ⟨w3', z1, z2, z3⟩ := c3.arr (i := 2) (by omega) (nI c)
  obtain ⟨s', x, A⟩ := act_mark (s := s) (fu := fu) O (by omega) i0 a0 c0 0 0
  obtain ⟨w4, F4, v4, ar4, k1, k2, k3, k4, k5⟩ := line_end (kd := 1) (p := p) z2 (by omega) A (fun w pos k st num fc fp K h90 hs => by
    obtain ⟨q0, q1, q2, q3⟩ := arr4 h90
    obtain ⟨g3, g4, g5, g6, g7, g8, r0, r1, r2⟩ := K.g
    rw [f_X5_act, if_pos rfl, r1, some_bind', r2, some_bind', q0, some_bind', some_bind', q1, some_bind', some_bind', q2, some_bind', hs.cl]
    rfl)
  refine ⟨s', _, w4, F4, v4, ar4, ?_, ?_, k3.mono (by omega), (((((i4.tr x3).tr a4).tr y3).tr c4).tr z3).tr k4, ((i5.tr a5).tr c5).tr k5⟩
  · have e1 := arg_step (k := 8) (N := M + 1 + 1 + 1 + 1) (v1 := p) (v2 := 1) (l := 115) G (by omega) (by decide) (by omega) rfl i1 x1
    have e2 := arg_step (k := 8) (N := M + 1 + 1 + 1) (v1 := p) (v2 := 1) (l := 107) x2 (by omega) (by decide) (by omega) rfl a1 y1
    have e3 := arg_step (k := 8) (N := M + 1 + 1) (v1 := p) (v2 := 1) (l := 107) y2 (by omega) (by decide) (by omega) rfl c1 z1
    have e4 := arg_end (fu := fu) (w := w3') (k := 8) (i := 3) (N := M + 1) (v1 := p) (v2 := 1) (by omega) rfl
    have e5 := d94_no (fu := fu) (w := w3') (N := Mf) (v1 := p) (v2 := 1) (by decide)
    rw [← hMf] at e5
    exact (((e1.trans e2).trans e3).trans e4).trans (e5.trans k1)
  · have hr : f_X11_readsAct fu (mW C F v ar) 123 257105 = f_X11_readsAct_115 fu (mW C F3 v3 ar) 123 257105 (nI i) 0 (nI a) (nI c) 0 := by
      rw [f_X11_readsAct, m_cl hC, i2, some_bind', bnd_eq, if_neg (by decide), f_X11_readsAct_27, bnd_eq, if_neg (by decide), if_neg (by decide), m_cl hC, a2, some_bind', f_X11_readsAct_56, bnd_eq, if_neg (by decide), if_pos (by decide), f_X11_readsAct_89, m_cl hC, c2, some_bind', f_X11_readsAct_97, bnd_eq, if_neg (by decide)]
    rw [r99 hC, hr]
    exact k2
theorem line_cut (G : St C T n s f w F v ar) (O : AOK s.1) (hfu : 3000 ≤ fu) {N : Nat} (hN : 10 ≤ N) (p : Int32) : LR C T n w F ar (f_X5_doLine_49 fu N w 89 p 2 10009 0) (f_X11_readsLine_99 fu (mW C F v ar) 123 p 2774) := by
  obtain ⟨M, rfl⟩ : ∃ M, N = M + 1 + 1 + 1 + 1 + 1 := ⟨N - 5, by omega⟩
  obtain ⟨Mf, hMf⟩ : ∃ M, fu = M + 1 := ⟨fu - 1, by omega⟩
  have hC := G.len
  obtain ⟨i, w1, F1, v1, i0, i1, i2, i3, i4, i5⟩ := argS G (fu := fu) (by omega)
  obtain ⟨w1', x1, x2, x3⟩ := i3.arr (i := 0) (by omega) (nI i)
  obtain ⟨a, w2, F2, v2, a0, a1, a2, a3, a4, a5⟩ := argK x2 (fu := fu) (by omega)
  obtain ⟨w2', y1, y2, y3⟩ := a3.arr (i := 1) (by omega) (nI a)
  obtain ⟨c, w3, F3, v3, c0, c1, c2, c3, c4, c5⟩ := argS y2 (fu := fu) (by omega)
  obtain ⟨w3', z1, z2, z3⟩ := c3.arr (i := 2) (by omega) (nI c)
  obtain ⟨s', x, A⟩ := act_cut (s := s) (fu := fu) O (by omega) i0 a0 c0 0 0
  obtain ⟨w4, F4, v4, ar4, k1, k2, k3, k4, k5⟩ := line_end (kd := 2) (p := p) z2 (by omega) A (fun w pos k st num fc fp K h90 hs => by
    obtain ⟨q0, q1, q2, q3⟩ := arr4 h90
    obtain ⟨g3, g4, g5, g6, g7, g8, r0, r1, r2⟩ := K.g
    rw [f_X5_act, if_neg (by decide), if_pos rfl, r1, some_bind', r2, some_bind', q0, some_bind', some_bind', q1, some_bind', some_bind', q2, some_bind', hs.cl]
    rfl)
  refine ⟨s', _, w4, F4, v4, ar4, ?_, ?_, k3.mono (by omega), (((((i4.tr x3).tr a4).tr y3).tr c4).tr z3).tr k4, ((i5.tr a5).tr c5).tr k5⟩
  · have e1 := arg_step (k := 9) (N := M + 1 + 1 + 1 + 1) (v1 := p) (v2 := 2) (l := 115) G (by omega) (by decide) (by omega) rfl i1 x1
    have e2 := arg_step (k := 9) (N := M + 1 + 1 + 1) (v1 := p) (v2 := 2) (l := 107) x2 (by omega) (by decide) (by omega) rfl a1 y1
    have e3 := arg_step (k := 9) (N := M + 1 + 1) (v1 := p) (v2 := 2) (l := 115) y2 (by omega) (by decide) (by omega) rfl c1 z1
    have e4 := arg_end (fu := fu) (w := w3') (k := 9) (i := 3) (N := M + 1) (v1 := p) (v2 := 2) (by omega) rfl
    have e5 := d94_no (fu := fu) (w := w3') (N := Mf) (v1 := p) (v2 := 2) (by decide)
    rw [← hMf] at e5
    exact (((e1.trans e2).trans e3).trans e4).trans (e5.trans k1)
  · have hr : f_X11_readsAct fu (mW C F v ar) 123 2774 = f_X11_readsAct_115 fu (mW C F3 v3 ar) 123 2774 (nI i) 0 (nI a) (nI c) 0 := by
      rw [f_X11_readsAct, m_cl hC, i2, some_bind', bnd_eq, if_neg (by decide), f_X11_readsAct_27, bnd_eq, if_neg (by decide), if_neg (by decide), m_cl hC, a2, some_bind', f_X11_readsAct_56, bnd_eq, if_pos (by decide), m_cl hC, c2, some_bind', f_X11_readsAct_97, bnd_eq, if_neg (by decide)]
    rw [r99 hC, hr]
    exact k2
theorem line_join (G : St C T n s f w F v ar) (O : AOK s.1) (hfu : 3000 ≤ fu) {N : Nat} (hN : 10 ≤ N) (p : Int32) : LR C T n w F ar (f_X5_doLine_49 fu N w 89 p 3 10012 0) (f_X11_readsLine_99 fu (mW C F v ar) 123 p 208022) := by
  obtain ⟨M, rfl⟩ : ∃ M, N = M + 1 + 1 + 1 + 1 + 1 := ⟨N - 5, by omega⟩
  obtain ⟨Mf, hMf⟩ : ∃ M, fu = M + 1 := ⟨fu - 1, by omega⟩
  have hC := G.len
  obtain ⟨i, w1, F1, v1, i0, i1, i2, i3, i4, i5⟩ := argS G (fu := fu) (by omega)
  obtain ⟨w1', x1, x2, x3⟩ := i3.arr (i := 0) (by omega) (nI i)
  obtain ⟨a, w2, F2, v2, a0, a1, a2, a3, a4, a5⟩ := argS x2 (fu := fu) (by omega)
  obtain ⟨w2', y1, y2, y3⟩ := a3.arr (i := 1) (by omega) (nI a)
  obtain ⟨s', x, A⟩ := act_join (s := s) (fu := fu) O (by omega) i0 a0 0 0 0
  obtain ⟨w4, F4, v4, ar4, k1, k2, k3, k4, k5⟩ := line_end (kd := 3) (p := p) y2 (by omega) A (fun w pos k st num fc fp K h90 hs => by
    obtain ⟨q0, q1, q2, q3⟩ := arr4 h90
    obtain ⟨g3, g4, g5, g6, g7, g8, r0, r1, r2⟩ := K.g
    rw [f_X5_act, if_neg (by decide), if_neg (by decide), if_pos rfl, r1, some_bind', r2, some_bind', q0, some_bind', some_bind', q1, some_bind', hs.cl]
    rfl)
  refine ⟨s', _, w4, F4, v4, ar4, ?_, ?_, k3.mono (by omega), (((i4.tr x3).tr a4).tr y3).tr k4, (i5.tr a5).tr k5⟩
  · have e1 := arg_step (k := 12) (N := M + 1 + 1 + 1 + 1) (v1 := p) (v2 := 3) (l := 115) G (by omega) (by decide) (by omega) rfl i1 x1
    have e2 := arg_step (k := 12) (N := M + 1 + 1 + 1) (v1 := p) (v2 := 3) (l := 115) x2 (by omega) (by decide) (by omega) rfl a1 y1
    have e4 := arg_end (fu := fu) (w := w2') (k := 12) (i := 2) (N := M + 1 + 1) (v1 := p) (v2 := 3) (by omega) rfl
    have e5 := d94_no (fu := fu) (w := w2') (N := Mf) (v1 := p) (v2 := 3) (by decide)
    rw [← hMf] at e5
    exact ((e1.trans e2).trans e4).trans (e5.trans k1)
  · have hr : f_X11_readsAct fu (mW C F v ar) 123 208022 = f_X11_readsAct_115 fu (mW C F2 v2 ar) 123 208022 (nI i) 0 (nI a) 0 0 := by
      rw [f_X11_readsAct, m_cl hC, i2, some_bind', bnd_eq, if_neg (by decide), f_X11_readsAct_27, bnd_eq, if_pos (by decide), f_X11_readsAct_45, m_cl hC, a2, some_bind', f_X11_readsAct_56, bnd_eq, if_neg (by decide), if_neg (by decide), if_neg (by decide), f_X11_readsAct_97, bnd_eq, if_neg (by decide)]
    rw [r99 hC, hr]
    exact k2
theorem line_melt (G : St C T n s f w F v ar) (O : AOK s.1) (hfu : 3000 ≤ fu) {N : Nat} (hN : 10 ≤ N) (p : Int32) : LR C T n w F ar (f_X5_doLine_49 fu N w 89 p 4 10012 0) (f_X11_readsLine_99 fu (mW C F v ar) 123 p 259868) := by
  obtain ⟨M, rfl⟩ : ∃ M, N = M + 1 + 1 + 1 + 1 + 1 := ⟨N - 5, by omega⟩
  obtain ⟨Mf, hMf⟩ : ∃ M, fu = M + 1 := ⟨fu - 1, by omega⟩
  have hC := G.len
  obtain ⟨i, w1, F1, v1, i0, i1, i2, i3, i4, i5⟩ := argS G (fu := fu) (by omega)
  obtain ⟨w1', x1, x2, x3⟩ := i3.arr (i := 0) (by omega) (nI i)
  obtain ⟨a, w2, F2, v2, a0, a1, a2, a3, a4, a5⟩ := argS x2 (fu := fu) (by omega)
  obtain ⟨w2', y1, y2, y3⟩ := a3.arr (i := 1) (by omega) (nI a)
  obtain ⟨s', x, A⟩ := act_melt (s := s) (fu := fu) O (by omega) i0 a0 0 0 0
  obtain ⟨w4, F4, v4, ar4, k1, k2, k3, k4, k5⟩ := line_end (kd := 4) (p := p) y2 (by omega) A (fun w pos k st num fc fp K h90 hs => by
    obtain ⟨q0, q1, q2, q3⟩ := arr4 h90
    obtain ⟨g3, g4, g5, g6, g7, g8, r0, r1, r2⟩ := K.g
    rw [f_X5_act, if_neg (by decide), if_neg (by decide), if_neg (by decide), if_pos rfl, r1, some_bind', r2, some_bind', q0, some_bind', some_bind', q1, some_bind', hs.cl]
    rfl)
  refine ⟨s', _, w4, F4, v4, ar4, ?_, ?_, k3.mono (by omega), (((i4.tr x3).tr a4).tr y3).tr k4, (i5.tr a5).tr k5⟩
  · have e1 := arg_step (k := 12) (N := M + 1 + 1 + 1 + 1) (v1 := p) (v2 := 4) (l := 115) G (by omega) (by decide) (by omega) rfl i1 x1
    have e2 := arg_step (k := 12) (N := M + 1 + 1 + 1) (v1 := p) (v2 := 4) (l := 115) x2 (by omega) (by decide) (by omega) rfl a1 y1
    have e4 := arg_end (fu := fu) (w := w2') (k := 12) (i := 2) (N := M + 1 + 1) (v1 := p) (v2 := 4) (by omega) rfl
    have e5 := d94_no (fu := fu) (w := w2') (N := Mf) (v1 := p) (v2 := 4) (by decide)
    rw [← hMf] at e5
    exact ((e1.trans e2).trans e4).trans (e5.trans k1)
  · have hr : f_X11_readsAct fu (mW C F v ar) 123 259868 = f_X11_readsAct_115 fu (mW C F2 v2 ar) 123 259868 (nI i) 0 (nI a) 0 0 := by
      rw [f_X11_readsAct, m_cl hC, i2, some_bind', bnd_eq, if_neg (by decide), f_X11_readsAct_27, bnd_eq, if_neg (by decide), if_pos (by decide), f_X11_readsAct_45, m_cl hC, a2, some_bind', f_X11_readsAct_56, bnd_eq, if_neg (by decide), if_neg (by decide), if_neg (by decide), f_X11_readsAct_97, bnd_eq, if_neg (by decide)]
    rw [r99 hC, hr]
    exact k2
theorem shift_rng {j : Nat} (hj : j < 10000) {x zz : Int32} (h : (zz = 0 ∧ x = nI j) ∨ (¬ zz = 0 ∧ x = -nI j)) : ¬ x < -9999 ∧ x ≤ 9999 := by
  have e1 : (nI j).toInt = j := nI_toInt (by omega)
  have e2 : (-nI j).toInt = -(j : Int) := by
    rw [Int32.toInt_neg, e1]
    exact Int.bmod_eq_of_le (by omega) (by omega)
  rw [Int32.lt_iff_toInt_lt, Int32.le_iff_toInt_le, show (-9999 : Int32).toInt = -9999 by decide, show (9999 : Int32).toInt = 9999 by decide]
  rcases h with ⟨_, h⟩ | ⟨_, h⟩
  · rw [h, e1]; omega
  · rw [h, e2]; omega
theorem line_shift (G : St C T n s f w F v ar) (O : AOK s.1) (hfu : 3000 ≤ fu) {N : Nat} (hN : 10 ≤ N) (p : Int32) : LR C T n w F ar (f_X5_doLine_49 fu N w 89 p 5 10010 0) (f_X11_readsLine_99 fu (mW C F v ar) 123 p 10261586) := by
  obtain ⟨M, rfl⟩ : ∃ M, N = M + 1 + 1 + 1 + 1 + 1 := ⟨N - 5, by omega⟩
  obtain ⟨Mf, hMf⟩ : ∃ M, fu = M + 1 := ⟨fu - 1, by omega⟩
  have hC := G.len
  obtain ⟨i, w1, F1, v1, i0, i1, i2, i3, i4, i5⟩ := argS G (fu := fu) (by omega)
  obtain ⟨w1', x1, x2, x3⟩ := i3.arr (i := 0) (by omega) (nI i)
  obtain ⟨xx, zz, j, w2, Fh, vh, F2, v2, a0, hz, a1, ah, a2, a3, a4, a5⟩ := argB x2 (fu := fu) (by omega)
  obtain ⟨w2', y1, y2, y3⟩ := a3.arr (i := 1) (by omega) xx
  obtain ⟨r1, r2⟩ := shift_rng a0 hz
  -- the sign, as a number
  obtain ⟨s', x, A⟩ : ∃ s' x', ActS s s' x' (fun w => f_X7_shiftBy fu w 1 (nI i) xx) (fun w => mAct fu w 10261586 (nI i) (if zz = 0 then 0 else 1) (nI j) 0 0) := by
    refine act_shift (s := s) (fu := fu) O (by omega) i0 r1 r2 ?_ 0 0
    rcases hz with ⟨q1, q2⟩ | ⟨q1, q2⟩
    · exact Or.inl ⟨if_pos q1, q2⟩
    · exact Or.inr ⟨by rw [if_neg q1]; decide, q2⟩
  obtain ⟨w4, F4, v4, ar4, k1, k2, k3, k4, k5⟩ := line_end (kd := 5) (p := p) y2 (by omega) A (fun w pos k st num fc fp K h90 hs => by
    obtain ⟨q0, q1, q2, q3⟩ := arr4 h90
    obtain ⟨g3, g4, g5, g6, g7, g8, r0, r1, r2⟩ := K.g
    rw [f_X5_act, if_neg (by decide), if_neg (by decide), if_neg (by decide), if_neg (by decide), if_pos rfl, r1, some_bind', r2, some_bind', q0, some_bind', some_bind', q1, some_bind', hs.cl]
    rfl)
  refine ⟨s', _, w4, F4, v4, ar4, ?_, ?_, k3.mono (by omega), (((i4.tr x3).tr a4).tr y3).tr k4, (i5.tr a5).tr k5⟩
  · have e1 := arg_step (k := 10) (N := M + 1 + 1 + 1 + 1) (v1 := p) (v2 := 5) (l := 115) G (by omega) (by decide) (by omega) rfl i1 x1
    have e2 := arg_step (k := 10) (N := M + 1 + 1 + 1) (v1 := p) (v2 := 5) (l := 98) x2 (by omega) (by decide) (by omega) rfl a1 y1
    have e4 := arg_end (fu := fu) (w := w2') (k := 10) (i := 2) (N := M + 1 + 1) (v1 := p) (v2 := 5) (by omega) rfl
    have e5 := d94_no (fu := fu) (w := w2') (N := Mf) (v1 := p) (v2 := 5) (by decide)
    rw [← hMf] at e5
    exact ((e1.trans e2).trans e4).trans (e5.trans k1)
  · have hr : f_X11_readsAct fu (mW C F v ar) 123 10261586 = f_X11_readsAct_115 fu (mW C F2 v2 ar) 123 10261586 (nI i) (if zz = 0 then 0 else 1) (nI j) 0 0 := by
      have t27 : ∀ zq : Int32, f_X11_readsAct_27 fu (mW C Fh vh ar) 123 10261586 (nI i) zq = f_X11_readsAct_115 fu (mW C F2 v2 ar) 123 10261586 (nI i) zq (nI j) 0 0 := by
        intro zq
        rw [f_X11_readsAct_27, bnd_eq, if_neg (by decide), if_neg (by decide), m_cl hC, a2, some_bind', f_X11_readsAct_56, bnd_eq, if_neg (by decide), if_neg (by decide), if_neg (by decide), f_X11_readsAct_97, bnd_eq, if_neg (by decide)]
      rw [f_X11_readsAct, m_cl hC, i2, some_bind', bnd_eq, if_pos (by decide)]
      dsimp only
      rw [m_cl hC, ah, some_bind']
      dsimp only
      by_cases q : zz = 0
      · rw [if_pos q, if_pos q]; exact t27 0
      · rw [if_neg q, if_neg q]; exact t27 1
    rw [r99 hC, hr]
    exact k2
theorem line_move (G : St C T n s f w F v ar) (O : AOK s.1) (hfu : 3000 ≤ fu) {N : Nat} (hN : 10 ≤ N) (p : Int32) : LR C T n w F ar (f_X5_doLine_49 fu N w 89 p 6 10011 0) (f_X11_readsLine_99 fu (mW C F v ar) 123 p 267413) := by
  obtain ⟨M, rfl⟩ : ∃ M, N = M + 1 + 1 + 1 + 1 + 1 := ⟨N - 5, by omega⟩
  obtain ⟨Mf, hMf⟩ : ∃ M, fu = M + 1 := ⟨fu - 1, by omega⟩
  have hC := G.len
  obtain ⟨i, w1, F1, v1, i0, i1, i2, i3, i4, i5⟩ := argS G (fu := fu) (by omega)
  obtain ⟨w1', x1, x2, x3⟩ := i3.arr (i := 0) (by omega) (nI i)
  obtain ⟨a, w2, F2, v2, a0, a1, a2, a3, a4, a5⟩ := argK x2 (fu := fu) (by omega)
  obtain ⟨w2', y1, y2, y3⟩ := a3.arr (i := 1) (by omega) (nI a)
  obtain ⟨c, w3, F3, v3, c0, c1, c2, c3, c4, c5⟩ := argK y2 (fu := fu) (by omega)
  obtain ⟨w3', z1, z2, z3⟩ := c3.arr (i := 2) (by omega) (nI c)
  obtain ⟨d, w5, F5, v5, d0, d1, d2, d3, d4, d5⟩ := argS z2 (fu := fu) (by omega)
  obtain ⟨w5', u1, u2, u3⟩ := d3.arr (i := 3) (by omega) (nI d)
  obtain ⟨s', x, A⟩ := act_move (s := s) (fu := fu) O (by omega) i0 a0 c0 d0 0
  obtain ⟨w4, F4, v4, ar4, k1, k2, k3, k4, k5⟩ := line_end (kd := 6) (p := p) u2 (by omega) A (fun w pos k st num fc fp K h90 hs => by
    obtain ⟨q0, q1, q2, q3⟩ := arr4 h90
    obtain ⟨g3, g4, g5, g6, g7, g8, r0, r1, r2⟩ := K.g
    rw [f_X5_act, if_neg (by decide), if_neg (by decide), if_neg (by decide), if_neg (by decide), if_neg (by decide), if_pos rfl, r1, some_bind', r2, some_bind', q0, some_bind', some_bind', q1, some_bind', some_bind', q2, some_bind', some_bind', q3, some_bind', hs.cl]
    rfl)
  refine ⟨s', _, w4, F4, v4, ar4, ?_, ?_, k3.mono (by omega), (((((((i4.tr x3).tr a4).tr y3).tr c4).tr z3).tr d4).tr u3).tr k4, (((i5.tr a5).tr c5).tr d5).tr k5⟩
  · have e1 := arg_step (k := 11) (N := M + 1 + 1 + 1 + 1) (v1 := p) (v2 := 6) (l := 115) G (by omega) (by decide) (by omega) rfl i1 x1
    have e2 := arg_step (k := 11) (N := M + 1 + 1 + 1) (v1 := p) (v2 := 6) (l := 107) x2 (by omega) (by decide) (by omega) rfl a1 y1
    have e3 := arg_step (k := 11) (N := M + 1 + 1) (v1 := p) (v2 := 6) (l := 107) y2 (by omega) (by decide) (by omega) rfl c1 z1
    have e3b := arg_step (k := 11) (N := M + 1) (v1 := p) (v2 := 6) (l := 115) z2 (by omega) (by decide) (by omega) rfl d1 u1
    have e4 := arg_end (fu := fu) (w := w5') (k := 11) (i := 4) (N := M) (v1 := p) (v2 := 6) (by omega) rfl
    have e5 := d94_no (fu := fu) (w := w5') (N := Mf) (v1 := p) (v2 := 6) (by decide)
    rw [← hMf] at e5
    exact ((((e1.trans e2).trans e3).trans e3b).trans e4).trans (e5.trans k1)
  · have hr : f_X11_readsAct fu (mW C F v ar) 123 267413 = f_X11_readsAct_115 fu (mW C F5 v5 ar) 123 267413 (nI i) 0 (nI a) (nI c) (nI d) := by
      rw [f_X11_readsAct, m_cl hC, i2, some_bind', bnd_eq, if_neg (by decide), f_X11_readsAct_27, bnd_eq, if_neg (by decide), if_neg (by decide), m_cl hC, a2, some_bind', f_X11_readsAct_56, bnd_eq, if_neg (by decide), if_neg (by decide), if_pos (by decide), f_X11_readsAct_89, m_cl hC, c2, some_bind', f_X11_readsAct_97, bnd_eq, if_pos (by decide), m_cl hC, d2, some_bind']
    rw [r99 hC, hr]
    exact k2
end Q
