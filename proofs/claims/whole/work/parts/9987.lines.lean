/-! THE READER: the six kinds of act -/
def LR (C : MW) (T : List Nat) (n : Nat) (w : MW) (F : Nat → Int32) (ar : Nat → Nat → Int32) (p q : Option MW) : Prop := ∃ s' f' w' F' v' ar', p = some w' ∧ q = some (mW C F' v' ar') ∧ St C T n s' f' w' F' v' ar' ∧ Chg cks w w' ∧ FM F ar F' ar'
theorem arr4 {w : MW} {f : Nat → Int32} (h : w[90]? = some (.inl (.int, 4, .inl f))) : aI w .int 90 0 = some (f 0) ∧ aI w .int 90 1 = some (f 1) ∧ aI w .int 90 2 = some (f 2) ∧ aI w .int 90 3 = some (f 3) := ⟨aI_ar (j := 0) h (by omega) (by omega), aI_ar (j := 1) h (by omega) (by omega), aI_ar (j := 2) h (by omega) (by omega), aI_ar (j := 3) h (by omega) (by omega)⟩
section Q
variable {C : MW} {T : List Nat} {z n : Nat} {s : AS} {f : Nat → Int32} {w : MW} {F : Nat → Int32} {v : Int64} {ar : Nat → Nat → Int32} {fu : Nat}
theorem r99 (hC : C.length = 123) {p : Int32} {v1 : Int64} : f_X11_readsLine_99 fu (mW C F v ar) 123 p v1 = tail99 (f_X11_readsAct fu (mW C F v ar) 123 v1) p := by
  rw [f_X11_readsLine_99, m_cl hC]; rfl
theorem line_mark (G : St C T n s f w F v ar) (O : AOK s.1) (hfu : 3000 ≤ fu) {N : Nat} (hN : 10 ≤ N) (p : Int32) : LR C T n w F ar (f_X5_doLine_49 fu N w 89 p 1 10008 0) (f_X11_readsLine_99 fu (mW C F v ar) 123 p 257105) := by
  obtain ⟨M, rfl⟩ : ∃ M, N = M + 1 + 1 + 1 + 1 + 1 := ⟨N - 5, by omega⟩
  obtain ⟨Mf, hMf⟩ : ∃ M, fu = M + 1 := ⟨fu - 1, by omega⟩
  have hC := G.len
  obtain ⟨i, w1, F1, v1, i0, i1, i2, i3, i4, i5⟩ := argS G (fu := fu) (by omega)
  obtain ⟨w1', x1, x2, x3⟩ := i3.arr (i := 0) (by omega) (nI i)
  obtain ⟨a, w2, F2, v2, a0, a1, a2, a3, a4, a5⟩ := argK x2 (fu := fu) (by omega)
  obtain ⟨w2', y1, y2, y3⟩ := a3.arr (i := 1) (by omega) (nI a)
  obtain ⟨c, w3, F3, v3, c0, c1, c2, c3, c4, c5⟩ := argK y2 (fu := fu) (by omega)
  obtain ⟨w3', z1, z2, z3⟩ := c3.arr (i := 2) (by omega) (nI c)
  obtain ⟨s', x, A⟩ := act_mark (s := s) (fu := fu) O (by omega) i0 a0 c0 0 0
  obtain ⟨w4, F4, v4, ar4, k1, k2, k3, k4, k5⟩ := line_end (kd := 1) (p := p) z2 (by omega) A (fun w pos k st num fc fp K h90 hs => by
    obtain ⟨q0, q1, q2, q3⟩ := arr4 h90
    obtain ⟨g3, g4, g5, g6, g7, g8, r0, r1, r2⟩ := K.g
    rw [f_X5_act, if_pos rfl, r1, some_bind', r2, some_bind', q0, some_bind', some_bind', q1, some_bind', some_bind', q2, some_bind', hs.cl]
    rfl)
  refine ⟨s', _, w4, F4, v4, ar4, ?_, ?_, k3.mono (by omega), (((((i4.tr x3).tr a4).tr y3).tr c4).tr z3).tr k4, ((i5.tr a5).tr c5).tr k5⟩
  · have e1 := arg_step (k := 8) (N := M + 1 + 1 + 1 + 1) (v1 := p) (v2 := 1) (l := 115) G (by omega) (by decide) (by omega) rfl i1 x1
    have e2 := arg_step (k := 8) (N := M + 1 + 1 + 1) (v1 := p) (v2 := 1) (l := 107) x2 (by omega) (by decide) (by omega) rfl a1 y1
    have e3 := arg_step (k := 8) (N := M + 1 + 1) (v1 := p) (v2 := 1) (l := 107) y2 (by omega) (by decide) (by omega) rfl c1 z1
    have e4 := arg_end (fu := fu) (w := w3') (k := 8) (i := 3) (N := M + 1) (v1 := p) (v2 := 1) (by omega) rfl
    have e5 := d94_no (fu := fu) (w := w3') (N := Mf) (v1 := p) (v2 := 1) (by decide)
    rw [← hMf] at e5
    exact (((e1.trans e2).trans e3).trans e4).trans (e5.trans k1)
  · have hr : f_X11_readsAct fu (mW C F v ar) 123 257105 = f_X11_readsAct_115 fu (mW C F3 v3 ar) 123 257105 (nI i) 0 (nI a) (nI c) 0 := by
      rw [f_X11_readsAct, m_cl hC, i2, some_bind', bnd_eq, if_neg (by decide), f_X11_readsAct_27, bnd_eq, if_neg (by decide), if_neg (by decide), m_cl hC, a2, some_bind', f_X11_readsAct_56, bnd_eq, if_neg (by decide), if_pos (by decide), f_X11_readsAct_89, m_cl hC, c2, some_bind', f_X11_readsAct_97, bnd_eq, if_neg (by decide)]
    rw [r99 hC, hr]
    exact k2
end Q
