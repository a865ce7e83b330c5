/-! THE READER: the model's tokens -/
def TP (F : Nat → Int32) (ar : Nat → Nat → Int32) (T : List Nat) : Prop := F 22 = nI T.length ∧ T.length ≤ 800 ∧ (∀ j, j < T.length → ar 1 j = nI (nth T j)) ∧ ∀ b ∈ T, b < 256
def F3 (F F' : Nat → Int32) : Prop := ∀ k, k ≠ 23 → k ≠ 24 → k ≠ 25 → F' k = F k
theorem F3.rf (F : Nat → Int32) : F3 F F := fun _ _ _ _ => rfl
theorem F3.tr {F F1 F2 : Nat → Int32} (h : F3 F F1) (g : F3 F1 F2) : F3 F F2 := fun k a b c => (g k a b c).trans (h k a b c)
theorem F3.up {F F1 : Nat → Int32} (h : F3 F F1) {k : Nat} (x : Int32) (hk : k = 23 ∨ k = 24 ∨ k = 25) : F3 F (upd F1 k x) := fun j a b c => by rw [upd_ne _ _ (by omega)]; exact h j a b c
theorem TP.f3 {F F' : Nat → Int32} {ar : Nat → Nat → Int32} {T : List Nat} (h : TP F ar T) (g : F3 F F') : TP F' ar T := ⟨by rw [g 22 (by omega) (by omega) (by omega)]; exact h.1, h.2⟩
theorem mFr {F : Nat → Int32} {v : Int64} {x : Int32} : (mF F v).set 22 (.int x) = mF (upd F 22 x) v ∧ (mF F v).set 23 (.int x) = mF (upd F 23 x) v ∧ (mF F v).set 24 (.int x) = mF (upd F 24 x) v ∧ (mF F v).set 25 (.int x) = mF (upd F 25 x) v := ⟨rfl, rfl, rfl, rfl⟩
theorem mFv {F : Nat → Int32} {v v' : Int64} : (mF F v).set 26 (.long v') = mF F v' := rfl
theorem c64 : (10 : Int64) = lN 10 ∧ (27 : Int64) = lN 27 ∧ (48 : Int64) = lN 48 ∧ (97 : Int64) = lN 97 ∧ (1 : Int64) = lN 1 ∧ (0 : Int64) = lN 0 := ⟨rfl, rfl, rfl, rfl, rfl, rfl⟩
section Q
variable {C : MW} {F : Nat → Int32} {v : Int64} {ar : Nat → Nat → Int32} {T : List Nat} {fu : Nat}
theorem mby_in (hC : C.length = 123) (h : TP F ar T) {j : Nat} (hj : j < T.length) : f_X11_byteAt (mW C F v ar) 123 (nI j) = some (nI (nth T j)) := by
  have := h.2.1
  rw [f_X11_byteAt, m_gI hC F v ar 22 rfl, some_bind', h.1, if_neg (nI_ge hj (by omega)), m_gR hC F v ar 1 rfl, some_bind', m_a1 hC F v ar (by omega), some_bind', h.2.2.1 j hj]
theorem mby_out (hC : C.length = 123) (h : TP F ar T) {j : Nat} (hj : T.length ≤ j) (hj2 : j < 2 ^ 31) : f_X11_byteAt (mW C F v ar) 123 (nI j) = some (-1) := by
  rw [f_X11_byteAt, m_gI hC F v ar 22 rfl, some_bind', h.1, if_pos (nI_le hj hj2)]
theorem TP.lt (h : TP F ar T) {j : Nat} (hj : j < T.length) : nth T j < 256 := h.2.2.2 _ (nth_mem hj)
theorem mLt {c : Nat} (hc : c < 256) : f_X11_isLetter (nI c) = if isLt c = true then 1 else 0 := cLt hc
theorem mDg {c : Nat} (hc : c < 256) : f_X11_isDigit (nI c) = if isDg c = true then 1 else 0 := cDg hc
theorem mg3 (hC : C.length = 123) : gI (mW C F v ar) 11 123 23 = some (F 23) ∧ gI (mW C F v ar) 11 123 24 = some (F 24) ∧ gI (mW C F v ar) 11 123 25 = some (F 25) ∧ gJ (mW C F v ar) 11 123 26 = some v ∧ gI (mW C F v ar) 11 123 6 = some (F 6) := ⟨m_gI hC F v ar 23 rfl, m_gI hC F v ar 24 rfl, m_gI hC F v ar 25 rfl, m_gJ hC F v ar, m_gI hC F v ar 6 rfl⟩
theorem m_blank (hC : C.length = 123) : ∀ N p F, TP F ar T → F 23 = nI p → p ≤ T.length → T.length - p < N → ∃ F' N', f_X11_takes_0 fu N (mW C F v ar) 123 = f_X11_takes_0 fu (N' + 1) (mW C F' v ar) 123 ∧ F3 F F' ∧ F' 23 = nI (tS T p) := by
  intro N
  induction N with
  | zero => intro p F _ _ _ h; omega
  | succ N ih =>
    intro p F h h23 hp hN
    obtain ⟨g23, g24, g25, g26, g6⟩ := mg3 (F := F) (v := v) (ar := ar) hC
    have hl := h.2.1
    by_cases c : T.length ≤ p
    · exact ⟨F, N, rfl, F3.rf F, by unfold tS; rw [rB_end c]; exact h23⟩
    · by_cases c2 : isBl (nth T p) = true
      · have hp' : p < T.length := by omega
        have q := h.lt hp'
        have go : f_X11_takes_0 fu (N + 1) (mW C F v ar) 123 = f_X11_takes_0 fu N (mW C (upd F 23 (nI (p + 1))) v ar) 123 := by
          have t26 : f_X11_takes_26 fu (f_X11_takes_0 fu N) (mW C F v ar) 123 = f_X11_takes_0 fu N (mW C (upd F 23 (nI (p + 1))) v ar) 123 := by
            rw [f_X11_takes_26, g23, some_bind', h23, nI_1, m_p hC F v ar 23 (by omega) mFr.2.1, some_bind']
          rw [f_X11_takes_0, g23, some_bind', h23, m_cl hC, mby_in hC h hp', some_bind']
          rcases isBl_i.mp c2 with e | e
          · rw [e, if_pos (show nI 32 = (32 : Int32) from rfl)]; exact t26
          · rw [e, if_neg (show ¬ nI 10 = (32 : Int32) by decide), some_bind', m_cl hC, mby_in hC h hp', some_bind', e, if_pos (show nI 10 = (10 : Int32) from rfl)]; exact t26
        obtain ⟨F', N', e1, e2, e3⟩ := ih (p + 1) (upd F 23 (nI (p + 1))) (h.f3 ((F3.rf F).up _ (by omega))) (upd_eq _ _ _) (by omega) (by omega)
        exact ⟨F', N', go.trans e1, ((F3.rf F).up _ (by omega)).tr e2, by unfold tS at e3 ⊢; rw [rB_go hp' c2]; exact e3⟩
      · exact ⟨F, N, rfl, F3.rf F, by unfold tS; rw [rB_no (by omega) c2]; exact h23⟩
/-- a word's number, as the model keeps it -/
def hV (T : List Nat) (z n : Nat) : Int64 := if n ≤ 9 then lN (hsR T z n) else -1
theorem m_word (hC : C.length = 123) {z : Nat} : ∀ N p F v, TP F ar T → F 23 = nI p → F 25 = nI z → z ≤ p → p ≤ T.length → T.length - p < N → v = hV T z (p - z) → ∃ F', f_X11_takes_80 fu N (mW C F v ar) 123 = some (mW C F' (hV T z (rB T isLt p - z)) ar) ∧ F3 F F' ∧ F' 23 = nI (rB T isLt p) ∧ F' 24 = 1 ∧ F' 25 = nI z := by
  intro N
  induction N with
  | zero => intro p F v _ _ _ _ _ h; omega
  | succ N ih =>
    intro p F v h h23 h25 hz hp hN hv
    obtain ⟨g23, g24, g25, g26, g6⟩ := mg3 (F := F) (v := v) (ar := ar) hC
    have hl := h.2.1
    have stop : rB T isLt p = p → ∃ F', (pV (mW C F v ar) 11 123 24 (.int (1 : Int32))).bind (fun w45 => some w45) = some (mW C F' (hV T z (rB T isLt p - z)) ar) ∧ F3 F F' ∧ F' 23 = nI (rB T isLt p) ∧ F' 24 = 1 ∧ F' 25 = nI z := by
      intro e
      rw [m_p hC F v ar 24 (by omega) mFr.2.2.1, some_bind', e, ← hv]
      exact ⟨_, rfl, (F3.rf F).up _ (by omega), by rw [upd_ne _ _ (by omega)]; exact h23, upd_eq _ _ _, by rw [upd_ne _ _ (by omega)]; exact h25⟩
    rw [f_X11_takes_80, g23, some_bind', h23, m_cl hC]
    by_cases c : T.length ≤ p
    · rw [mby_out hC h c (by omega), some_bind', if_pos (by decide)]
      exact stop (rB_end c)
    · have hp' : p < T.length := by omega
      have q := h.lt hp'
      rw [mby_in hC h hp', some_bind', mLt q]
      by_cases c2 : isLt (nth T p) = true
      · have c3 := isLt_i.mp c2
        have step : ∀ x : Int64, x = hV T z (p + 1 - z) → ∃ F', f_X11_takes_139 fu (f_X11_takes_80 fu N) (mW C F v ar) 123 123 x = some (mW C F' (hV T z (rB T isLt p - z)) ar) ∧ F3 F F' ∧ F' 23 = nI (rB T isLt p) ∧ F' 24 = 1 ∧ F' 25 = nI z := by
          intro x hx
          rw [f_X11_takes_139, m_p hC F v ar 26 (by omega) mFv, some_bind', m_gI hC F x ar 23 rfl, some_bind', h23, nI_1, m_p hC F x ar 23 (by omega) mFr.2.1, some_bind']
          obtain ⟨F', e1, e2, e3, e4, e5⟩ := ih (p + 1) (upd F 23 (nI (p + 1))) x (h.f3 ((F3.rf F).up _ (by omega))) (upd_eq _ _ _) (by rw [upd_ne _ _ (by omega)]; exact h25) (by omega) (by omega) (by omega) hx
          rw [rB_go hp' c2]
          exact ⟨F', e1, ((F3.rf F).up _ (by omega)).tr e2, e3, e4, e5⟩
        rw [if_pos c2, if_neg (by decide), some_bind', g25, some_bind', h25, nI_sub hz]
        by_cases c9 : 9 ≤ p - z
        · rw [if_pos (show (9 : Int32) ≤ nI (p - z) from nI_le (a := 9) c9 (by omega))]
          exact step _ (by unfold hV; rw [if_neg (by omega)])
        · rw [if_neg (show ¬ (9 : Int32) ≤ nI (p - z) from nI_ge (b := 9) (by omega) (by omega)), g26, some_bind', some_bind', m_cl hC, mby_in hC h hp', some_bind']
          refine step _ ?_
          rw [hv]
          unfold hV
          rw [if_pos (by omega), if_pos (by omega), show p + 1 - z = (p - z) + 1 by omega, hsR, show z + (p - z) = p by omega, nI_l (by omega), c64.2.1, lN_mul, lN_add, c64.2.2.2.1, lN_sub (by omega), lN_1]
          congr 1
          omega
      · rw [if_neg c2, if_pos rfl]
        exact stop (rB_no hp' c2)
theorem m_num (hC : C.length = 123) {z : Nat} : ∀ N p F v, TP F ar T → F 23 = nI p → F 25 = nI z → z ≤ p → p ≤ T.length → T.length - p < N → (p - z ≤ 4 → v = lN (nvR T z (p - z))) → ∃ F' v', f_X11_takes_170 fu N (mW C F v ar) 123 = some (mW C F' v' ar) ∧ F3 F F' ∧ F' 23 = nI (rB T isDg p) ∧ F' 24 = (if rB T isDg p - z ≤ 4 then 2 else 4) ∧ F' 25 = nI z ∧ (rB T isDg p - z ≤ 4 → v' = lN (nvR T z (rB T isDg p - z))) := by
  intro N
  induction N with
  | zero => intro p F v _ _ _ _ _ h; omega
  | succ N ih =>
    intro p F v h h23 h25 hz hp hN hv
    obtain ⟨g23, g24, g25, g26, g6⟩ := mg3 (F := F) (v := v) (ar := ar) hC
    have hl := h.2.1
    have stop : rB T isDg p = p → ∃ F' v', (gI (mW C F v ar) 11 123 23).bind (fun x27 => (gI (mW C F v ar) 11 123 25).bind fun x28 => if (x27 - x28) ≤ (4 : Int32) then f_X11_takes_262 fu (mW C F v ar) 123 (2 : Int32) else f_X11_takes_262 fu (mW C F v ar) 123 (4 : Int32)) = some (mW C F' v' ar) ∧ F3 F F' ∧ F' 23 = nI (rB T isDg p) ∧ F' 24 = (if rB T isDg p - z ≤ 4 then 2 else 4) ∧ F' 25 = nI z ∧ (rB T isDg p - z ≤ 4 → v' = lN (nvR T z (rB T isDg p - z))) := by
      intro e
      rw [g23, some_bind', g25, some_bind', h23, h25, nI_sub hz, e]
      by_cases c4 : p - z ≤ 4
      · rw [if_pos (show nI (p - z) ≤ (4 : Int32) from nI_le (b := 4) c4 (by omega)), if_pos c4, f_X11_takes_262, m_p hC F v ar 24 (by omega) mFr.2.2.1, some_bind']
        exact ⟨_, _, rfl, (F3.rf F).up _ (by omega), by rw [upd_ne _ _ (by omega)]; exact h23, upd_eq _ _ _, by rw [upd_ne _ _ (by omega)]; exact h25, fun _ => hv c4⟩
      · rw [if_neg (show ¬ nI (p - z) ≤ (4 : Int32) from nI_ge (a := 4) (by omega) (by omega)), if_neg c4, f_X11_takes_262, m_p hC F v ar 24 (by omega) mFr.2.2.1, some_bind']
        exact ⟨_, _, rfl, (F3.rf F).up _ (by omega), by rw [upd_ne _ _ (by omega)]; exact h23, upd_eq _ _ _, by rw [upd_ne _ _ (by omega)]; exact h25, fun q => absurd q c4⟩
    rw [f_X11_takes_170]
    by_cases c : T.length ≤ p
    · have s := stop (rB_end c)
      rw [g23, some_bind', h23, m_cl hC, mby_out hC h c (by omega), some_bind', if_pos (by decide)]
      rw [g23, h23] at s
      exact s
    · have hp' : p < T.length := by omega
      have q := h.lt hp'
      by_cases c2 : isDg (nth T p) = true
      · have c3 := isDg_i.mp c2
        have step : ∀ x : Int64, (p + 1 - z ≤ 4 → x = lN (nvR T z (p + 1 - z))) → ∃ F' v', f_X11_takes_227 fu (f_X11_takes_170 fu N) (mW C F v ar) 123 123 x = some (mW C F' v' ar) ∧ F3 F F' ∧ F' 23 = nI (rB T isDg p) ∧ F' 24 = (if rB T isDg p - z ≤ 4 then 2 else 4) ∧ F' 25 = nI z ∧ (rB T isDg p - z ≤ 4 → v' = lN (nvR T z (rB T isDg p - z))) := by
          intro x hx
          rw [f_X11_takes_227, m_p hC F v ar 26 (by omega) mFv, some_bind', m_gI hC F x ar 23 rfl, some_bind', h23, nI_1, m_p hC F x ar 23 (by omega) mFr.2.1, some_bind']
          obtain ⟨F', v', e1, e2, e3, e4, e5, e6⟩ := ih (p + 1) (upd F 23 (nI (p + 1))) x (h.f3 ((F3.rf F).up _ (by omega))) (upd_eq _ _ _) (by rw [upd_ne _ _ (by omega)]; exact h25) (by omega) (by omega) (by omega) hx
          rw [rB_go hp' c2]
          exact ⟨F', v', e1, ((F3.rf F).up _ (by omega)).tr e2, e3, e4, e5, e6⟩
        rw [g23, some_bind', h23, m_cl hC, mby_in hC h hp', some_bind', mDg q, if_pos c2, if_neg (by decide), some_bind', g25, some_bind', h25, nI_sub hz]
        by_cases c9 : 4 ≤ p - z
        · rw [if_pos (show (4 : Int32) ≤ nI (p - z) from nI_le (a := 4) c9 (by omega)), g26, some_bind']
          exact step _ (fun q => by omega)
        · rw [if_neg (show ¬ (4 : Int32) ≤ nI (p - z) from nI_ge (b := 4) (by omega) (by omega)), g26, some_bind', some_bind', m_cl hC, mby_in hC h hp', some_bind']
          refine step _ (fun _ => ?_)
          rw [hv (by omega), show p + 1 - z = (p - z) + 1 by omega, nvR, show z + (p - z) = p by omega, nI_l (by omega), c64.1, lN_mul, lN_add, c64.2.2.1, lN_sub (by omega)]
          congr 1
          omega
      · have s := stop (rB_no hp' c2)
        rw [g23, some_bind', h23, m_cl hC, mby_in hC h hp', some_bind', mDg q, if_neg c2, if_pos rfl]
        rw [g23, h23] at s
        exact s
/-- what the model keeps of a token -/
def tV (T : List Nat) (z : Nat) (v : Int64) : Prop := (tM T z = 1 → v = hV T z (tE T z - z) ∧ z < T.length ∧ ∀ j, z ≤ j → j < tE T z → isLt (nth T j) = true) ∧ (tM T z = 2 → v = lN (nvR T z (tE T z - z))) ∧ (tM T z = 3 → v = lN (nth T z))
theorem takes_ok (hC : C.length = 123) (hfu : 1000 ≤ fu) (h : TP F ar T) {p : Nat} (h23 : F 23 = nI p) (hp : p ≤ T.length) : ∃ F' v', f_X11_takes fu (mW C F v ar) 123 = some (mW C F' v' ar) ∧ F3 F F' ∧ F' 23 = nI (tE T (tS T p)) ∧ F' 24 = tM T (tS T p) ∧ F' 25 = nI (tS T p) ∧ tV T (tS T p) v' := by
  have hl := h.2.1
  obtain ⟨F1, N, a1, a2, a3⟩ := m_blank (fu := fu) (v := v) hC fu p F h h23 hp (by omega)
  have hb := tS_b hp
  have nb : tS T p < T.length → ¬ isBl (nth T (tS T p)) = true := by
    intro q1 q2
    have e : rB T isBl (tS T p) = tS T p + 0 := by
      have aux : ∀ m p, rB T isBl p = p + m → p ≤ T.length → rB T isBl (rB T isBl p) = rB T isBl p := by
        intro m
        induction m with
        | zero => intro p e _; rw [e]; exact e
        | succ m ih =>
          intro p e hp
          by_cases c1 : p < T.length
          · by_cases c2 : isBl (nth T p) = true
            · rw [rB_go c1 c2] at e ⊢
              exact ih (p + 1) (by omega) (by omega)
            · rw [rB_no c1 c2] at e; omega
          · rw [rB_end (by omega)] at e; omega
      have hh := rB_b (q := isBl) hp
      exact aux (rB T isBl p - p) p (by omega) hp
    rw [rB_go q1 q2] at e
    have := (rB_b (T := T) (q := isBl) (p := tS T p + 1) (by omega)).1
    omega
  generalize tS T p = z at *
  have T1 := h.f3 a2
  obtain ⟨g23, g24, g25, g26, g6⟩ := mg3 (F := F1) (v := v) (ar := ar) hC
  rw [f_X11_takes, a1, f_X11_takes_0, g23, some_bind', a3, m_cl hC]
  have T2 : TP (upd F1 25 (nI z)) ar T := T1.f3 ((F3.rf F1).up _ (by omega))
  have F2 : F3 F (upd F1 25 (nI z)) := a2.up _ (by omega)
  have y23 : (upd F1 25 (nI z)) 23 = nI z := by rw [upd_ne _ _ (by omega)]; exact a3
  have y25 : (upd F1 25 (nI z)) 25 = nI z := upd_eq _ _ _
  by_cases c0 : T.length ≤ z
  · have e1 : tE T z = z := by unfold tE; rw [if_pos c0]
    have e2 : tM T z = 0 := by unfold tM; rw [if_pos c0]
    rw [mby_out hC T1 c0 (by omega), some_bind', if_neg (by decide), some_bind', m_cl hC, mby_out hC T1 c0 (by omega), some_bind', if_neg (by decide), some_bind', m_p hC F1 v ar 25 (by omega) mFr.2.2.2, some_bind', m_gI hC _ v ar 23 rfl, some_bind', y23, m_cl hC, mby_out hC T2 c0 (by omega), some_bind', bnd_eq, m_p hC _ v ar 26 (by omega) mFv, some_bind', if_neg (by decide), m_p hC _ _ ar 24 (by omega) mFr.2.2.1, some_bind']
    unfold tV
    rw [e1, e2]
    exact ⟨_, _, rfl, F2.up _ (by omega), by rw [upd_ne _ _ (by omega)]; exact y23, upd_eq _ _ _, by rw [upd_ne _ _ (by omega)]; exact y25, fun q => absurd q (by decide), fun q => absurd q (by decide), fun q => absurd q (by decide)⟩
  · have hz : z < T.length := by omega
    have hc := h.lt hz
    have nb' := nb hz
    rw [isBl_i] at nb'
    rw [mby_in hC T1 hz, some_bind', if_neg (show ¬ nI (nth T z) = (32 : Int32) from fun e => nb' (Or.inl ((nI_eq (b := 32) (by omega) (by omega)).mp e))), some_bind', m_cl hC, mby_in hC T1 hz, some_bind', if_neg (show ¬ nI (nth T z) = (10 : Int32) from fun e => nb' (Or.inr ((nI_eq (b := 10) (by omega) (by omega)).mp e))), some_bind', m_p hC F1 v ar 25 (by omega) mFr.2.2.2, some_bind', m_gI hC _ v ar 23 rfl, some_bind', y23, m_cl hC, mby_in hC T2 hz, some_bind', bnd_eq, m_p hC _ v ar 26 (by omega) mFv, some_bind', if_pos (nI_pos' (by omega)), mLt hc]
    by_cases c1 : isLt (nth T z) = true
    · have e1 : tE T z = rB T isLt z := by unfold tE; rw [if_neg c0, if_pos c1]
      have e2 : tM T z = 1 := by unfold tM; rw [if_neg c0, if_pos c1]
      obtain ⟨F', k1, k2, k3, k4, k5⟩ := m_word (fu := fu) hC (z := z) fu z (upd F1 25 (nI z)) 0 T2 y23 y25 (by omega) (by omega) (by omega) (by rw [Nat.sub_self]; rfl)
      rw [if_pos c1, if_neg (by decide)]
      unfold tV
      rw [e1, e2]
      exact ⟨F', _, k1, F2.tr k2, k3, k4, k5, fun _ => ⟨rfl, hz, (rB_b (by omega)).2.2⟩, fun q => absurd q (by decide), fun q => absurd q (by decide)⟩
    · rw [if_neg c1, if_pos rfl, mDg hc]
      by_cases c2 : isDg (nth T z) = true
      · have e1 : tE T z = rB T isDg z := by unfold tE; rw [if_neg c0, if_neg c1, if_pos c2]
        have e2 : tM T z = if tE T z - z ≤ 4 then 2 else 4 := by unfold tM; rw [if_neg c0, if_neg c1, if_pos c2]
        obtain ⟨F', v', k1, k2, k3, k4, k5, k6⟩ := m_num (fu := fu) hC (z := z) fu z (upd F1 25 (nI z)) 0 T2 y23 y25 (by omega) (by omega) (by omega) (fun _ => by rw [Nat.sub_self]; rfl)
        rw [if_pos c2, if_neg (by decide)]
        unfold tV
        rw [e2, e1]
        refine ⟨F', v', k1, F2.tr k2, k3, k4, k5, fun q => ?_, fun q => ?_, fun q => ?_⟩
        · exfalso; revert q; split <;> decide
        · by_cases c4 : rB T isDg z - z ≤ 4
          · exact k6 c4
          · rw [if_neg c4] at q; exact absurd q (by decide)
        · exfalso; revert q; split <;> decide
      · have e1 : tE T z = z + 1 := by unfold tE; rw [if_neg c0, if_neg c1, if_neg c2]
        have e2 : tM T z = if nth T z = 59 then 3 else if nth T z = 45 then 3 else 4 := by unfold tM; rw [if_neg c0, if_neg c1, if_neg c2]
        have fin : ∀ x : Int32, tM T z = x → (x = 3 ∨ x = 4) → ∃ F' v', f_X11_takes_302 fu (mW C (upd (upd F1 25 (nI z)) 23 (nI (z + 1))) (lN (nth T z)) ar) 123 x = some (mW C F' v' ar) ∧ F3 F F' ∧ F' 23 = nI (tE T z) ∧ F' 24 = tM T z ∧ F' 25 = nI z ∧ tV T z v' := by
          intro x hx hx2
          rw [f_X11_takes_302, m_p hC _ _ ar 24 (by omega) mFr.2.2.1, some_bind', e1]
          unfold tV
          rw [hx]
          exact ⟨_, _, rfl, (F2.up _ (by omega)).up _ (by omega), by rw [upd_ne _ _ (by omega), upd_eq], upd_eq _ _ _, by rw [upd_ne _ _ (by omega), upd_ne _ _ (by omega)]; exact y25, fun q => by rcases hx2 with e | e <;> rw [e] at q <;> exact absurd q (by decide), fun q => by rcases hx2 with e | e <;> rw [e] at q <;> exact absurd q (by decide), fun _ => rfl⟩
        rw [if_neg c2, if_pos rfl, m_gI hC _ _ ar 23 rfl, some_bind', y23, nI_1, m_p hC _ _ ar 23 (by omega) mFr.2.1, some_bind', m_p hC _ _ ar 26 (by omega) mFv, some_bind', nI_l (by omega)]
        by_cases c3 : nth T z = 59
        · rw [if_pos (show nI (nth T z) = (59 : Int32) by rw [c3]; rfl)]
          exact fin 3 (by rw [e2, if_pos c3]) (Or.inl rfl)
        · rw [if_neg (show ¬ nI (nth T z) = (59 : Int32) from fun e => c3 ((nI_eq (b := 59) (by omega) (by omega)).mp e))]
          by_cases c4 : nth T z = 45
          · rw [if_pos (show nI (nth T z) = (45 : Int32) by rw [c4]; rfl)]
            exact fin 3 (by rw [e2, if_neg c3, if_pos c4]) (Or.inl rfl)
          · rw [if_neg (show ¬ nI (nth T z) = (45 : Int32) from fun e => c4 ((nI_eq (b := 45) (by omega) (by omega)).mp e))]
            exact fin 4 (by rw [e2, if_neg c3, if_neg c4]) (Or.inr rfl)
end Q
