/-! TEXT -/
def asE : AS := (fun _ => [], fun _ => -1)
theorem asE_ok : AOK asE.1 ∧ FOK asE := by
  refine ⟨⟨fun i _ => ⟨List.Pairwise.nil, fun e he => by simp [asE] at he, by simp [asE]⟩, ?_⟩, fun i _ => Or.inl rfl⟩
  decide
theorem cempty_loop {fu : Nat} : ∀ N i w (hs : Nat → List Nat) (fg : Nat → Int32), CS w hs fg → (∀ t, t < i → hs t = [] ∧ fg t = -1) → i ≤ 8 → 8 - i < N → ∃ w', f_X7_empty_2 fu N w 1 (nI i) = some w' ∧ CS w' asE.1 asE.2 ∧ Chg hpl w w' := by
  intro N
  induction N with
  | zero => intro i w hs fg _ _ _ h; omega
  | succ N ih =>
    intro i w hs fg h ht hi hN
    rw [f_X7_empty_2]
    by_cases c : 8 ≤ i
    · rw [if_pos (show (8 : Int32) ≤ nI i from nI_le (a := 8) c (by omega))]
      refine ⟨w, rfl, ⟨h.1, h.2.1, fun q hq => ?_⟩, Chg.rf _ _⟩
      have := h.2.2 q hq
      rw [(ht q (by omega)).1, (ht q (by omega)).2] at this
      exact this
    · have hi8 : i < 8 := by omega
      obtain ⟨w1, a1, a2, a3⟩ := empty_ok (h.ha hi8)
      have h1 := h.put hi8 a2 (a3.mono (fun k hk => by simp at hk ⊢; omega))
      obtain ⟨w2, b1, b2, b3⟩ := ih (i + 1) w1 _ _ h1 (fun t ht' => by
        by_cases e : t = i
        · rw [e, vu_eq, vu_eq]; exact ⟨rfl, rfl⟩
        · rw [vu_ne _ _ e, vu_ne _ _ e]; exact ht t (by omega)) (by omega) (by omega)
      refine ⟨w2, ?_, b2, (a3.mono (fun k hk => by simp at hk; subst hk; unfold hpl; simp; omega)).tr b3⟩
      rw [if_neg (show ¬ (8 : Int32) ≤ nI i from nI_ge (b := 8) hi8 (by omega)), h.arr, some_bind', h.heap hi8, some_bind', (h.ha hi8).cl, a1, some_bind', bnd_eq, nI_1, b1]
theorem cempty_ok {fu : Nat} (hfu : 100 ≤ fu) {w : MW} {hs : Nat → List Nat} {fg : Nat → Int32} (h : CS w hs fg) : ∃ w', f_X7_empty fu w 1 = some w' ∧ CS w' asE.1 asE.2 ∧ Chg hpl w w' := by
  rw [f_X7_empty, bnd_eq]
  exact cempty_loop fu 0 w hs fg h (fun t ht => by omega) (by omega) (by omega)
section Q
variable {C : MW} {F : Nat → Int32} {v : Int64} {fu : Nat}
theorem mempt2 (hC : C.length = 123) : ∀ N k ar, k ≤ 8 → 8 - k < N → ∃ al, f_X11_empties_26 fu N (mW C F v ar) 123 (nI 976) (nI k) = some (mW C F v (ua ar 0 al)) ∧ (∀ i, k ≤ i → i < 8 → al (976 + 122 * i + 1) = -1) ∧ ∀ q, (∀ i, k ≤ i → i < 8 → q ≠ 976 + 122 * i + 1) → al q = ar 0 q := by
  intro N
  induction N with
  | zero => intro k ar _ h; omega
  | succ N ih =>
    intro k ar hk hN
    rw [f_X11_empties_26]
    by_cases c : 8 ≤ k
    · rw [if_pos (show (8 : Int32) ≤ nI k from nI_le (a := 8) c (by omega))]
      exact ⟨ar 0, by rw [ua_self], fun i h1 h2 => by omega, fun _ _ => rfl⟩
    · obtain ⟨al, a1, a2, a3⟩ := ih (k + 1) (ua ar 0 (upd (ar 0) (976 + 122 * k + 1) (-1))) (by omega) (by omega)
      refine ⟨al, ?_, fun i h1 h2 => ?_, fun q hq => ?_⟩
      · rw [if_neg (show ¬ (8 : Int32) ≤ nI k from nI_ge (b := 8) (by omega) (by omega)), m_gR hC F v ar 0 rfl, some_bind', show (122 : Int32) = nI 122 from rfl, nI_mul, nI_add, nI_1, m_s0 hC F v ar _ (by omega), some_bind', bnd_eq, nI_1, a1, ua_ua]
      · by_cases e : i = k
        · rw [e, a3 _ (fun i' q1 q2 => by omega), ua_eq, upd_eq]
        · exact a2 i (by omega) h2
      · rw [a3 q (fun i q1 q2 => hq i (by omega) q2), ua_eq, upd_ne _ _ (hq k (by omega) (by omega))]
theorem mempt1 (hC : C.length = 123) : ∀ N k ar, k ≤ 976 → 976 - k < N → ∃ al, f_X11_empties_2 fu N (mW C F v ar) 123 (nI 976) (nI k) = f_X11_empties_26 fu fu (mW C F v (ua ar 0 al)) 123 (nI 976) (nI 0) ∧ (∀ q, 976 + k ≤ q → q < 1952 → al q = 0) ∧ ∀ q, q < 976 + k ∨ 1952 ≤ q → al q = ar 0 q := by
  intro N
  induction N with
  | zero => intro k ar _ h; omega
  | succ N ih =>
    intro k ar hk hN
    rw [f_X11_empties_2]
    by_cases c : 976 ≤ k
    · rw [if_pos (show (976 : Int32) ≤ nI k from nI_le (a := 976) c (by omega)), bnd_eq]
      exact ⟨ar 0, by rw [ua_self]; rfl, fun q h1 h2 => by omega, fun _ _ => rfl⟩
    · obtain ⟨al, a1, a2, a3⟩ := ih (k + 1) (ua ar 0 (upd (ar 0) (976 + k) 0)) (by omega) (by omega)
      refine ⟨al, ?_, fun q h1 h2 => ?_, fun q hq => ?_⟩
      · rw [if_neg (show ¬ (976 : Int32) ≤ nI k from nI_ge (b := 976) (by omega) (by omega)), m_gR hC F v ar 0 rfl, some_bind', nI_add, m_s0 hC F v ar _ (by omega), some_bind', bnd_eq, nI_1, a1, ua_ua]
      · by_cases e : q = 976 + k
        · rw [e, a3 _ (by omega), ua_eq, upd_eq]
        · exact a2 q (by omega) h2
      · rw [a3 q (by omega), ua_eq, upd_ne _ _ (by omega)]
theorem mempties_ok (hC : C.length = 123) (hfu : 2000 ≤ fu) (ar : Nat → Nat → Int32) : ∃ al, f_X11_empties fu (mW C F v ar) 123 976 = some (mW C F v (ua ar 0 al)) ∧ M8 al 976 asE ∧ ∀ q, q < 976 ∨ 1952 ≤ q → al q = ar 0 q := by
  obtain ⟨a1, e1, e2, e3⟩ := mempt1 (F := F) (v := v) (fu := fu) hC fu 0 ar (by omega) (by omega)
  obtain ⟨a2, d1, d2, d3⟩ := mempt2 (F := F) (v := v) (fu := fu) hC fu 0 (ua ar 0 a1) (by omega) (by omega)
  refine ⟨a2, ?_, fun i hi => ⟨?_, d2 i (by omega) hi, fun j hj => by simp [asE] at hj⟩, fun q hq => ?_⟩
  · rw [f_X11_empties, bnd_eq]
    rw [ua_ua] at d1
    exact e1.trans d1
  · rw [d3 _ (fun i' _ h2 => by omega), ua_eq, e2 _ (by omega) (by omega)]; rfl
  · rw [d3 q (fun i' _ h2 => by omega), ua_eq, e3 q (by omega)]
end Q
section Q
variable {C : MW} {T : List Nat} {w : MW} {F : Nat → Int32} {v : Int64} {ar : Nat → Nat → Int32} {fu : Nat}
/-- both readings, from an emptied store -/
theorem text_run (hfu : 20000 ≤ fu) {pos k st num fc fp : Int32} {f : Nat → Int32} (K : SK w T pos k st num fc fp) (h : CS w asE.1 asE.2) (Z : Sc w) (h90 : w[90]? = some (.inl (.int, 4, .inl f))) (h4 : F 4 = nI T.length) (hT : ∀ j, j < T.length → ar 1 j = nI (nth T j)) (hC : C.length = 123) : ∃ s' f' w' F' v' ar', f_X5_perform fu w 89 = some w' ∧ f_X11_text fu (mW C F v ar) 123 = f_X11_text_67 fu (mW C F' v' ar') 123 ∧ St C T 0 s' f' w' F' v' ar' ∧ Chg cks w w' ∧ F' 4 = 0 ∧ F' 9 = nI 976 ∧ (∀ k, k ≠ 4 → k ≠ 6 → k ≠ 7 → k ≠ 9 → k ≠ 22 → k ≠ 23 → k ≠ 24 → k ≠ 25 → F' k = F k) ∧ (∀ k, k ≠ 0 → ar' k = ar k) ∧ ∀ q, q < 976 ∨ 1952 ≤ q → ar' 0 q = ar 0 q := by
  obtain ⟨a1, a2⟩ := K.to 0 k st num fc fp
  obtain ⟨b1, b2⟩ := a1.to 0 k st num 0 fp
  obtain ⟨c1, c2⟩ := b1.to 0 k st num 0 (-1)
  have c3 := (a2.tr b2).tr c2
  obtain ⟨w1, num1, d1, d2, d3, d4⟩ := advance_ok (fu := fu) (p := 0) (by omega) (show SK _ T (nI 0) _ _ _ _ _ from c1) (by omega)
  have ch := c3.tr d4
  obtain ⟨al, e1, e2, e3⟩ := mempties_ok (C := C) (F := upd (upd (upd (upd (upd F 22 (nI T.length)) 4 0) 6 0) 7 (-1)) 23 0) (v := v) (fu := fu) hC (by omega) ar
  have P : TP (upd (upd (upd (upd (upd (upd F 22 (nI T.length)) 4 0) 6 0) 7 (-1)) 23 0) 9 976) (ua ar 0 al) T := ⟨by rw [upd_ne _ _ (by omega), upd_ne _ _ (by omega), upd_ne _ _ (by omega), upd_ne _ _ (by omega), upd_ne _ _ (by omega), upd_eq], K.2.2.1, fun j hj => by rw [ua_ne _ _ (by omega)]; exact hT j hj, K.2.2.2.1⟩
  obtain ⟨F1, v1, g1, g2, g3, g4, g5, g6⟩ := takes_ok (v := v) (fu := fu) hC (by omega) P (p := 0) (by rw [upd_ne _ _ (by omega), upd_eq]; rfl) (by omega)
  have G : GG C T (tS T 0) asE f w1 F1 v1 (ua ar 0 al) := ⟨(tS_b (by omega)).2, ⟨num1, d2, d3⟩, h.chg ch (fun k hk => by simp at hk; omega), asE_ok.1, Z.chg ch (fun k hk => by simp at hk; omega), asE_ok.2, ch.at (by simp) h90, P.f3 g2, g3, g4, g5, g6, by rw [g2 6 (by omega) (by omega) (by omega), upd_ne _ _ (by omega), upd_ne _ _ (by omega), upd_ne _ _ (by omega), upd_eq], by rw [g2 7 (by omega) (by omega) (by omega), upd_ne _ _ (by omega), upd_ne _ _ (by omega), upd_eq], ⟨hC, by rw [g2 9 (by omega) (by omega) (by omega), upd_eq]; rfl, by omega, by rw [ua_eq]; exact e2, asE_ok.1.1⟩⟩
  obtain ⟨s', f', w', F', v', ar', k1, k2, k3, k4, k5⟩ := read_loop (C := C) (T := T) hfu 801 0 fu fu asE f w1 F1 v1 (ua ar 0 al) (by omega) (by omega) (by omega) (Or.inl ⟨_, by omega, G⟩)
  refine ⟨s', f', w', F', v', ar', ?_, ?_, k3, (c89 ch).tr k4, ?_, ?_, fun k q1 q2 q3 q4 q5 q6 q7 q8 => ?_, fun k hk => ?_, fun q hq => ?_⟩
  · rw [f_X5_perform, K.p3, some_bind', a1.p7, some_bind', b1.p8, some_bind']
    rw [c1.cl, d1, some_bind', bnd_eq]
    exact k1
  · rw [f_X11_text, m_gI hC F v ar 4 rfl, some_bind', h4, m_p hC F v ar 22 (by omega) mFr.1, some_bind', m_p hC _ v ar 4 (by omega) mFt.1, some_bind', m_p hC _ v ar 6 (by omega) mFt.2.2.1, some_bind', m_p hC _ v ar 7 (by omega) mFt.2.2.2.1, some_bind', m_p hC _ v ar 23 (by omega) mFr.2.1, some_bind', m_cl hC, e1, some_bind', m_p hC _ v _ 9 (by omega) mFt.2.2.2.2, some_bind', m_cl hC, g1, some_bind', k2]
  · rw [k5.1 4 (by omega) (by omega) (by omega) (by omega) (by omega), g2 4 (by omega) (by omega) (by omega), upd_ne _ _ (by omega), upd_ne _ _ (by omega), upd_ne _ _ (by omega), upd_ne _ _ (by omega), upd_eq]
  · rw [k5.1 9 (by omega) (by omega) (by omega) (by omega) (by omega), g2 9 (by omega) (by omega) (by omega), upd_eq]; rfl
  · rw [k5.1 k (by omega) (by omega) (by omega) (by omega) (by omega), g2 k (by omega) (by omega) (by omega), upd_ne _ _ (by omega), upd_ne _ _ (by omega), upd_ne _ _ (by omega), upd_ne _ _ (by omega), upd_ne _ _ (by omega), upd_ne _ _ (by omega)]
  · rw [k5.2.1 k hk, ua_ne _ _ hk]
  · rw [k5.2.2 q hq, ua_eq, e3 q hq]
end Q
