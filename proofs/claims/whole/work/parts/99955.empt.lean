section Q
variable {C : MW} {F : Nat → Int32} {v : Int64} {fu : Nat}
theorem memptB2 (hC : C.length = 123) {b : Nat} (hb : b ≤ 976) : ∀ N k ar, k ≤ 8 → 8 - k < N → ∃ al, f_X11_empties_26 fu N (mW C F v ar) 123 (nI b) (nI k) = some (mW C F v (ua ar 0 al)) ∧ (∀ i, k ≤ i → i < 8 → al (b + 122 * i + 1) = -1) ∧ ∀ q, (∀ i, k ≤ i → i < 8 → q ≠ b + 122 * i + 1) → al q = ar 0 q := by
  intro N
  induction N with
  | zero => intro k ar _ h; omega
  | succ N ih =>
    intro k ar hk hN
    rw [f_X11_empties_26]
    by_cases c : 8 ≤ k
    · rw [if_pos (show (8 : Int32) ≤ nI k from nI_le (a := 8) c (by omega))]
      exact ⟨ar 0, by rw [ua_self], fun i h1 h2 => by omega, fun _ _ => rfl⟩
    · obtain ⟨al, a1, a2, a3⟩ := ih (k + 1) (ua ar 0 (upd (ar 0) (b + 122 * k + 1) (-1))) (by omega) (by omega)
      refine ⟨al, ?_, fun i h1 h2 => ?_, fun q hq => ?_⟩
      · rw [if_neg (show ¬ (8 : Int32) ≤ nI k from nI_ge (b := 8) (by omega) (by omega)), m_gR hC F v ar 0 rfl, some_bind', show (122 : Int32) = nI 122 from rfl, nI_mul, nI_add, nI_1, m_s0 hC F v ar _ (by omega), some_bind', bnd_eq, nI_1, a1, ua_ua]
      · by_cases e : i = k
        · rw [e, a3 _ (fun i' q1 q2 => by omega), ua_eq, upd_eq]
        · exact a2 i (by omega) h2
      · rw [a3 q (fun i q1 q2 => hq i (by omega) q2), ua_eq, upd_ne _ _ (hq k (by omega) (by omega))]
theorem memptB1 (hC : C.length = 123) {b : Nat} (hb : b ≤ 976) : ∀ N k ar, k ≤ 976 → 976 - k < N → ∃ al, f_X11_empties_2 fu N (mW C F v ar) 123 (nI b) (nI k) = f_X11_empties_26 fu fu (mW C F v (ua ar 0 al)) 123 (nI b) (nI 0) ∧ (∀ q, b + k ≤ q → q < b + 976 → al q = 0) ∧ ∀ q, q < b + k ∨ b + 976 ≤ q → al q = ar 0 q := by
  intro N
  induction N with
  | zero => intro k ar _ h; omega
  | succ N ih =>
    intro k ar hk hN
    rw [f_X11_empties_2]
    by_cases c : 976 ≤ k
    · rw [if_pos (show (976 : Int32) ≤ nI k from nI_le (a := 976) c (by omega)), bnd_eq]
      exact ⟨ar 0, by rw [ua_self]; rfl, fun q h1 h2 => by omega, fun _ _ => rfl⟩
    · obtain ⟨al, a1, a2, a3⟩ := ih (k + 1) (ua ar 0 (upd (ar 0) (b + k) 0)) (by omega) (by omega)
      refine ⟨al, ?_, fun q h1 h2 => ?_, fun q hq => ?_⟩
      · rw [if_neg (show ¬ (976 : Int32) ≤ nI k from nI_ge (b := 976) (by omega) (by omega)), m_gR hC F v ar 0 rfl, some_bind', nI_add, m_s0 hC F v ar _ (by omega), some_bind', bnd_eq, nI_1, a1, ua_ua]
      · by_cases e : q = b + k
        · rw [e, a3 _ (by omega), ua_eq, upd_eq]
        · exact a2 q (by omega) h2
      · rw [a3 q (by omega), ua_eq, upd_ne _ _ (by omega)]
theorem memptiesB_ok (hC : C.length = 123) {b : Nat} (hb : b ≤ 976) (hfu : 2000 ≤ fu) (ar : Nat → Nat → Int32) : ∃ al, f_X11_empties fu (mW C F v ar) 123 (nI b) = some (mW C F v (ua ar 0 al)) ∧ M8 al b asE ∧ ∀ q, q < b ∨ b + 976 ≤ q → al q = ar 0 q := by
  obtain ⟨a1, e1, e2, e3⟩ := memptB1 (F := F) (v := v) (fu := fu) hC hb fu 0 ar (by omega) (by omega)
  obtain ⟨a2, d1, d2, d3⟩ := memptB2 (F := F) (v := v) (fu := fu) hC hb fu 0 (ua ar 0 a1) (by omega) (by omega)
  refine ⟨a2, ?_, fun i hi => ⟨?_, d2 i (by omega) hi, fun j hj => by simp [asE] at hj⟩, fun q hq => ?_⟩
  · rw [f_X11_empties, bnd_eq]
    rw [ua_ua] at d1
    exact e1.trans d1
  · rw [d3 _ (fun i' _ h2 => by omega), ua_eq, e2 _ (by omega) (by omega)]; rfl
  · rw [d3 q (fun i' _ h2 => by omega), ua_eq, e3 q (by omega)]
end Q
