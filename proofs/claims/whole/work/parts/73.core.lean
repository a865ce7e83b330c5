theorem mC_len (F : Nat → Int32) (v : Int64) (ar : Nat → Nat → Int32) : (mC F v ar).length = 7 := rfl
theorem mW_len {C : MW} (hC : C.length = 123) (F : Nat → Int32) (v : Int64) (ar : Nat → Nat → Int32) : (mW C F v ar).length = 130 := by
  unfold mW
  rw [List.length_append, hC, mC_len]
/-- what the class does keeps the model's cells -/
theorem mW_chg {C : MW} (hC : C.length = 123) {F : Nat → Int32} {v : Int64} {ar : Nat → Nat → Int32} {ks : List Nat} {w' : MW} (h : Chg ks (mW C F v ar) w') (hk : ∀ k, k ∈ ks → k < 123) : ∃ C', C'.length = 123 ∧ w' = mW C' F v ar ∧ ∀ k, k ∉ ks → C'[k]? = C[k]? := by
  have hl : w'.length = 130 := by rw [h.1, mW_len hC]
  refine ⟨w'.take 123, by rw [List.length_take]; omega, ?_, fun k hq => ?_⟩
  · unfold mW
    have e : w'.drop 123 = mC F v ar := by
      refine List.ext_getElem? (fun i => ?_)
      rw [List.getElem?_drop, h.2 _ (fun q => by have := hk _ q; omega), mW_get hC]
    rw [← e, List.take_append_drop]
  · by_cases c : k < 123
    · rw [List.getElem?_take_of_lt c, h.2 k hq, mW_low hC _ _ _ c]
    · rw [List.getElem?_eq_none (by rw [List.length_take]; omega), List.getElem?_eq_none (by omega)]
/-- what the model does keeps the class's cells -/
theorem mW_m {C : MW} (hC : C.length = 123) (F F' : Nat → Int32) (v v' : Int64) (ar ar' : Nat → Nat → Int32) : Chg (List.range' 123 7) (mW C F v ar) (mW C F' v' ar') := by
  refine ⟨by rw [mW_len hC, mW_len hC], fun k hk => ?_⟩
  by_cases c : k < 123
  · rw [mW_low hC _ _ _ c, mW_low hC _ _ _ c]
  · have : 130 ≤ k := by
      rw [List.mem_range'_1] at hk
      omega
    rw [List.getElem?_eq_none (by rw [mW_len hC]; omega), List.getElem?_eq_none (by rw [mW_len hC]; omega)]
theorem CS.m {C : MW} (hC : C.length = 123) {F : Nat → Int32} {v : Int64} {ar : Nat → Nat → Int32} {hs : Nat → List Nat} {fg : Nat → Int32} (h : CS (mW C F v ar) hs fg) (F' : Nat → Int32) (v' : Int64) (ar' : Nat → Nat → Int32) : CS (mW C F' v' ar') hs fg :=
  h.chg (mW_m hC F F' v v' ar ar') (fun k hk => by rw [List.mem_range'_1] at hk; omega)
theorem CP.m {C : MW} (hC : C.length = 123) {F : Nat → Int32} {v : Int64} {ar : Nat → Nat → Int32} {n : Nat} {V : List AS} (h : CP (mW C F v ar) n V) (F' : Nat → Int32) (v' : Int64) (ar' : Nat → Nat → Int32) : CP (mW C F' v' ar') n V :=
  h.chg (mW_m hC F F' v v' ar ar') (fun k hk => by rw [List.mem_range'_1] at hk; omega)
/-- the top object -/
def C0 (w : MW) : Prop := ∃ a b, w[0]? = some (.inr (10, [.ref 1, .ref 31, .ref 85, .ref 87, .ref 89, .ref 91, .ref 95, .int a, .int b]))
theorem C0.chg {ks : List Nat} {w w' : MW} (h : C0 w) (C : Chg ks w w') (hk : 0 ∉ ks) : C0 w' := by
  obtain ⟨a, b, h⟩ := h
  exact ⟨a, b, C.at hk h⟩
/-- an act of the class: kept first, then settled -/
def actOf (f : MW → Nat → Option (Int32 × MW)) (fu : Nat) (w : MW) : Option (Int32 × MW) :=
  (gR w 10 0 1).bind fun x1 =>
  (gR w 10 0 0).bind fun x2 =>
  (cl w 3 x1 (f_X3_prepare fu w x1 x2)).bind fun q3 =>
  (gR q3 10 0 1).bind fun x6 =>
  (gR q3 10 0 0).bind fun x7 =>
  (cl q3 7 x7 (f q3 x7)).bind fun q8 =>
  (cl q8.2 3 x6 (f_X3_settle q8.2 x6 q8.1)).bind fun q11 =>
  some (q11.1, q11.2)
def actKs : List Nat := List.range' 1 30 ++ List.range' 31 54
theorem actKs_iff (k : Nat) : k ∈ actKs ↔ 1 ≤ k ∧ k < 85 := by
  unfold actKs
  rw [List.mem_append, List.mem_range'_1, List.mem_range'_1]
  omega
theorem cact {s s' : AS} (O : AOK s.1) {fu : Nat} (hfu : 100 ≤ fu) {w : MW} (T : C0 w) (h : CS w s.1 s.2) {n : Nat} {V : List AS} (P : CP w n V) {f : MW → Nat → Option (Int32 × MW)} {x : Int32} {ks : List Nat} (hks : ∀ k, k ∈ ks → 1 ≤ k ∧ k < 31) (hf : ∀ u, Chg actKs w u → CS u s.1 s.2 → ∃ u', f u 1 = some (x, u') ∧ CS u' s'.1 s'.2 ∧ Chg ks u u') : ∃ w' n', actOf f fu w = some (x, w') ∧ CS w' s'.1 s'.2 ∧ CP w' n' (if x < 0 then V else kept V s) ∧ Chg actKs w w' := by
  have m0 : (0 : Nat) ∉ actKs := fun q => by rw [actKs_iff] at q; omega
  obtain ⟨w1, a1, a2, a3, a4, a5⟩ := prepare_ok O hfu h P
  have k1 : Chg actKs w w1 := a5.mono (fun k hk => by have := P.1; rw [actKs_iff]; simp at hk; omega)
  obtain ⟨w2, b1, b2, b3⟩ := hf w1 k1 a2
  have k2 : Chg actKs w1 w2 := b3.mono (fun k hk => by have := hks k hk; rw [actKs_iff]; omega)
  have P2 : CP w2 n V := a3.chg b3 (fun k hk => by have := hks k hk; omega)
  have S2 : SNP w2 (33 + 4 * n) s := a4.chg b3 (fun k hk => by have := hks k hk; omega)
  obtain ⟨a, b, t0⟩ := T
  have t1 := k1.at m0 t0
  have pre : actOf f fu w = (f_X3_settle w2 31 x).bind fun q11 => some (q11.1, q11.2) := by
    rw [actOf, gR_ob t0 rfl, some_bind', gR_ob t0 rfl, some_bind', P.cl, a1, some_bind', gR_ob t1 rfl, some_bind', gR_ob t1 rfl, some_bind', a2.cl, b1, some_bind', P2.cl]
  rw [pre]
  by_cases hx : x < 0
  · rw [settle_no hx, some_bind', if_pos hx]
    exact ⟨w2, n, rfl, b2, P2, k1.tr k2⟩
  · obtain ⟨w3, c1, c2, c3⟩ := settle_ok O P2 S2 hx
    rw [c1, some_bind', if_neg hx]
    exact ⟨w3, _, rfl, b2.chg c3 (fun k hk => by simp at hk; omega), c2, (k1.tr k2).tr (c3.mono (fun k hk => by simp at hk; rw [actKs_iff]; omega))⟩
/-- both sides hold the sets s, and V can be undone -/
def Core (C : MW) (F : Nat → Int32) (v : Int64) (ar : Nat → Nat → Int32) (s : AS) (V : List AS) (n : Nat) : Prop :=
  C.length = 123 ∧ C0 (mW C F v ar) ∧ CS (mW C F v ar) s.1 s.2 ∧ AOK s.1 ∧ CP (mW C F v ar) n V ∧ M8 (ar 0) 0 s ∧ MU (ar 0) V ∧ F 8 = nI V.length ∧ F 9 = nI 0
/-- what an act leaves alone -/
def Fr (C : MW) (F : Nat → Int32) (ar : Nat → Nat → Int32) (C' : MW) (F' : Nat → Int32) (ar' : Nat → Nat → Int32) : Prop :=
  (∀ k, k ∉ actKs → C'[k]? = C[k]?) ∧ (∀ k, k < 8 ∨ 22 < k → F' k = F k) ∧ (∀ k, 0 < k → k < 4 → ar' k = ar k) ∧ ∀ q, 13664 ≤ q → ar' 0 q = ar 0 q
theorem Fr.tr {C C1 C2 : MW} {F F1 F2 : Nat → Int32} {ar ar1 ar2 : Nat → Nat → Int32} (h : Fr C F ar C1 F1 ar1) (g : Fr C1 F1 ar1 C2 F2 ar2) : Fr C F ar C2 F2 ar2 :=
  ⟨fun k hk => (g.1 k hk).trans (h.1 k hk), fun k hk => (g.2.1 k hk).trans (h.2.1 k hk), fun k h1 h2 => (g.2.2.1 k h1 h2).trans (h.2.2.1 k h1 h2), fun q hq => (g.2.2.2 q hq).trans (h.2.2.2 q hq)⟩
theorem mbegins_no {C : MW} (hC : C.length = 123) {F : Nat → Int32} {v : Int64} {ar : Nat → Nat → Int32} {fu : Nat} {x : Int32} (hx : ¬ x = 0) : f_X11_begins fu (mW C F v ar) 123 x = some (x, mW C F v ar) := by
  rw [f_X11_begins, if_neg hx]
theorem mbegins_ok {C : MW} (hC : C.length = 123) {F : Nat → Int32} {v : Int64} {ar : Nat → Nat → Int32} {fu : Nat} (hfu : 20000 ≤ fu) {s : AS} {V : List AS} (O : ∀ q, q < 8 → SOK (s.1 q)) (M : M8 (ar 0) 0 s) (U : MU (ar 0) V) (h8 : F 8 = nI V.length) : ∃ al F', f_X11_begins fu (mW C F v ar) 123 0 = some (0, mW C F' v (ua ar 0 al)) ∧ M8 al 0 s ∧ MU al (kept V s) ∧ F' 8 = nI (kept V s).length ∧ (∀ k, k ≠ 8 → F' k = F k) ∧ ∀ q, q < 1952 ∨ 13664 ≤ q → al q = ar 0 q := by
  obtain ⟨al, F', g1, g2⟩ := mkeeps_ok hC (v := v) hfu O M U h8
  refine ⟨al, F', ?_, g2⟩
  rw [f_X11_begins, if_pos rfl, m_cl hC, g1, some_bind']
