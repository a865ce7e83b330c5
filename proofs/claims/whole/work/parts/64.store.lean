/-- the class's store holds the sets hs with the fingers fg -/
def CS (w : MW) (hs : Nat → List Nat) (fg : Nat → Int32) : Prop :=
  (∃ a b c, w[1]? = some (.inr (7, [.ref 2, .ref 3, .ref 11, .ref 29, .ref 12, .int a, .int b, .int c]))) ∧ (∃ f, w[2]? = some (.inl (.object RX0, 8, .inr (.inr (.inr (.inr f))))) ∧ ∀ i, i < 8 → f i = some (13 + 2 * i)) ∧ ∀ i, i < 8 → HA w (13 + 2 * i) (14 + 2 * i) (hs i) (fg i)
/-- sets that may be -/
def AOK (hs : Nat → List Nat) : Prop := (∀ i, i < 8 → SOK (hs i)) ∧ smF (fun i => (hs i).length) 0 8 ≤ 240
theorem CS.cl {α : Type} {w : MW} {hs : Nat → List Nat} {fg : Nat → Int32} (h : CS w hs fg) (x : Option α) : cl w 7 1 x = x := by
  obtain ⟨a, b, c, h1⟩ := h.1
  exact cl_ob h1 x
theorem CS.ha {w : MW} {hs : Nat → List Nat} {fg : Nat → Int32} (h : CS w hs fg) {i : Nat} (hi : i < 8) : HA w (13 + 2 * i) (14 + 2 * i) (hs i) (fg i) := h.2.2 i hi
theorem CS.arr {w : MW} {hs : Nat → List Nat} {fg : Nat → Int32} (h : CS w hs fg) : gR w 7 1 0 = some 2 := by
  obtain ⟨a, b, c, h1⟩ := h.1
  exact gR_ob h1 rfl
theorem CS.heap {w : MW} {hs : Nat → List Nat} {fg : Nat → Int32} (h : CS w hs fg) {i : Nat} (hi : i < 8) : aRn w (.object RX0) 2 (nI i) = some (13 + 2 * i) := by
  obtain ⟨f, h1, h2⟩ := h.2.1
  exact aRn_ar h1 (h2 i hi) hi (by decide)
theorem CS.chg {ks : List Nat} {w w' : MW} {hs : Nat → List Nat} {fg : Nat → Int32} (h : CS w hs fg) (C : Chg ks w w') (hk : ∀ k, k ∈ ks → 28 < k ∨ (2 < k ∧ k < 13)) : CS w' hs fg := by
  obtain ⟨⟨a, b, c, h1⟩, ⟨f, h2, h3⟩, h4⟩ := h
  refine ⟨⟨a, b, c, C.at (fun q => by have := hk _ q; omega) h1⟩, ⟨f, C.at (fun q => by have := hk _ q; omega) h2, h3⟩, fun i hi => (h4 i hi).chg C (fun q => by have := hk _ q; omega) (fun q => by have := hk _ q; omega)⟩
/-- one set is another one -/
theorem CS.put {w w' : MW} {hs : Nat → List Nat} {fg : Nat → Int32} (h : CS w hs fg) {i : Nat} (hi : i < 8) {L : List Nat} {f : Int32} (H : HA w' (13 + 2 * i) (14 + 2 * i) L f) (C : Chg [13 + 2 * i, 14 + 2 * i] w w') : CS w' (va_up hs i L) (va_up fg i f) := by
  obtain ⟨⟨a, b, c, h1⟩, ⟨g, h2, h3⟩, h4⟩ := h
  refine ⟨⟨a, b, c, C.at (by simp; omega) h1⟩, ⟨g, C.at (by simp; omega) h2, h3⟩, fun j hj => ?_⟩
  by_cases e : j = i
  · subst e
    simp only [va_up, if_true]
    exact H
  · simp only [va_up, if_neg e]
    exact (h4 j hj).chg C (by simp; omega) (by simp; omega)
theorem set_cases (v : Int32) : (∃ i, i < 8 ∧ v = nI i) ∨ (v < 0 ∨ 8 ≤ v) := by
  by_cases h : v < 0
  · exact Or.inr (Or.inl h)
  · by_cases h2 : (8 : Int32) ≤ v
    · exact Or.inr (Or.inr h2)
    · obtain ⟨j, hj, rfl⟩ := nI_of h
      refine Or.inl ⟨j, ?_, rfl⟩
      rcases Nat.lt_or_ge j 8 with q | q
      · exact q
      · exact absurd (nI_le (a := 8) q hj) h2
theorem key_cases (v : Int32) : (∃ k, k < 10000 ∧ v = nI k) ∨ (v < 0 ∨ 9999 < v) := by
  by_cases h : v < 0
  · exact Or.inr (Or.inl h)
  · by_cases h2 : (9999 : Int32) < v
    · exact Or.inr (Or.inr h2)
    · obtain ⟨j, hj, rfl⟩ := nI_of h
      refine Or.inl ⟨j, ?_, rfl⟩
      rcases Nat.lt_or_ge j 10000 with q | q
      · exact q
      · exact absurd (nI_lt (a := 9999) q hj) h2
theorem heapAt_in {w : MW} {hs : Nat → List Nat} {fg : Nat → Int32} (h : CS w hs fg) {i : Nat} (hi : i < 8) : f_X7_heapAt w 1 (nI i) = some (some (13 + 2 * i)) := by
  rw [f_X7_heapAt, if_neg (nI_pos (by omega)), if_neg (show ¬ (8 : Int32) ≤ nI i from nI_ge (b := 8) hi (by omega)), h.arr, some_bind', h.heap hi, some_bind']
theorem heapAt_out {w : MW} {v : Int32} (h : v < 0 ∨ 8 ≤ v) : f_X7_heapAt w 1 v = some none := by
  rw [f_X7_heapAt]
  by_cases h1 : v < 0
  · rw [if_pos h1]
  · rw [if_neg h1, if_pos (h.resolve_left h1)]
theorem isKey_in {k : Nat} (hk : k < 10000) : f_X10_isKey (nI k) = 1 := by
  rw [f_X10_isKey, if_neg (nI_pos (by omega)), if_neg (show ¬ (9999 : Int32) < nI k from nI_nlt (a := 9999) (by omega) (by omega))]
theorem isKey_out {v : Int32} (h : v < 0 ∨ 9999 < v) : f_X10_isKey v = 0 := by
  rw [f_X10_isKey]
  by_cases h1 : v < 0
  · rw [if_pos h1]
  · rw [if_neg h1, if_pos (h.resolve_left h1)]
theorem ctotal_loop {w : MW} {hs : Nat → List Nat} {fg : Nat → Int32} (h : CS w hs fg) (fu : Nat) : ∀ n i acc, i ≤ 8 → 8 - i < n → f_X7_total_4 fu w n 1 (nI acc) (nI i) = some (nI (acc + smF (fun i => (hs i).length) i 8)) := by
  intro n
  induction n with
  | zero => intro i acc _ hn; omega
  | succ n ih =>
    intro i acc hi hn
    rw [f_X7_total_4, show (8 : Int32) = nI 8 from rfl]
    by_cases h8 : 8 ≤ i
    · rw [if_pos (nI_le h8 (by omega)), smF_end _ h8]; rfl
    · rw [if_neg (nI_ge (by omega) (by omega)), h.arr, some_bind', h.heap (by omega), some_bind', gI_ob (h.ha (by omega : i < 8)).2.1 rfl, some_bind', bnd_eq, bnd_eq, nI_add, nI_1, ih (i + 1) _ (by omega) (by omega), smF_cons _ (by omega : i < 8)]
      congr 2
      omega
theorem ctotal_ok {w : MW} {hs : Nat → List Nat} {fg : Nat → Int32} (h : CS w hs fg) {fu : Nat} (hfu : 100 ≤ fu) : f_X7_total fu w 1 = some (nI (smF (fun i => (hs i).length) 0 8)) := by
  rw [f_X7_total, bnd_eq, bnd_eq, show (0 : Int32) = nI 0 from rfl, ctotal_loop h fu fu 0 0 (by omega) (by omega), Nat.zero_add]
/-- PUT, of the sets -/
def aPut (hs : Nat → List Nat) (fg : Nat → Int32) (v x : Int32) : Int32 × (Nat → List Nat) × (Nat → Int32) :=
  if ¬ (0 ≤ v ∧ v < 8 ∧ 0 ≤ x ∧ x ≤ 9999) then (-1, hs, fg)
  else if ¬ plc (hs v.toNatClampNeg) x = -1 then (-2, hs, fg)
  else if 60 ≤ (hs v.toNatClampNeg).length ∨ 240 ≤ smF (fun i => (hs i).length) 0 8 then (-4, hs, fg)
  else (nI (bel (hs v.toNatClampNeg) x), va_up hs v.toNatClampNeg (insAt (hs v.toNatClampNeg) (bel (hs v.toNatClampNeg) x) [2 * x.toNatClampNeg]), va_up fg v.toNatClampNeg (-1))
theorem out_not {v : Int32} {P : Prop} (h : v < 0 ∨ 8 ≤ v) : ¬ (0 ≤ v ∧ v < 8 ∧ P) := fun q => h.elim (fun h => absurd q.1 (Int32.not_le.mpr h)) (fun h => absurd q.2.1 (Int32.not_lt.mpr h))
theorem key_not {x : Int32} (h : x < 0 ∨ 9999 < x) : ¬ (0 ≤ x ∧ x ≤ 9999) := fun q => h.elim (fun h => absurd q.1 (Int32.not_le.mpr h)) (fun h => absurd q.2 (Int32.not_le.mpr h))
theorem in_set {i : Nat} (hi : i < 8) : (0 : Int32) ≤ nI i ∧ nI i < 8 := ⟨nI_pos' (by omega), nI_lt (b := 8) hi (by omega)⟩
theorem in_key {k : Nat} (hk : k < 10000) : (0 : Int32) ≤ nI k ∧ nI k ≤ 9999 := ⟨nI_pos' (by omega), nI_le (b := 9999) (by omega) (by omega)⟩
theorem cput_ok {w : MW} {hs : Nat → List Nat} {fg : Nat → Int32} (h : CS w hs fg) (O : AOK hs) {fu : Nat} (hfu : 100 ≤ fu) (v x : Int32) : ∃ w', f_X7_putKey fu w 1 v x = some ((aPut hs fg v x).1, w') ∧ CS w' (aPut hs fg v x).2.1 (aPut hs fg v x).2.2 ∧ Chg [13, 14, 15, 16, 17, 18, 19, 20, 21, 22, 23, 24, 25, 26, 27, 28] w w' := by
  rw [f_X7_putKey, h.cl]
  rcases set_cases v with ⟨i, hi, rfl⟩ | hv
  · rw [heapAt_in h hi, some_bind']
    dsimp only
    rcases key_cases x with ⟨k, hk, rfl⟩ | hx
    · have S := O.1 i hi
      have H := h.ha hi
      have ei : (nI i).toNatClampNeg = i := nI_clamp (by omega)
      have ek : (nI k).toNatClampNeg = k := nI_clamp (by omega)
      unfold aPut
      rw [ei, ek, if_neg (not_not_intro ⟨(in_set hi).1, (in_set hi).2, (in_key hk).1, (in_key hk).2⟩), isKey_in hk, if_neg (show ¬ (1 : Int32) = 0 by decide), H.cl, rankOf_ok H S hfu, some_bind']
      by_cases hp : plc (hs i) (nI k) = -1
      · rw [if_pos hp, if_neg (not_not_intro hp), gI_ob H.2.1 rfl, some_bind']
        have hl := S.len
        by_cases h60 : 60 ≤ (hs i).length
        · rw [if_pos (show (60 : Int32) ≤ nI (hs i).length from nI_le (a := 60) h60 (by omega)), if_pos (Or.inl h60)]
          exact ⟨w, rfl, h, Chg.rf _ _⟩
        · rw [if_neg (show ¬ (60 : Int32) ≤ nI (hs i).length from nI_ge (b := 60) (by omega) (by omega)), h.cl, ctotal_ok h hfu, some_bind']
          have ht := O.2
          by_cases h240 : 240 ≤ smF (fun i => (hs i).length) 0 8
          · rw [if_neg (show ¬ nI (smF (fun i => (hs i).length) 0 8) < (240 : Int32) from nI_nlt (b := 240) h240 (by omega)), if_pos (Or.inr h240)]
            exact ⟨w, rfl, h, Chg.rf _ _⟩
          · rw [if_pos (show nI (smF (fun i => (hs i).length) 0 8) < (240 : Int32) from nI_lt (b := 240) (by omega) (by omega)), if_neg (by omega), H.cl]
            obtain ⟨w', g1, g2, g3⟩ := insert_ok H S hfu (by omega) hk
            rw [g1, some_bind']
            refine ⟨w', rfl, h.put hi g2 g3, g3.mono ?_⟩
            intro q hq
            simp only [List.mem_cons, List.not_mem_nil, or_false] at hq ⊢
            omega
      · rw [if_neg hp, if_pos hp]
        exact ⟨w, rfl, h, Chg.rf _ _⟩
    · rw [isKey_out hx, if_pos rfl]
      have e1 : aPut hs fg (nI i) x = (-1, hs, fg) := by
        unfold aPut
        rw [if_pos (fun q => key_not hx q.2.2)]
      rw [e1]
      exact ⟨w, rfl, h, Chg.rf _ _⟩
  · rw [heapAt_out hv, some_bind']
    have e1 : aPut hs fg v x = (-1, hs, fg) := by
      unfold aPut
      rw [if_pos (out_not hv)]
    rw [e1]
    exact ⟨w, rfl, h, Chg.rf _ _⟩
