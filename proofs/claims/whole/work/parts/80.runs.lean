/-! RUNS of two sets: what comes next: 0 of the first alone, 1 of both, 2 of the second alone -/
def evs : List Nat → List Nat → List Nat
  | [], [] => []
  | _ :: L, [] => 0 :: evs L []
  | [], _ :: M => 2 :: evs [] M
  | a :: L, b :: M => if a / 2 < b / 2 then 0 :: evs L (b :: M) else if a / 2 = b / 2 then 1 :: evs L M else 2 :: evs (a :: L) M
termination_by L M => L.length + M.length
def hasK (L : List Nat) (k : Nat) : Bool := L.any (fun a => a / 2 == k)
def twN (L M : List Nat) : Nat := M.countP (fun b => hasK L (b / 2))
theorem hasK_iff {L : List Nat} {k : Nat} : hasK L k = true ↔ ∃ a ∈ L, a / 2 = k := by
  unfold hasK
  rw [List.any_eq_true]
  simp
theorem hasK_cons {a : Nat} {L : List Nat} {k : Nat} (h : a / 2 ≠ k) : hasK (a :: L) k = hasK L k := by
  unfold hasK
  rw [List.any_cons]
  simp [h]
abbrev PW (L : List Nat) : Prop := L.Pairwise (fun a b => a / 2 < b / 2)
theorem twN_nil (M : List Nat) : twN [] M = 0 := by
  unfold twN
  rw [List.countP_eq_zero]
  intro b _
  simp [hasK]
theorem twN_skip {a : Nat} {L M : List Nat} (h : ∀ b ∈ M, a / 2 < b / 2) : twN (a :: L) M = twN L M := by
  unfold twN
  apply List.countP_congr
  intro b hb
  rw [hasK_cons (by have := h b hb; omega)]
theorem evs_n : ∀ n L M, L.length + M.length ≤ n → PW L → PW M → (evs L M).count 1 = twN L M ∧ (evs L M).length + twN L M = L.length + M.length
  | n, [], [], _, _, _ => by rw [evs, twN_nil]; simp
  | 0, a :: L, M, h, _, _ => by simp at h
  | 0, [], b :: M, h, _, _ => by simp at h
  | n + 1, a :: L, [], h, P, Q => by
    have ih := evs_n n L [] (by simp at h ⊢; omega) (List.pairwise_cons.mp P).2 Q
    rw [evs]
    have e : twN L [] = 0 := rfl
    have e2 : twN (a :: L) [] = 0 := rfl
    rw [e] at ih
    rw [e2, List.count_cons, ih.1]
    simp at ih ⊢
    omega
  | n + 1, [], b :: M, h, P, Q => by
    have ih := evs_n n [] M (by simp at h ⊢; omega) P (List.pairwise_cons.mp Q).2
    rw [evs, twN_nil]
    rw [twN_nil] at ih
    rw [List.count_cons, ih.1]
    simp at ih ⊢
    omega
  | n + 1, a :: L, b :: M, h, P, Q => by
    obtain ⟨P1, P2⟩ := List.pairwise_cons.mp P
    obtain ⟨Q1, Q2⟩ := List.pairwise_cons.mp Q
    rw [evs]
    simp only [List.length_cons] at h
    by_cases c1 : a / 2 < b / 2
    · have ih := evs_n n L (b :: M) (by simp; omega) P2 Q
      rw [if_pos c1]
      have e : twN (a :: L) (b :: M) = twN L (b :: M) := twN_skip (fun x hx => by
        rcases List.mem_cons.mp hx with rfl | hx
        · exact c1
        · have := Q1 x hx; omega)
      rw [e, List.count_cons, ih.1]
      have := ih.2
      simp at this ⊢
      omega
    · rw [if_neg c1]
      by_cases c2 : a / 2 = b / 2
      · have ih := evs_n n L M (by omega) P2 Q2
        rw [if_pos c2]
        have e : twN (a :: L) (b :: M) = twN L M + 1 := by
          have e1 : twN (a :: L) M = twN L M := twN_skip (fun x hx => by have := Q1 x hx; omega)
          rw [← e1]
          unfold twN
          rw [List.countP_cons, if_pos]
          rw [hasK_iff]
          exact ⟨a, List.mem_cons_self, c2⟩
        rw [e, List.count_cons, ih.1]
        have := ih.2
        simp at this ⊢
        omega
      · have ih := evs_n n (a :: L) M (by simp; omega) P Q2
        rw [if_neg c2]
        have e : twN (a :: L) (b :: M) = twN (a :: L) M := by
          unfold twN
          rw [List.countP_cons, if_neg]
          · rfl
          · rw [hasK_iff]
            rintro ⟨x, hx, hx2⟩
            rcases List.mem_cons.mp hx with rfl | hx
            · omega
            · have := P1 x hx; omega
        rw [e, List.count_cons, ih.1]
        have := ih.2
        simp at this ⊢
        omega
theorem evs_len {L M : List Nat} (S : SOK L) (S2 : SOK M) : (evs L M).count 1 = twN L M ∧ (evs L M).length + twN L M = L.length + M.length := evs_n _ L M (Nat.le_refl _) S.1 S2.1
theorem twN_le (L M : List Nat) : twN L M ≤ M.length := List.countP_le_length
theorem hasK_plc {L : List Nat} (S : SOK L) {k : Nat} (hk : k < 2 ^ 31) : hasK L k = true ↔ ¬ plc L (nI k) = -1 := by
  rw [plc_iff S hk, hasK_iff]
  constructor
  · rintro ⟨a, ha, h⟩ q; exact q a ha h
  · intro h
    refine Decidable.byContradiction fun q => h (fun e he h2 => q ⟨e, he, h2⟩)
theorem cNew_twN {L M : List Nat} (S : SOK L) (S2 : SOK M) : cNew L M + twN L M = M.length := by
  unfold cNew twN
  rw [List.length_eq_countP_add_countP (fun b => hasK L (b / 2)) (l := M), Nat.add_comm]
  congr 1
  apply List.countP_congr
  intro b hb
  have hb2 := S2.2.1 b hb
  have := hasK_plc S (k := b / 2) (by omega)
  rw [decide_eq_true_eq]
  by_cases c : plc L (nI (b / 2)) = -1
  · simp only [c, true_iff]
    cases hq : hasK L (b / 2)
    · rfl
    · exact absurd c (this.mp hq)
  · simp only [c, false_iff]
    rw [this.mpr c]; simp
/-- runs, cost, longest, the run, of whom -/
abbrev RS : Type := Nat × Nat × Nat × Nat × Nat
def rEnd (R : RS) : RS := if R.2.2.2.1 = 0 then R else (R.1 + 1, R.2.1 + 1 + Nat.log2 R.2.2.2.1, max R.2.2.1 R.2.2.2.1, R.2.2.2.1, R.2.2.2.2)
def rGo (o : Nat) (R : RS) : RS := if o = R.2.2.2.2 then (R.1, R.2.1, R.2.2.1, R.2.2.2.1 + 1, o) else ((rEnd R).1, (rEnd R).2.1, (rEnd R).2.2.1, 1, o)
def rAll : List Nat → RS → RS
  | [], R => rEnd R
  | t :: es, R => rAll es (rGo (if t ≤ 1 then 0 else 1) R)
theorem rEnd_run (R : RS) : (rEnd R).2.2.2 = R.2.2.2 := by
  unfold rEnd; split <;> rfl
theorem rGo_of (o : Nat) (R : RS) : (rGo o R).2.2.2.2 = o := by
  unfold rGo; split <;> rfl
theorem rGo_run (o : Nat) (R : RS) : 1 ≤ (rGo o R).2.2.2.1 ∧ (rGo o R).2.2.2.1 ≤ R.2.2.2.1 + 1 := by
  unfold rGo; split
  · exact ⟨Nat.le_add_left _ _, Nat.le_refl _⟩
  · exact ⟨Nat.le_refl _, Nat.le_add_left _ _⟩
/-- small enough for a machine's numbers -/
def RB (R : RS) (n : Nat) : Prop := R.2.2.1 ≤ 1000 ∧ R.2.2.2.1 + n ≤ 1000
theorem RB.go {R : RS} {n : Nat} (h : RB R (n + 1)) (o : Nat) : RB (rGo o R) n := by
  obtain ⟨h1, h2⟩ := h
  unfold rGo rEnd
  split
  · exact ⟨h1, by show R.2.2.2.1 + 1 + n ≤ 1000; omega⟩
  · split
    · exact ⟨h1, by show 1 + n ≤ 1000; omega⟩
    · exact ⟨by show max R.2.2.1 R.2.2.2.1 ≤ 1000; omega, by show 1 + n ≤ 1000; omega⟩
theorem imax_n {a b : Nat} (ha : a < 2 ^ 31) (hb : b < 2 ^ 31) : imax (nI a) (nI b) = nI (max a b) := by
  unfold imax
  by_cases h : a < b
  · rw [if_pos (nI_lt h hb), Nat.max_eq_right (by omega)]
  · rw [if_neg (nI_nlt (by omega) ha), Nat.max_eq_left (by omega)]
theorem log2_s {n : Nat} (h : 2 ≤ n) : Nat.log2 n = Nat.log2 (n / 2) + 1 := by
  rw [Nat.log2_def, if_pos h]
theorem log2_1 {n : Nat} (h : n < 2) : Nat.log2 n = 0 := by
  rw [Nat.log2_def, if_neg (by omega)]
