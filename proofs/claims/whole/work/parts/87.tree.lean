/-! TREES: ancestors by priorities -/
def anc (P : Nat → Nat) (y x : Nat) : Prop := ∀ z, (x ≤ z ∧ z ≤ y) ∨ (y ≤ z ∧ z ≤ x) → P z ≤ P y
def ancB (P : Nat → Nat) (y x : Nat) : Bool := (List.range (x + y + 1)).all (fun z => !((decide (x ≤ z) && decide (z ≤ y)) || (decide (y ≤ z) && decide (z ≤ x))) || decide (P z ≤ P y))
theorem ancB_iff {P : Nat → Nat} {y x : Nat} : ancB P y x = true ↔ anc P y x := by
  unfold ancB anc
  rw [List.all_eq_true]
  constructor
  · intro h z hz
    have := h z (List.mem_range.mpr (by omega))
    simp only [Bool.or_eq_true, Bool.not_eq_true', decide_eq_true_eq, Bool.or_eq_false_iff, Bool.and_eq_false_iff, decide_eq_false_iff_not] at this
    omega
  · intro h z hz
    simp only [Bool.or_eq_true, Bool.not_eq_true', decide_eq_true_eq, Bool.or_eq_false_iff, Bool.and_eq_false_iff, decide_eq_false_iff_not]
    by_cases c : (x ≤ z ∧ z ≤ y) ∨ (y ≤ z ∧ z ≤ x)
    · exact Or.inr (h z c)
    · left; omega
section T
variable {P : Nat → Nat}
theorem anc_refl (x : Nat) : anc P x x := fun z hz => by rw [show z = x by omega]; exact Nat.le_refl _
theorem anc_le {y x : Nat} (h : anc P y x) : P x ≤ P y := h x (by omega)
theorem anc_tr {z y x : Nat} (h : anc P z y) (g : anc P y x) : anc P z x := by
  intro w hw
  by_cases c : (y ≤ w ∧ w ≤ z) ∨ (z ≤ w ∧ w ≤ y)
  · exact h w c
  · exact Nat.le_trans (g w (by omega)) (anc_le h)
theorem anc_lin {a b x : Nat} (h : anc P a x) (g : anc P b x) (hp : P b ≤ P a) : anc P a b := by
  intro z hz
  by_cases c : (x ≤ z ∧ z ≤ a) ∨ (a ≤ z ∧ z ≤ x)
  · exact h z c
  · exact Nat.le_trans (g z (by omega)) hp
theorem anc_sub {a x y : Nat} (h : anc P a x) (hy : (a ≤ y ∧ y ≤ x) ∨ (x ≤ y ∧ y ≤ a)) : anc P a y := fun z hz => h z (by omega)
def IsPar (P : Nat → Nat) (m x y : Nat) : Prop := y < m ∧ y ≠ x ∧ anc P y x ∧ ∀ z, z < m → z ≠ x → anc P z x → anc P z y
def NoPar (P : Nat → Nat) (m x : Nat) : Prop := ∀ z, z < m → z ≠ x → ¬ anc P z x
def ParV (P : Nat → Nat) (m x : Nat) (v : Int32) : Prop := (v = -1 ∧ NoPar P m x) ∨ ∃ y, v = nI y ∧ IsPar P m x y
def LV (P : Nat → Nat) (x : Nat) (v : Int32) : Prop := (v = -1 ∧ ∀ z, z < x → ¬ anc P x z) ∨ ∃ y, v = nI y ∧ y < x ∧ anc P x y ∧ ∀ z, z < x → anc P x z → P z ≤ P y
def RV (P : Nat → Nat) (m x : Nat) (v : Int32) : Prop := (v = -1 ∧ ∀ z, x < z → z < m → ¬ anc P x z) ∨ ∃ y, v = nI y ∧ x < y ∧ y < m ∧ anc P x y ∧ ∀ z, x < z → z < m → anc P x z → P z ≤ P y
/-- one node more: lo .. m-1 are its own -/
def Lo (P : Nat → Nat) (m lo : Nat) : Prop := lo ≤ m ∧ (∀ z, lo ≤ z → z < m → P z < P m) ∧ (0 < lo → P m < P (lo - 1))
theorem Lo.an_i {m lo : Nat} (h : Lo P m lo) {x : Nat} (hx : x < m) : anc P m x ↔ lo ≤ x := by
  obtain ⟨h1, h2, h3⟩ := h
  constructor
  · intro g
    rcases Nat.lt_or_ge x lo with c | c
    · have := g (lo - 1) (by omega)
      have := h3 (by omega)
      omega
    · exact c
  · intro c z hz
    rcases Nat.lt_or_ge z m with q | q
    · exact Nat.le_of_lt (h2 z (by omega) q)
    · rw [show z = m by omega]; exact Nat.le_refl _
theorem Lo.up {m lo : Nat} (h : Lo P m lo) {x : Nat} (hx : x < m) (g : anc P x m) : x < lo := by
  rcases Nat.lt_or_ge x lo with c | c
  · exact c
  · have := h.2.1 x c hx
    have := anc_le g
    omega
theorem Lo.top {m lo : Nat} (h : Lo P m lo) (h0 : 0 < lo) : anc P (lo - 1) m := by
  intro z hz
  have h3 := h.2.2 h0
  by_cases c : z = lo - 1
  · rw [c]; exact Nat.le_refl _
  · rcases Nat.lt_or_ge z m with q | q
    · have := h.2.1 z (by omega) q; omega
    · rw [show z = m by have := h.1; omega]; omega
theorem par_m {m lo : Nat} (h : Lo P m lo) : ParV P (m + 1) m (if lo = 0 then -1 else nI (lo - 1)) := by
  have h1 := h.1
  by_cases c : lo = 0
  · rw [if_pos c]
    exact Or.inl ⟨rfl, fun z hz hzm g => by have := h.up (show z < m by omega) g; omega⟩
  · rw [if_neg c]
    refine Or.inr ⟨lo - 1, rfl, by omega, by omega, h.top (by omega), fun z hz hzm g => ?_⟩
    have := h.up (show z < m by omega) g
    exact anc_sub g (by omega)
theorem par_x {m lo b x : Nat} {v : Int32} (h : Lo P m lo) (hb : lo < m → lo ≤ b ∧ b < m ∧ ∀ z, lo ≤ z → z < m → P z ≤ P b) (hx : x < m) (hxb : lo < m → x ≠ b) (g : ParV P m x v) : ParV P (m + 1) x v := by
  have hbx : lo ≤ x → anc P b x := fun c z hz => (hb (by omega)).2.2 z (by have := hb (by omega); omega) (by have := hb (by omega); omega)
  rcases g with ⟨g1, g2⟩ | ⟨y, g1, g2, g3, g4, g5⟩
  · refine Or.inl ⟨g1, fun z hz hzx a => ?_⟩
    rcases Nat.lt_or_ge z m with q | q
    · exact g2 z q hzx a
    · rw [show z = m by omega] at a
      have c := (h.an_i hx).mp a
      have hb' := hb (by omega)
      exact g2 b hb'.2.1 (Ne.symm (hxb (by omega))) (hbx c)
  · refine Or.inr ⟨y, g1, by omega, g3, g4, fun z hz hzx a => ?_⟩
    rcases Nat.lt_or_ge z m with q | q
    · exact g5 z q hzx a
    · rw [show z = m by omega] at a ⊢
      have c := (h.an_i hx).mp a
      have hb' := hb (by omega)
      have a2 := g5 b hb'.2.1 (Ne.symm (hxb (by omega))) (hbx c)
      refine (h.an_i g2).mpr ?_
      rcases Nat.lt_or_ge y lo with z1 | z1
      · have e1 := g4 (lo - 1) (by omega)
        have e2 := h.2.2 (by omega)
        have e3 := anc_le a2
        have e4 := h.2.1 b hb'.1 hb'.2.1
        omega
      · exact z1
theorem par_b {m lo b : Nat} (hinj : ∀ i j, i ≤ m → j ≤ m → P i = P j → i = j) (h : Lo P m lo) (hb : lo ≤ b ∧ b < m ∧ ∀ z, lo ≤ z → z < m → P z ≤ P b) : IsPar P (m + 1) b m := by
  refine ⟨by omega, by omega, (h.an_i hb.2.1).mpr hb.1, fun z hz hzb a => ?_⟩
  rcases Nat.lt_or_ge z m with q | q
  · rcases Nat.lt_or_ge z lo with c | c
    · intro w hw
      rcases Nat.lt_or_ge b w with c2 | c2
      · have e1 := a (lo - 1) (by omega)
        have e2 := h.2.2 (by omega)
        rcases Nat.lt_or_ge w m with c3 | c3
        · have := h.2.1 w (by omega) c3; omega
        · rw [show w = m by omega]; omega
      · exact a w (by omega)
    · have e1 := hb.2.2 z c q
      have e2 := anc_le a
      exact absurd (hinj z b (by omega) (by omega) (by omega)) hzb
  · rw [show z = m by omega]; exact anc_refl m
theorem left_m {m lo b : Nat} (h : Lo P m lo) (hb : lo < m → lo ≤ b ∧ b < m ∧ ∀ z, lo ≤ z → z < m → P z ≤ P b) : LV P m (if lo < m then nI b else -1) := by
  by_cases c : lo < m
  · rw [if_pos c]
    obtain ⟨h1, h2, h3⟩ := hb c
    exact Or.inr ⟨b, rfl, h2, (h.an_i h2).mpr h1, fun z hz a => h3 z ((h.an_i hz).mp a) hz⟩
  · rw [if_neg c]
    exact Or.inl ⟨rfl, fun z hz a => by have := (h.an_i hz).mp a; omega⟩
theorem right_m (m : Nat) : RV P (m + 1) m (-1) := Or.inl ⟨rfl, fun z h1 h2 => by omega⟩
theorem right_t {m lo : Nat} (h : Lo P m lo) (h0 : 0 < lo) : RV P (m + 1) (lo - 1) (nI m) := by
  have h1 := h.1
  refine Or.inr ⟨m, rfl, by omega, by omega, h.top h0, fun z h2 h3 _ => ?_⟩
  rcases Nat.lt_or_ge z m with q | q
  · exact Nat.le_of_lt (h.2.1 z (by omega) q)
  · rw [show z = m by omega]; exact Nat.le_refl _
theorem right_x {m lo x : Nat} {v : Int32} (h : Lo P m lo) (hx : x < m) (hxt : 0 < lo → x ≠ lo - 1) (g : RV P m x v) : RV P (m + 1) x v := by
  have key : anc P x m → x < lo - 1 ∧ anc P x (lo - 1) ∧ P m < P (lo - 1) := fun a => by
    have c := h.up hx a
    have := hxt (by omega)
    have := h.1
    exact ⟨by omega, anc_sub a (by omega), h.2.2 (by omega)⟩
  rcases g with ⟨g1, g2⟩ | ⟨y, g1, g2, g3, g4, g5⟩
  · refine Or.inl ⟨g1, fun z h1 h2 a => ?_⟩
    rcases Nat.lt_or_ge z m with q | q
    · exact g2 z h1 q a
    · rw [show z = m by omega] at a
      obtain ⟨k1, k2, k3⟩ := key a
      exact g2 (lo - 1) k1 (by have := h.1; omega) k2
  · refine Or.inr ⟨y, g1, g2, by omega, g4, fun z h1 h2 a => ?_⟩
    rcases Nat.lt_or_ge z m with q | q
    · exact g5 z h1 q a
    · rw [show z = m by omega] at a ⊢
      obtain ⟨k1, k2, k3⟩ := key a
      have := g5 (lo - 1) k1 (by have := h.1; omega) k2
      omega
/-- the right edge, its end first -/
def Stk (P : Nat → Nat) (m : Nat) (T : List Nat) : Prop := T.Pairwise (fun a b => b < a) ∧ (∀ y ∈ T, y < m ∧ ∀ z, y < z → z < m → P z < P y) ∧ ∀ z, z < m → ∃ y ∈ T, z ≤ y ∧ P z ≤ P y
/-- those of the edge that m is ahead of leave -/
def popT (P : Nat → Nat) (m : Nat) : List Nat → Int32 → List Nat × Int32
  | [], b => ([], b)
  | t :: T, b => if P t < P m then popT P m T (nI t) else (t :: T, b)
theorem popT_ok (P : Nat → Nat) (m : Nat) : ∀ (T : List Nat) (b : Int32), ∃ pre, T = pre ++ (popT P m T b).1 ∧ (∀ y ∈ pre, P y < P m) ∧ (∀ t T', (popT P m T b).1 = t :: T' → ¬ P t < P m) ∧ ((pre = [] ∧ (popT P m T b).2 = b) ∨ ∃ pre' y, pre = pre' ++ [y] ∧ (popT P m T b).2 = nI y)
  | [], b => ⟨[], rfl, by simp, by simp [popT], Or.inl ⟨rfl, rfl⟩⟩
  | t :: T, b => by
    unfold popT
    by_cases c : P t < P m
    · rw [if_pos c]
      obtain ⟨pre, h1, h2, h3, h4⟩ := popT_ok P m T (nI t)
      refine ⟨t :: pre, by rw [List.cons_append, ← h1], fun y hy => ?_, h3, Or.inr ?_⟩
      · rcases List.mem_cons.mp hy with rfl | hy
        · exact c
        · exact h2 y hy
      · rcases h4 with ⟨q1, q2⟩ | ⟨pre', y, q1, q2⟩
        · exact ⟨[], t, by rw [q1]; rfl, q2⟩
        · exact ⟨t :: pre', y, by rw [q1]; rfl, q2⟩
    · rw [if_neg c]
      exact ⟨[], rfl, by simp, fun t' T' h => by simp at h; rw [← h.1]; exact c, Or.inl ⟨rfl, rfl⟩⟩
/-- what the edge says of the next node -/
theorem stk_step {m : Nat} {T : List Nat} (hinj : ∀ i j, i ≤ m → j ≤ m → P i = P j → i = j) (S : Stk P m T) : ∃ lo b, Lo P m lo ∧ (lo < m → lo ≤ b ∧ b < m ∧ ∀ z, lo ≤ z → z < m → P z ≤ P b) ∧ (popT P m T (-1)).2 = (if lo < m then nI b else -1) ∧ Stk P (m + 1) (m :: (popT P m T (-1)).1) ∧ (((popT P m T (-1)).1 = [] ∧ lo = 0) ∨ ∃ T', (popT P m T (-1)).1 = (lo - 1) :: T' ∧ 0 < lo) := by
  obtain ⟨s1, s2, s3⟩ := S
  obtain ⟨pre, h1, h2, h3, h4⟩ := popT_ok P m T (-1)
  generalize popT P m T (-1) = q at h1 h3 h4 ⊢
  obtain ⟨T', b'⟩ := q
  simp only at h1 h3 h4 ⊢
  rw [h1] at s1 s2 s3
  obtain ⟨p1, p2, p3⟩ := List.pairwise_append.mp s1
  -- lo
  obtain ⟨lo, hlo⟩ : ∃ lo, (T' = [] ∧ lo = 0) ∨ ∃ T'', T' = (lo - 1) :: T'' ∧ 0 < lo := by
    cases T' with
    | nil => exact ⟨0, Or.inl ⟨rfl, rfl⟩⟩
    | cons t T'' => exact ⟨t + 1, Or.inr ⟨T'', rfl, by omega⟩⟩
  have htop : ∀ y ∈ T', y < lo := by
    intro y hy
    rcases hlo with ⟨e, _⟩ | ⟨T'', e, h0⟩
    · rw [e] at hy; simp at hy
    · rw [e] at hy p2
      rcases List.mem_cons.mp hy with rfl | hy
      · omega
      · have := (List.pairwise_cons.mp p2).1 y hy; omega
  have hcov : ∀ z, lo ≤ z → z < m → ∃ y ∈ pre, z ≤ y ∧ P z ≤ P y := by
    intro z hz1 hz2
    obtain ⟨y, hy, hy2, hy3⟩ := s3 z hz2
    rcases List.mem_append.mp hy with hy | hy
    · exact ⟨y, hy, hy2, hy3⟩
    · have := htop y hy; omega
  have hLo : Lo P m lo := by
    refine ⟨?_, fun z hz1 hz2 => ?_, fun h0 => ?_⟩
    · rcases hlo with ⟨e, h0⟩ | ⟨T'', e, h0⟩
      · omega
      · have := (s2 (lo - 1) (by rw [e]; simp)).1; omega
    · obtain ⟨y, hy, hy2, hy3⟩ := hcov z hz1 hz2
      have := h2 y hy; omega
    · rcases hlo with ⟨e, h0'⟩ | ⟨T'', e, h0⟩
      · omega
      · have e1 := h3 _ _ e
        have e2 := (s2 (lo - 1) (by rw [e]; simp)).1
        have e3 : P (lo - 1) ≠ P m := fun q => by have := hinj _ _ (by omega) (Nat.le_refl _) q; omega
        omega
  have hST : Stk P (m + 1) (m :: T') := by
    refine ⟨List.pairwise_cons.mpr ⟨fun y hy => (s2 y (List.mem_append_right _ hy)).1, p2⟩, fun y hy => ?_, fun z hz => ?_⟩
    · rcases List.mem_cons.mp hy with rfl | hy
      · exact ⟨by omega, fun z h1 h2 => by omega⟩
      · obtain ⟨e1, e2⟩ := s2 y (List.mem_append_right _ hy)
        refine ⟨by omega, fun z h1 h2 => ?_⟩
        rcases Nat.lt_or_ge z m with c | c
        · exact e2 z h1 c
        · rw [show z = m by omega]
          have c1 := htop y hy
          have c2 := hLo.2.2 (by omega)
          by_cases c3 : y = lo - 1
          · rw [c3]; exact c2
          · have := e2 (lo - 1) (by omega) (by have := hLo.1; omega)
            omega
    · rcases Nat.lt_or_ge z m with c | c
      · obtain ⟨y, hy, hy2, hy3⟩ := s3 z c
        rcases List.mem_append.mp hy with hy | hy
        · exact ⟨m, List.mem_cons_self, by omega, by have := h2 y hy; omega⟩
        · exact ⟨y, List.mem_cons_of_mem _ hy, hy2, hy3⟩
      · exact ⟨m, List.mem_cons_self, by omega, by rw [show z = m by omega]; exact Nat.le_refl _⟩
  rcases h4 with ⟨q1, q2⟩ | ⟨pre', y, q1, q2⟩
  · have hm : ¬ lo < m := by
      intro c
      obtain ⟨y, hy, _⟩ := hcov (m - 1) (by omega) (by omega)
      rw [q1] at hy; simp at hy
    exact ⟨lo, 0, hLo, fun c => absurd c hm, by rw [if_neg hm]; exact q2, hST, hlo⟩
  · have hy : y ∈ pre := by rw [q1]; simp
    obtain ⟨e1, e2⟩ := s2 y (List.mem_append_left _ hy)
    have hylo : lo ≤ y := by
      rcases hlo with ⟨e, h0⟩ | ⟨T'', e, h0⟩
      · omega
      · have := p3 y hy (lo - 1) (by rw [e]; simp); omega
    refine ⟨lo, y, hLo, fun _ => ⟨hylo, e1, fun z hz1 hz2 => ?_⟩, by rw [if_pos (by omega)]; exact q2, hST, hlo⟩
    obtain ⟨u, hu, hu2, hu3⟩ := hcov z hz1 hz2
    rw [q1] at hu p1
    rcases List.mem_append.mp hu with hu | hu
    · have c1 := (List.pairwise_append.mp p1).2.2 u hu y (by simp)
      have c2 := e2 u c1 (s2 u (by rw [q1]; exact List.mem_append_left _ (List.mem_append_left _ hu))).1
      omega
    · rw [List.mem_singleton.mp hu] at hu3; exact hu3
end T
