/-! MELT of two sets: by keys -/
def mk (L : List Nat) (k : Nat) : Option Nat := L.find? (fun e => e / 2 == k)
theorem mk_some {L : List Nat} (P : PW L) {k e : Nat} : mk L k = some e ↔ e ∈ L ∧ e / 2 = k := by
  unfold mk
  constructor
  · intro h
    exact ⟨List.mem_of_find?_eq_some h, by have := List.find?_some h; simpa using this⟩
  · rintro ⟨h1, h2⟩
    induction L with
    | nil => simp at h1
    | cons a L ih =>
      obtain ⟨P1, P2⟩ := List.pairwise_cons.mp P
      rw [List.find?_cons]
      rcases List.mem_cons.mp h1 with rfl | h1
      · simp [h2]
      · have := P1 e h1
        have hne : (a / 2 == k) = false := by rw [beq_eq_false_iff_ne]; omega
        rw [hne]
        exact ih P2 h1
theorem mk_none {L : List Nat} {k : Nat} : mk L k = none ↔ ∀ e ∈ L, e / 2 ≠ k := by
  unfold mk
  rw [List.find?_eq_none]
  simp
/-- sets with the same entries are the same -/
theorem PW_ext : ∀ {L M : List Nat}, PW L → PW M → (∀ e, e ∈ L ↔ e ∈ M) → L = M
  | [], [], _, _, _ => rfl
  | [], b :: M, _, _, h => absurd ((h b).mpr List.mem_cons_self) (by simp)
  | a :: L, [], _, _, h => absurd ((h a).mp List.mem_cons_self) (by simp)
  | a :: L, b :: M, P, Q, h => by
    obtain ⟨P1, P2⟩ := List.pairwise_cons.mp P
    obtain ⟨Q1, Q2⟩ := List.pairwise_cons.mp Q
    have hab : a = b := by
      rcases List.mem_cons.mp ((h a).mp List.mem_cons_self) with q | q
      · exact q
      · rcases List.mem_cons.mp ((h b).mpr List.mem_cons_self) with q2 | q2
        · exact q2.symm
        · have := P1 b q2
          have := Q1 a q
          omega
    subst hab
    rw [PW_ext P2 Q2 (fun e => ?_)]
    constructor
    · intro he
      rcases List.mem_cons.mp ((h e).mp (List.mem_cons_of_mem _ he)) with q | q
      · have := P1 e he; rw [q] at this; omega
      · exact q
    · intro he
      rcases List.mem_cons.mp ((h e).mpr (List.mem_cons_of_mem _ he)) with q | q
      · have := Q1 e he; rw [q] at this; omega
      · exact q
theorem mk_ext {L M : List Nat} (P : PW L) (Q : PW M) (h : ∀ k, mk L k = mk M k) : L = M := by
  refine PW_ext P Q (fun e => ?_)
  have h1 := mk_some P (k := e / 2) (e := e)
  have h2 := mk_some Q (k := e / 2) (e := e)
  rw [h] at h1
  constructor
  · intro q; exact (h2.mp (h1.mpr ⟨q, rfl⟩)).1
  · intro q; exact (h1.mp (h2.mpr ⟨q, rfl⟩)).1
/-- an entry of both: marked if one is -/
def orE (a b : Nat) : Nat := if b % 2 = 1 then 2 * (b / 2) + 1 else a
def orO (x y : Option Nat) : Option Nat := match x, y with
  | none, y => y
  | some a, none => some a
  | some a, some b => some (orE a b)
theorem orO_none (x : Option Nat) : orO x none = x := by cases x <;> rfl
theorem orE_key {a b : Nat} (h : a / 2 = b / 2) : orE a b / 2 = a / 2 := by
  unfold orE; split <;> omega
/-- one step of the model: entry e comes to L -/
theorem mk_step {s : AS} {i j : Nat} (O : ∀ i, i < 8 → SOK (s.1 i)) (hi : i < 8) (hj : j < 8) (hr : 0 < (s.1 i).length) (hl : plc (s.1 j) (nI (nth (s.1 i) 0 / 2)) = -1 → (s.1 j).length < 60) (k : Nat) : mk ((goStep s i j 0).1 j) k = if nth (s.1 i) 0 / 2 = k then orO (mk (s.1 j) k) (some (nth (s.1 i) 0)) else mk (s.1 j) k := by
  have Sj := O j hj
  have Sg := (goStep_j O hi hj hr hl).1
  have he := (O i hi).lt hr
  unfold goStep at Sg ⊢
  by_cases c : plc (s.1 j) (nI (nth (s.1 i) 0 / 2)) = -1
  · have hno := (plc_iff Sj (by omega)).mp c
    rw [if_pos c] at Sg ⊢
    simp only [vu_eq] at Sg ⊢
    by_cases q : nth (s.1 i) 0 / 2 = k
    · rw [if_pos q]
      have h0 : mk (s.1 j) k = none := mk_none.mpr (fun e h => by rw [← q]; exact hno e h)
      rw [h0]
      exact (mk_some Sg.1).mpr ⟨mem_ins.mpr (Or.inl rfl), q⟩
    · rw [if_neg q]
      cases h0 : mk (s.1 j) k with
      | none =>
        rw [mk_none] at h0 ⊢
        intro e h
        rcases mem_ins.mp h with rfl | h
        · exact q
        · exact h0 e h
      | some e =>
        obtain ⟨h1, h2⟩ := (mk_some Sj.1).mp h0
        exact (mk_some Sg.1).mpr ⟨mem_ins.mpr (Or.inr h1), h2⟩
  · obtain ⟨hb, hpe⟩ := plc_ne c
    have hk := key_eq Sj c
    have hlt := Sj.lt hb
    have hk2 : nth (s.1 j) (bel (s.1 j) (nI (nth (s.1 i) 0 / 2))) / 2 = nth (s.1 i) 0 / 2 := (nI_eq (by omega) (by omega)).mp hk
    have h0 : ∀ k, nth (s.1 i) 0 / 2 = k → mk (s.1 j) k = some (nth (s.1 j) (bel (s.1 j) (nI (nth (s.1 i) 0 / 2)))) := fun k q => (mk_some Sj.1).mpr ⟨nth_mem hb, by omega⟩
    rw [if_neg c] at Sg ⊢
    by_cases c2 : nth (s.1 i) 0 % 2 = 1
    · rw [if_pos c2] at Sg ⊢
      simp only [vu_eq] at Sg ⊢
      by_cases q : nth (s.1 i) 0 / 2 = k
      · rw [if_pos q, h0 k q]
        show _ = some (orE _ _)
        unfold orE
        rw [if_pos c2]
        refine (mk_some Sg.1).mpr ⟨List.mem_iff_getElem.mpr ⟨bel (s.1 j) (nI (nth (s.1 i) 0 / 2)), by rw [List.length_set]; exact hb, by rw [List.getElem_set_self]⟩, by omega⟩
      · rw [if_neg q]
        have hmem : ∀ e, e / 2 = k → (e ∈ (s.1 j).set (bel (s.1 j) (nI (nth (s.1 i) 0 / 2))) (2 * (nth (s.1 i) 0 / 2) + 1) ↔ e ∈ s.1 j) := by
          intro e hek
          constructor
          · intro h
            obtain ⟨z, hz, rfl⟩ := mem_nth h
            rw [List.length_set] at hz
            rw [nth_set hb] at hek ⊢
            by_cases y : z = bel (s.1 j) (nI (nth (s.1 i) 0 / 2))
            · rw [if_pos y] at hek; omega
            · rw [if_neg y]; exact nth_mem hz
          · intro h
            obtain ⟨z, hz, rfl⟩ := mem_nth h
            have y : z ≠ bel (s.1 j) (nI (nth (s.1 i) 0 / 2)) := fun y => by rw [y] at hek; omega
            have := nth_mem (L := (s.1 j).set (bel (s.1 j) (nI (nth (s.1 i) 0 / 2))) (2 * (nth (s.1 i) 0 / 2) + 1)) (j := z) (by rw [List.length_set]; exact hz)
            rw [nth_set hb, if_neg y] at this
            exact this
        refine Option.ext (fun e => ?_)
        rw [mk_some Sg.1, mk_some Sj.1]
        constructor
        · rintro ⟨h1, h2⟩; exact ⟨(hmem e h2).mp h1, h2⟩
        · rintro ⟨h1, h2⟩; exact ⟨(hmem e h2).mpr h1, h2⟩
    · rw [if_neg c2]
      simp only [vu_eq]
      by_cases q : nth (s.1 i) 0 / 2 = k
      · rw [if_pos q, h0 k q]
        show _ = some (orE _ _)
        unfold orE
        rw [if_neg c2]
      · rw [if_neg q]
theorem mk_cons (a : Nat) (L : List Nat) (k : Nat) : mk (a :: L) k = if a / 2 = k then some a else mk L k := by
  unfold mk
  rw [List.find?_cons]
  by_cases q : a / 2 = k
  · simp [q]
  · rw [if_neg q]
    have : (a / 2 == k) = false := by rw [beq_eq_false_iff_ne]; exact q
    rw [this]
/-- all of i go over to j, by the model -/
theorem goI_melt {i j : Nat} (hi : i < 8) (hj : j < 8) (hij : i ≠ j) : ∀ n (s : AS), (∀ q, q < 8 → SOK (s.1 q)) → (s.1 i).length = n → (s.1 j).length + cNew (s.1 j) (s.1 i) ≤ 60 → (goI i j 0 n s).1 i = [] ∧ (∀ k, mk ((goI i j 0 n s).1 j) k = orO (mk (s.1 j) k) (mk (s.1 i) k)) ∧ (∀ q, q ≠ i → q ≠ j → (goI i j 0 n s).1 q = s.1 q ∧ (goI i j 0 n s).2 q = s.2 q) ∧ (goI i j 0 n s).2 j = (if cNew (s.1 j) (s.1 i) = 0 then s.2 j else -1) ∧ (0 < n → (goI i j 0 n s).2 i = -1) ∧ ((goI i j 0 n s).1 j).length = (s.1 j).length + cNew (s.1 j) (s.1 i) ∧ (∀ q, q < 8 → SOK ((goI i j 0 n s).1 q))
  | 0, s, O, hn, _ => by
    have e : s.1 i = [] := List.length_eq_zero_iff.mp hn
    rw [e]
    have ec : cNew (s.1 j) [] = 0 := rfl
    rw [ec, if_pos rfl]
    refine ⟨e, fun k => ?_, fun _ _ _ => ⟨rfl, rfl⟩, rfl, fun h => by omega, rfl, O⟩
    show mk (s.1 j) k = orO (mk (s.1 j) k) none
    rw [orO_none]
  | n + 1, s, O, hn, hl => by
    have hr : 0 < (s.1 i).length := by omega
    have hcs : plc (s.1 j) (nI (nth (s.1 i) 0 / 2)) = -1 → (s.1 j).length < 60 := by
      intro hp
      have e1 : s.1 i = nth (s.1 i) 0 :: (s.1 i).drop 1 := by
        have := drop_cons (i := 0) hr
        rw [List.drop_zero] at this
        exact this
      rw [e1] at hl
      unfold cNew at hl
      rw [List.countP_cons, if_pos (by simpa using hp)] at hl
      omega
    have hstep := cNew_step (m := (s.1 i).length) O hi hj hij hr hr hcs
    have hJ := goStep_j O hi hj hr hcs
    have hO := goStep_ok O hi hj hij hr hcs
    obtain ⟨hI1, hI2⟩ := goStep_i (s := s) (r := 0) hij
    have hlen : ((goStep s i j 0).1 i).length = n := by rw [hI1, List.length_eraseIdx_of_lt hr]; omega
    rw [List.drop_zero, List.take_length] at hstep
    have ht : (((goStep s i j 0).1 i).drop 0).take ((s.1 i).length - 1) = (goStep s i j 0).1 i := by
      rw [List.drop_zero, List.take_of_length_le (by omega)]
    rw [ht] at hstep
    obtain ⟨g1, g2, g3, g4, g5, g6, g7⟩ := goI_melt hi hj hij n (goStep s i j 0) hO hlen (by rw [hJ.2.1]; omega)
    have e1 : s.1 i = nth (s.1 i) 0 :: (goStep s i j 0).1 i := by
      rw [hI1]
      have := drop_cons (i := 0) hr
      rw [List.drop_zero] at this
      rw [List.eraseIdx_zero, ← List.drop_one]
      exact this
    have key2 : (goStep s i j 0).2 j = if plc (s.1 j) (nI (nth (s.1 i) 0 / 2)) = -1 then -1 else s.2 j := by
      unfold goStep
      by_cases c : plc (s.1 j) (nI (nth (s.1 i) 0 / 2)) = -1
      · rw [if_pos c, if_pos c]; simp only [vu_eq]
      · rw [if_neg c, if_neg c]
        split <;> simp only [vu_eq]
    refine ⟨g1, fun k => ?_, fun q h1 h2 => ?_, ?_, fun _ => ?_, ?_, g7⟩
    · show mk ((goI i j 0 n (goStep s i j 0)).1 j) k = _
      rw [g2 k, mk_step O hi hj hr hcs k]
      have e2 : mk (s.1 i) k = if nth (s.1 i) 0 / 2 = k then some (nth (s.1 i) 0) else mk ((goStep s i j 0).1 i) k := by
        conv => lhs; rw [e1]
        rw [mk_cons]
      rw [e2]
      by_cases q : nth (s.1 i) 0 / 2 = k
      · have h0 : mk ((goStep s i j 0).1 i) k = none := mk_none.mpr (fun e h => by
          have P := (O i hi).1
          rw [e1] at P
          have := (List.pairwise_cons.mp P).1 e h
          omega)
        rw [if_pos q, if_pos q, h0, orO_none]
      · rw [if_neg q, if_neg q]
    · have h3 := goStep_o (s := s) (r := 0) h1 h2
      exact ⟨(g3 q h1 h2).1.trans h3.1, (g3 q h1 h2).2.trans h3.2⟩
    · show (goI i j 0 n (goStep s i j 0)).2 j = _
      rw [g4, key2, hstep]
      by_cases c : plc (s.1 j) (nI (nth (s.1 i) 0 / 2)) = -1
      · rw [if_pos c, if_pos c, if_neg (show ¬ cNew ((goStep s i j 0).1 j) ((goStep s i j 0).1 i) + 1 = 0 by omega)]
        split <;> rfl
      · rw [if_neg c, if_neg c, Nat.add_zero]
    · show (goI i j 0 n (goStep s i j 0)).2 i = -1
      rcases Nat.eq_zero_or_pos n with q | q
      · subst q; exact hI2
      · exact g5 q
    · show ((goI i j 0 n (goStep s i j 0)).1 j).length = _
      rw [g6, hJ.2.1, hstep]; omega
