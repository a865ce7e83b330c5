theorem bel_eq {L : List Nat} (S : SOK L) {x : Int32} {p : Nat} (hp : p ≤ L.length) (h1 : ∀ j, j < p → nI (nth L j / 2) < x) (h2 : ∀ j, p ≤ j → j < L.length → ¬ nI (nth L j / 2) < x) : bel L x = p := by
  have hb := bel_le L x
  rcases Nat.lt_trichotomy (bel L x) p with q | q | q
  · have := (bel_iff x L S _ (by omega)).mpr (h1 _ q)
    omega
  · exact q
  · exact absurd ((bel_iff x L S p (by omega)).mp q) (h2 p (Nat.le_refl _) (by omega))
theorem insAt_snoc {M T : List Nat} {b e : Nat} (hb : b ≤ M.length) : insAt (insAt M b T) (b + T.length) [e] = insAt M b (T ++ [e]) := by
  have hl : (M.take b ++ T).length = b + T.length := by simp; omega
  have e1 : insAt M b T = (M.take b ++ T) ++ M.drop b := rfl
  have e2 : (insAt M b T).take (b + T.length) = M.take b ++ T := by rw [e1, ← hl, List.take_left]
  have e3 : (insAt M b T).drop (b + T.length) = M.drop b := by rw [e1, ← hl, List.drop_left]
  show (insAt M b T).take (b + T.length) ++ [e] ++ (insAt M b T).drop (b + T.length) = M.take b ++ (T ++ [e]) ++ M.drop b
  rw [e2, e3]
  simp
theorem mem_insT {M T : List Nat} {r x : Nat} (h : x ∈ insAt M r T) : x ∈ T ∨ x ∈ M := by
  unfold insAt at h
  rcases List.mem_append.mp h with h | h
  · rcases List.mem_append.mp h with h | h
    · exact Or.inr (List.mem_of_mem_take h)
    · exact Or.inl h
  · exact Or.inr (List.mem_of_mem_drop h)
theorem goI_snoc (i j r : Nat) : ∀ (n : Nat) (s : AS), goI i j r (n + 1) s = goStep (goI i j r n s) i j r
  | 0, _ => rfl
  | n + 1, s => goI_snoc i j r n (goStep s i j r)
theorem nth_cut {L : List Nat} {r k j : Nat} (hr : r ≤ L.length) : nth (cutOut L r k) j = if j < r then nth L j else nth L (j + k) := by
  unfold nth cutOut
  rw [List.getD_eq_getElem?_getD]
  by_cases h : j < r
  · rw [if_pos h, List.getElem?_append_left (by simp; omega), List.getElem?_take_of_lt h, List.getD_eq_getElem?_getD]
  · rw [if_neg h, List.getElem?_append_right (by simp; omega), List.getElem?_drop, List.getD_eq_getElem?_getD]
    congr 2
    simp
    omega
theorem cut_len {L : List Nat} {r k : Nat} (h : r + k ≤ L.length) : (cutOut L r k).length = L.length - k := by
  simp [cutOut]; omega
theorem cut_erase {L : List Nat} {r k : Nat} (h : r + k < L.length) : (cutOut L r k).eraseIdx r = cutOut L r (k + 1) := by
  unfold cutOut
  have hl : (L.take r).length = r := by simp; omega
  rw [List.eraseIdx_append_of_length_le (by omega), hl, Nat.sub_self, drop_cons h, List.eraseIdx_cons_zero]
  rfl
theorem dt_snoc {L : List Nat} {r k : Nat} (h : r + k < L.length) : (L.drop r).take (k + 1) = (L.drop r).take k ++ [nth L (r + k)] := by
  rw [List.take_succ_eq_append_getElem (by simp; omega), List.getElem_drop, nth_get h]
/-- a stretch none of whose keys is there goes over as it is -/
theorem goI_give {s : AS} {i j r n : Nat} (O : ∀ q, q < 8 → SOK (s.1 q)) (hi : i < 8) (hj : j < 8) (hij : i ≠ j) (hr : r + n ≤ (s.1 i).length) (hl : (s.1 j).length + n ≤ 60) (hno : ∀ y ∈ s.1 j, y / 2 < nth (s.1 i) r / 2 ∨ nth (s.1 i) (r + n - 1) / 2 < y / 2) : ∀ k, k ≤ n → ((goI i j r k s).1 i = cutOut (s.1 i) r k ∧ (goI i j r k s).1 j = insAt (s.1 j) (bel (s.1 j) (nI (nth (s.1 i) r / 2))) (((s.1 i).drop r).take k) ∧ (∀ q, q ≠ i → q ≠ j → (goI i j r k s).1 q = s.1 q ∧ (goI i j r k s).2 q = s.2 q) ∧ (1 ≤ k → (goI i j r k s).2 i = -1 ∧ (goI i j r k s).2 j = -1) ∧ ∀ q, q < 8 → SOK ((goI i j r k s).1 q)) := by
  have Si := O i hi
  have Sj := O j hj
  have hb := bel_le (s.1 j) (nI (nth (s.1 i) r / 2))
  have hli := Si.len
  intro k
  induction k with
  | zero =>
    intro _
    refine ⟨?_, ?_, fun _ _ _ => ⟨rfl, rfl⟩, fun h => by omega, O⟩
    · show s.1 i = cutOut (s.1 i) r 0
      unfold cutOut; rw [Nat.add_zero, List.take_append_drop]
    · show s.1 j = insAt (s.1 j) _ []
      unfold insAt; rw [List.append_nil, List.take_append_drop]
  | succ k ih =>
    intro hk
    obtain ⟨p1, p2, p3, p4, p5⟩ := ih (by omega)
    have he : nth ((goI i j r k s).1 i) r = nth (s.1 i) (r + k) := by rw [p1, nth_cut (by omega), if_neg (by omega)]
    have hlt := Si.lt (show r + k < (s.1 i).length by omega)
    have hT : (((s.1 i).drop r).take k).length = k := dt_len (by omega)
    have hfirst : nth (s.1 i) r / 2 ≤ nth (s.1 i) (r + k) / 2 := by
      rcases Nat.eq_zero_or_pos k with q | q
      · subst q; exact Nat.le_refl _
      · exact Nat.le_of_lt (Si.inc (by omega) (by omega))
    have hlast : nth (s.1 i) (r + k) / 2 ≤ nth (s.1 i) (r + n - 1) / 2 := by
      rcases Nat.lt_or_ge (r + k) (r + n - 1) with q | q
      · exact Nat.le_of_lt (Si.inc q (by omega))
      · rw [show r + n - 1 = r + k by omega]; exact Nat.le_refl _
    have Sg := p5 j hj
    have hlr := Si.lt (show r < (s.1 i).length by omega)
    have hlen : ((goI i j r k s).1 j).length = (s.1 j).length + k := by rw [p2, insAt_len hb, hT]
    have hpl : plc ((goI i j r k s).1 j) (nI (nth ((goI i j r k s).1 i) r / 2)) = -1 := by
      rw [he, plc_iff Sg (by omega)]
      intro y hy
      rw [p2] at hy
      rcases mem_insT hy with hy | hy
      · obtain ⟨q, hq, rfl⟩ := mem_nth hy
        rw [hT] at hq
        rw [nth_dt hq]
        have := Si.inc (i := r + q) (j := r + k) (by omega) (by omega)
        omega
      · rcases hno y hy with z | z
        · omega
        · omega
    have hbl : bel ((goI i j r k s).1 j) (nI (nth ((goI i j r k s).1 i) r / 2)) = bel (s.1 j) (nI (nth (s.1 i) r / 2)) + k := by
      rw [he]
      refine bel_eq Sg (by omega) (fun q hq => ?_) (fun q hq hq2 => ?_)
      · rw [p2, nth_insAt hb, hT]
        by_cases c1 : q < bel (s.1 j) (nI (nth (s.1 i) r / 2))
        · rw [if_pos c1]
          have h1 := (bel_iff (nI (nth (s.1 i) r / 2)) (s.1 j) Sj q (by omega)).mp c1
          have h2 := Sj.lt (show q < (s.1 j).length by omega)
          have h3 := (nI_ltI (by omega) (by omega)).mp h1
          exact nI_lt (by omega) (by omega)
        · rw [if_neg c1, if_pos (by omega), nth_dt (by omega)]
          have := Si.inc (i := r + (q - bel (s.1 j) (nI (nth (s.1 i) r / 2)))) (j := r + k) (by omega) (by omega)
          exact nI_lt this (by omega)
      · rw [hlen] at hq2
        rw [p2, nth_insAt hb, hT, if_neg (by omega), if_neg (by omega)]
        have h2 := Sj.lt (show q - k < (s.1 j).length by omega)
        have h3 : ¬ nth (s.1 j) (q - k) / 2 < nth (s.1 i) r / 2 := fun z => by
          have := (bel_iff (nI (nth (s.1 i) r / 2)) (s.1 j) Sj (q - k) (by omega)).mpr (nI_lt z (by omega))
          omega
        have h4 := (hno _ (nth_mem (show q - k < (s.1 j).length by omega))).resolve_left h3
        exact nI_nlt (by omega) (by omega)
    have hrl : r < ((goI i j r k s).1 i).length := by rw [p1, cut_len (by omega)]; omega
    have hO := goStep_ok p5 hi hj hij hrl (fun _ => by omega)
    rw [goI_snoc]
    refine ⟨?_, ?_, fun q h1 h2 => ?_, fun _ => ?_, hO⟩
    · rw [(goStep_i hij).1, p1, cut_erase (by omega)]
    · have e1 : (goStep (goI i j r k s) i j r).1 j = insAt ((goI i j r k s).1 j) (bel ((goI i j r k s).1 j) (nI (nth ((goI i j r k s).1 i) r / 2))) [nth ((goI i j r k s).1 i) r] := by
        unfold goStep; rw [if_pos hpl]; simp only [vu_eq]
      rw [e1, hbl, he, p2]
      have := insAt_snoc (M := s.1 j) (T := ((s.1 i).drop r).take k) (b := bel (s.1 j) (nI (nth (s.1 i) r / 2))) (e := nth (s.1 i) (r + k)) hb
      rw [hT] at this
      rw [this, dt_snoc (by omega)]
    · have h3 := goStep_o (s := goI i j r k s) (r := r) h1 h2
      exact ⟨h3.1.trans (p3 q h1 h2).1, h3.2.trans (p3 q h1 h2).2⟩
    · refine ⟨(goStep_i hij).2, ?_⟩
      unfold goStep; rw [if_pos hpl]; simp only [vu_eq]
theorem goI_giveA {s : AS} {i j r n : Nat} (O : ∀ q, q < 8 → SOK (s.1 q)) (hi : i < 8) (hj : j < 8) (hij : i ≠ j) (hn : 1 ≤ n) (hr : r + n ≤ (s.1 i).length) (hl : (s.1 j).length + n ≤ 60) (hno : ∀ y ∈ s.1 j, y / 2 < nth (s.1 i) r / 2 ∨ nth (s.1 i) (r + n - 1) / 2 < y / 2) : goI i j r n s = giveA s i j r n ∧ ∀ q, q < 8 → SOK ((giveA s i j r n).1 q) := by
  obtain ⟨p1, p2, p3, p4, p5⟩ := goI_give O hi hj hij hr hl hno n (Nat.le_refl _)
  have e : goI i j r n s = giveA s i j r n := by
    unfold giveA
    refine Prod.ext (funext fun q => ?_) (funext fun q => ?_)
    · by_cases c1 : q = j
      · subst c1; simp only [vu_eq]; exact p2
      · by_cases c2 : q = i
        · subst c2; simp only [vu_ne _ _ c1, vu_eq]; exact p1
        · simp only [vu_ne _ _ c1, vu_ne _ _ c2]; exact (p3 q c2 c1).1
    · by_cases c1 : q = j
      · subst c1; simp only [vu_eq]; exact (p4 hn).2
      · by_cases c2 : q = i
        · subst c2; simp only [vu_ne _ _ c1, vu_eq]; exact (p4 hn).1
        · simp only [vu_ne _ _ c1, vu_ne _ _ c2]; exact (p3 q c2 c1).2
  exact ⟨e, by rw [← e]; exact p5⟩
theorem cNew_le (M T : List Nat) : cNew M T ≤ T.length := List.countP_le_length
/-- the model: a stretch none of whose keys is there -/
theorem mgive {C : MW} (hC : C.length = 123) {F : Nat → Int32} {v : Int64} {b : Nat} (hb : F 9 = nI b) (hb2 : b ≤ 976) {i j : Nat} (hi : i < 8) (hj : j < 8) (hij : i ≠ j) {fu : Nat} (hfu : 100 ≤ fu) {s : AS} {ar : Nat → Nat → Int32} (O : ∀ q, q < 8 → SOK (s.1 q)) (M : M8 (ar 0) b s) {x y : Int32} {r n : Nat} (hcx : cnt (s.1 i) x y = n) (hbx : bel (s.1 i) x = r) (hn : 1 ≤ n) (hr : r + n ≤ (s.1 i).length) (hl : (s.1 j).length + n ≤ 60) (hno : ∀ z ∈ s.1 j, z / 2 < nth (s.1 i) r / 2 ∨ nth (s.1 i) (r + n - 1) / 2 < z / 2) : ∃ al, f_X11_goOver fu (mW C F v ar) 123 (nI i) x y (nI j) = some (nI n, mW C F v (ua ar 0 al)) ∧ M8 al b (giveA s i j r n) ∧ (∀ q, q < 8 → SOK ((giveA s i j r n).1 q)) ∧ ∀ q, q < b ∨ b + 976 ≤ q → al q = ar 0 q := by
  have Si := O i hi
  have hli := Si.len
  obtain ⟨e1, e2⟩ := goI_giveA O hi hj hij hn hr hl hno
  have hc2 : (s.1 j).length + cNew (s.1 j) (((s.1 i).drop r).take (n - 0)) ≤ 60 := by
    have := cNew_le (s.1 j) (((s.1 i).drop r).take (n - 0))
    rw [Nat.sub_zero, dt_len hr] at this
    rw [Nat.sub_zero]
    omega
  obtain ⟨al, g1, g2, g3, g4⟩ := mgo_loop (v := v) hC hb hb2 hi hj hij hfu r n (by omega) fu 0 s ar O M (by omega) (by omega) hc2 (by omega)
  rw [Nat.sub_zero, e1] at g2
  refine ⟨al, ?_, g2, e2, g4⟩
  rw [f_X11_goOver, m_cl hC, mcounted_ok hC hb hb2 hi (M i hi) Si hfu, some_bind', bnd_eq, m_cl hC, mbelow_ok hC hb hb2 hi (M i hi) Si hfu, some_bind', bnd_eq, bnd_eq, hcx, hbx]
  exact g1
