theorem SOK_of {L : List Nat} (h1 : ∀ i j, i < j → j < L.length → nth L i / 2 < nth L j / 2) (h2 : ∀ j, j < L.length → nth L j < 20000) (h3 : L.length ≤ 60) : SOK L := by
  refine ⟨List.pairwise_iff_getElem.mpr fun i j hi hj hij => ?_, fun e he => ?_, h3⟩
  · have := h1 i j hij hj
    rw [nth_get hi, nth_get hj] at this
    exact this
  · obtain ⟨j, hj, rfl⟩ := List.mem_iff_getElem.mp he
    have := h2 j hj
    rw [nth_get hj] at this
    exact this
theorem mem_nth {L : List Nat} {e : Nat} (h : e ∈ L) : ∃ j, j < L.length ∧ nth L j = e := by
  obtain ⟨j, hj, rfl⟩ := List.mem_iff_getElem.mp h
  exact ⟨j, hj, nth_get hj⟩
/-- a key is not there -/
theorem plc_iff {L : List Nat} (S : SOK L) {k : Nat} (hk : k < 2 ^ 31) : plc L (nI k) = -1 ↔ ∀ e ∈ L, e / 2 ≠ k := by
  constructor
  · intro h e he hek
    obtain ⟨j, hj, rfl⟩ := mem_nth he
    have b1 := bel_iff (nI k) L S j hj
    have hb : bel L (nI k) = j := by
      rcases Nat.lt_trichotomy (bel L (nI k)) j with q | q | q
      · have h1 := S.inc q hj
        have h2 := (bel_iff (nI k) L S _ (by omega)).mpr (nI_lt (a := nth L (bel L (nI k)) / 2) (by omega) hk)
        omega
      · exact q
      · have h2 := b1.mp q
        rw [hek] at h2
        exact absurd h2 (Int32.not_lt.mpr (Int32.le_refl _))
    unfold plc at h
    rw [hb, if_pos ⟨hj, by rw [hek]⟩] at h
    exact absurd h (m1_ne j (by have := S.len; omega))
  · intro h
    unfold plc
    rw [if_neg]
    intro q
    have h1 := S.lt q.1
    exact h _ (nth_mem q.1) ((nI_eq (by omega) hk).mp q.2)
/-- a new key comes in order -/
theorem SOK_ins {M : List Nat} (S : SOK M) (hl : M.length < 60) {e : Nat} (he : e < 20000) (hn : ∀ x ∈ M, x / 2 ≠ e / 2) : SOK (insAt M (bel M (nI (e / 2))) [e]) := by
  have hb := bel_le M (nI (e / 2))
  have hlen : (insAt M (bel M (nI (e / 2))) [e]).length = M.length + 1 := insAt_len hb
  have h1 : ([e] : List Nat).length = 1 := rfl
  have lo : ∀ j, j < M.length → j < bel M (nI (e / 2)) → nth M j / 2 < e / 2 := fun j hj q => by
    have := (bel_iff (nI (e / 2)) M S j hj).mp q
    have := S.lt hj
    exact (nI_ltI (by omega) (by omega)).mp (by assumption)
  have up : ∀ j, j < M.length → bel M (nI (e / 2)) ≤ j → e / 2 < nth M j / 2 := fun j hj q => by
    have h2 := S.lt hj
    have h3 := hn _ (nth_mem hj)
    rcases Nat.lt_trichotomy (nth M j / 2) (e / 2) with z | z | z
    · have := (bel_iff (nI (e / 2)) M S j hj).mpr (nI_lt z (by omega))
      omega
    · exact absurd z h3
    · exact z
  have at_ : ∀ j, nth (insAt M (bel M (nI (e / 2))) [e]) j = if j < bel M (nI (e / 2)) then nth M j else if j = bel M (nI (e / 2)) then e else nth M (j - 1) := fun j => by
    rw [nth_insAt hb, h1]
    by_cases c1 : j < bel M (nI (e / 2))
    · rw [if_pos c1, if_pos c1]
    · rw [if_neg c1, if_neg c1]
      by_cases c2 : j = bel M (nI (e / 2))
      · rw [if_pos (by omega), if_pos c2, c2, Nat.sub_self]; rfl
      · rw [if_neg (by omega), if_neg c2]
  refine SOK_of (fun i j hij hj => ?_) (fun j hj => ?_) (by omega)
  · rw [hlen] at hj
    rw [at_ i, at_ j]
    by_cases c1 : i < bel M (nI (e / 2))
    · rw [if_pos c1]
      have := lo i (by omega) c1
      by_cases c2 : j < bel M (nI (e / 2))
      · rw [if_pos c2]; exact S.inc hij (by omega)
      · rw [if_neg c2]
        by_cases c3 : j = bel M (nI (e / 2))
        · rw [if_pos c3]; exact this
        · rw [if_neg c3]
          have := up (j - 1) (by omega) (by omega)
          omega
    · rw [if_neg c1, if_neg (show ¬ j < bel M (nI (e / 2)) by omega), if_neg (show ¬ j = bel M (nI (e / 2)) by omega)]
      by_cases c2 : i = bel M (nI (e / 2))
      · rw [if_pos c2]; exact up (j - 1) (by omega) (by omega)
      · rw [if_neg c2]; exact S.inc (by omega) (by omega)
  · rw [hlen] at hj
    rw [at_ j]
    by_cases c1 : j < bel M (nI (e / 2))
    · rw [if_pos c1]; exact S.lt (by omega)
    · rw [if_neg c1]
      by_cases c2 : j = bel M (nI (e / 2))
      · rw [if_pos c2]; exact he
      · rw [if_neg c2]; exact S.lt (by omega)
theorem SOK_sub {L M : List Nat} (S : SOK L) (h : M.Sublist L) : SOK M := ⟨S.1.sublist h, fun e he => S.2.1 e (h.subset he), Nat.le_trans h.length_le S.2.2⟩
theorem SOK_erase {L : List Nat} (S : SOK L) (r : Nat) : SOK (L.eraseIdx r) := SOK_sub S (List.eraseIdx_sublist L r)
theorem nth_set {L : List Nat} {r x j : Nat} (hr : r < L.length) : nth (L.set r x) j = if j = r then x else nth L j := by
  unfold nth
  rw [List.getD_eq_getElem?_getD, List.getElem?_set]
  by_cases h : j = r
  · subst h; simp [hr]
  · rw [if_neg (Ne.symm h), if_neg h, List.getD_eq_getElem?_getD]
theorem SOK_set {L : List Nat} (S : SOK L) {r x : Nat} (hr : r < L.length) (hx : x / 2 = nth L r / 2) : SOK (L.set r x) := by
  have hlen : (L.set r x).length = L.length := List.length_set
  have key : ∀ j, nth (L.set r x) j / 2 = nth L j / 2 := fun j => by
    rw [nth_set hr]
    by_cases h : j = r
    · rw [if_pos h, h, hx]
    · rw [if_neg h]
  refine SOK_of (fun i j hij hj => ?_) (fun j hj => ?_) (by rw [hlen]; exact S.len)
  · rw [key, key]
    exact S.inc hij (by omega)
  · have h1 := key j
    have h2 := S.lt (show j < L.length by omega)
    omega
theorem erase_cut {L : List Nat} {r : Nat} : L.eraseIdx r = cutOut L r 1 := List.eraseIdx_eq_take_drop_succ L r
theorem mem_ins {M : List Nat} {r e x : Nat} : x ∈ insAt M r [e] ↔ x = e ∨ x ∈ M := by
  unfold insAt
  constructor
  · intro h
    rcases List.mem_append.mp h with h | h
    · rcases List.mem_append.mp h with h | h
      · exact Or.inr (List.mem_of_mem_take h)
      · exact Or.inl (by simpa using h)
    · exact Or.inr (List.mem_of_mem_drop h)
  · intro h
    rcases h with rfl | h
    · simp
    · have : x ∈ M.take r ++ M.drop r := by rw [List.take_append_drop]; exact h
      rcases List.mem_append.mp this with h | h
      · simp [h]
      · simp [h]
/-- the model's eight rows hold the sets -/
def M8 (al : Nat → Int32) (b : Nat) (s : AS) : Prop := ∀ i, i < 8 → MA al (b + 122 * i) (s.1 i) (s.2 i)
theorem MA.same {al al' : Nat → Int32} {o : Nat} {L : List Nat} {f : Int32} (M : MA al o L f) (hl : L.length ≤ 60) (h : ∀ q, o ≤ q → q < o + 122 → al' q = al q) : MA al' o L f := by
  refine ⟨?_, ?_, fun j hj => ?_⟩
  · rw [h o (by omega) (by omega)]; exact M.1
  · rw [h (o + 1) (by omega) (by omega)]; exact M.2.1
  · rw [h (o + 2 + j) (by omega) (by omega), h (o + 62 + j) (by omega) (by omega)]; exact M.2.2 j hj
theorem M8.put {al al' : Nat → Int32} {b : Nat} {s : AS} (M : M8 al b s) (O : ∀ i, i < 8 → SOK (s.1 i)) {i : Nat} (hi : i < 8) {L : List Nat} {f : Int32} (H : MA al' (b + 122 * i) L f) (h : ∀ q, q < b + 122 * i ∨ b + 122 * i + 122 ≤ q → al' q = al q) : M8 al' b (va_up s.1 i L, va_up s.2 i f) := by
  intro j hj
  by_cases e : j = i
  · subst e
    simp only [va_up, if_true]
    exact H
  · simp only [va_up, if_neg e]
    exact (M j hj).same (O j hj).len (fun q h1 h2 => h q (by omega))
/-- one key goes over, by the model -/
def goStep (s : AS) (i j r : Nat) : AS :=
  if plc (s.1 j) (nI (nth (s.1 i) r / 2)) = -1 then (va_up (va_up s.1 i ((s.1 i).eraseIdx r)) j (insAt (s.1 j) (bel (s.1 j) (nI (nth (s.1 i) r / 2))) [nth (s.1 i) r]), va_up (va_up s.2 i (-1)) j (-1))
  else if nth (s.1 i) r % 2 = 1 then (va_up (va_up s.1 i ((s.1 i).eraseIdx r)) j ((s.1 j).set (bel (s.1 j) (nI (nth (s.1 i) r / 2))) (2 * (nth (s.1 i) r / 2) + 1)), va_up (va_up s.2 i (-1)) j (s.2 j))
  else (va_up (va_up s.1 i ((s.1 i).eraseIdx r)) j (s.1 j), va_up (va_up s.2 i (-1)) j (s.2 j))
def goI (i j r : Nat) : Nat → AS → AS
  | 0, s => s
  | n + 1, s => goI i j r n (goStep s i j r)
theorem MA_mark {al : Nat → Int32} {o p x : Nat} {L : List Nat} {f : Int32} (M : MA al o L f) (hl : L.length ≤ 60) (hp : p < L.length) (hx : x / 2 = nth L p / 2) : MA (upd al (o + 62 + p) (nI (x % 2))) o (L.set p x) f := by
  refine ⟨?_, ?_, fun j hj => ?_⟩
  · rw [upd_ne _ _ (by omega), List.length_set]; exact M.1
  · rw [upd_ne _ _ (by omega)]; exact M.2.1
  · rw [List.length_set] at hj
    rw [nth_set hp, upd_ne _ _ (by omega)]
    by_cases e : j = p
    · subst e
      rw [if_pos rfl, upd_eq, hx]
      exact ⟨(M.2.2 j hj).1, rfl⟩
    · rw [if_neg e, upd_ne _ _ (by omega)]
      exact M.2.2 j hj
