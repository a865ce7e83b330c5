/-! the class's way: from the greatest down -/
def mT (L M : List Nat) : Nat → Nat → List Nat
  | 0, 0 => []
  | p + 1, 0 => mT L M p 0 ++ [nth L p]
  | 0, q + 1 => mT L M 0 q ++ [nth M q]
  | p + 1, q + 1 => if nth M q / 2 < nth L p / 2 then mT L M p (q + 1) ++ [nth L p] else if nth L p / 2 = nth M q / 2 then mT L M p q ++ [orE (nth L p) (nth M q)] else mT L M (p + 1) q ++ [nth M q]
termination_by p q => p + q
def app1 (x : Option Nat) (a k : Nat) : Option Nat := match x with
  | some y => some y
  | none => if a / 2 = k then some a else none
theorem mk_app (A : List Nat) (a k : Nat) : mk (A ++ [a]) k = app1 (mk A k) a k := by
  unfold mk app1
  rw [List.find?_append]
  cases h : A.find? (fun e => e / 2 == k) with
  | some y => rfl
  | none =>
    rw [List.find?_cons]
    by_cases q : a / 2 = k
    · simp [q]
    · have : (a / 2 == k) = false := by rw [beq_eq_false_iff_ne]; exact q
      rw [this, if_neg q]; rfl
theorem take_s {L : List Nat} {p : Nat} (h : p < L.length) : L.take (p + 1) = L.take p ++ [nth L p] := by
  rw [List.take_add_one, List.getElem?_eq_getElem h, nth_get h]; rfl
theorem mk_take_none {L : List Nat} (S : SOK L) {p k : Nat} (hp : p ≤ L.length) (h : ∀ i, i < p → nth L i / 2 < k) : mk (L.take p) k = none := by
  rw [mk_none]
  intro e he
  obtain ⟨j, hj, rfl⟩ := mem_nth he
  rw [List.length_take] at hj
  have e1 : nth (L.take p) j = nth L j := by
    unfold nth
    rw [List.getD_eq_getElem?_getD, List.getElem?_take_of_lt (by omega), List.getD_eq_getElem?_getD]
  rw [e1]
  have := h j (by omega)
  omega
theorem app1_ne {x : Option Nat} {a k : Nat} (h : a / 2 ≠ k) : app1 x a k = x := by
  unfold app1
  cases x with
  | some y => rfl
  | none => rw [if_neg h]
/-- what mT is -/
def MTok (L M : List Nat) (p q : Nat) : Prop := PW (mT L M p q) ∧ (∀ e ∈ mT L M p q, (∃ i, i < p ∧ nth L i / 2 = e / 2) ∨ (∃ j, j < q ∧ nth M j / 2 = e / 2)) ∧ (∀ k, mk (mT L M p q) k = orO (mk (L.take p) k) (mk (M.take q) k)) ∧ p ≤ (mT L M p q).length ∧ (∀ e ∈ mT L M p q, e < 20000)
theorem MTok_snoc {L M : List Nat} {p q p' q' x : Nat} (h : MTok L M p q) (hx : x < 20000) (hlt : ∀ i, i < p → nth L i / 2 < x / 2) (hlt2 : ∀ j, j < q → nth M j / 2 < x / 2) (hp : p ≤ p') (hq : q ≤ q') (hin : (∃ i, i < p' ∧ nth L i / 2 = x / 2) ∨ (∃ j, j < q' ∧ nth M j / 2 = x / 2)) (he : mT L M p' q' = mT L M p q ++ [x]) (hpl : p' ≤ p + 1) (hk : ∀ k, app1 (orO (mk (L.take p) k) (mk (M.take q) k)) x k = orO (mk (L.take p') k) (mk (M.take q') k)) : MTok L M p' q' := by
  obtain ⟨h1, h2, h3, h4, h5⟩ := h
  unfold MTok
  rw [he]
  refine ⟨?_, fun e hm => ?_, fun k => ?_, by simp; omega, fun e hm => ?_⟩
  · refine List.pairwise_append.mpr ⟨h1, List.pairwise_singleton _ _, fun a ha b hb => ?_⟩
    rw [List.mem_singleton.mp hb]
    rcases h2 a ha with ⟨i, hi, e⟩ | ⟨j, hj, e⟩
    · have := hlt i hi; omega
    · have := hlt2 j hj; omega
  · rcases List.mem_append.mp hm with hm | hm
    · rcases h2 e hm with ⟨i, hi, e⟩ | ⟨j, hj, e⟩
      · exact Or.inl ⟨i, by omega, e⟩
      · exact Or.inr ⟨j, by omega, e⟩
    · rw [List.mem_singleton.mp hm]; exact hin
  · rw [mk_app, h3 k, hk k]
  · rcases List.mem_append.mp hm with hm | hm
    · exact h5 e hm
    · rw [List.mem_singleton.mp hm]; exact hx
theorem mT_ok {L M : List Nat} (S : SOK L) (S2 : SOK M) : ∀ n p q, p + q ≤ n → p ≤ L.length → q ≤ M.length → MTok L M p q
  | n, 0, 0, _, _, _ => by
    unfold MTok
    rw [mT]
    exact ⟨List.Pairwise.nil, fun e he => by simp at he, fun k => rfl, Nat.le_refl _, fun e he => by simp at he⟩
  | 0, p + 1, q, h, _, _ => by omega
  | 0, 0, q + 1, h, _, _ => by omega
  | n + 1, p + 1, 0, h, hp, hq => by
    have hlt : ∀ i, i < p → nth L i / 2 < nth L p / 2 := fun i hi => S.inc hi hp
    refine MTok_snoc (mT_ok S S2 n p 0 (by omega) (by omega) hq) (S.lt hp) hlt (fun j hj => by omega) (by omega) (by omega) (Or.inl ⟨p, by omega, rfl⟩) (by rw [mT]) (by omega) (fun k => ?_)
    have e0 : mk (M.take 0) k = none := rfl
    rw [e0, orO_none, orO_none, take_s hp, mk_app]
  | n + 1, 0, q + 1, h, hp, hq => by
    have hlt : ∀ i, i < q → nth M i / 2 < nth M q / 2 := fun i hi => S2.inc hi hq
    refine MTok_snoc (mT_ok S S2 n 0 q (by omega) hp (by omega)) (S2.lt hq) (fun j hj => by omega) hlt (by omega) (by omega) (Or.inr ⟨q, by omega, rfl⟩) (by rw [mT]) (by omega) (fun k => ?_)
    have e0 : mk (L.take 0) k = none := rfl
    rw [e0, take_s hq, mk_app]
    rfl
  | n + 1, p + 1, q + 1, h, hp, hq => by
    have hlt : ∀ i, i < p → nth L i / 2 < nth L p / 2 := fun i hi => S.inc hi hp
    have hlt2 : ∀ i, i < q → nth M i / 2 < nth M q / 2 := fun i hi => S2.inc hi hq
    by_cases c1 : nth M q / 2 < nth L p / 2
    · have hq1 : ∀ j, j < q + 1 → nth M j / 2 < nth L p / 2 := fun j hj => by
        rcases Nat.lt_or_ge j q with z | z
        · have := hlt2 j z; omega
        · rw [show j = q by omega]; exact c1
      refine MTok_snoc (mT_ok S S2 n p (q + 1) (by omega) (by omega) hq) (S.lt hp) hlt hq1 (by omega) (by omega) (Or.inl ⟨p, by omega, rfl⟩) (by rw [mT, if_pos c1]) (by omega) (fun k => ?_)
      rw [take_s hp, mk_app]
      by_cases ck : nth L p / 2 = k
      · rw [mk_take_none S (by omega) (fun i hi => by have := hlt i hi; omega), mk_take_none S2 (by omega) (fun i hi => by have := hq1 i hi; omega)]
        show app1 none _ _ = orO (app1 none _ _) none
        rw [orO_none]
      · rw [app1_ne ck, app1_ne ck]
    · by_cases c2 : nth L p / 2 = nth M q / 2
      · have hx : orE (nth L p) (nth M q) / 2 = nth L p / 2 := orE_key c2
        have b1 := S.lt hp
        have b2 := S2.lt hq
        refine MTok_snoc (mT_ok S S2 n p q (by omega) (by omega) (by omega)) (x := orE (nth L p) (nth M q)) (by omega) (fun i hi => by rw [hx]; exact hlt i hi) (fun i hi => by rw [hx, c2]; exact hlt2 i hi) (by omega) (by omega) (Or.inl ⟨p, by omega, hx.symm⟩) (by rw [mT, if_neg c1, if_pos c2]) (by omega) (fun k => ?_)
        rw [take_s hp, mk_app, take_s hq, mk_app]
        by_cases ck : nth L p / 2 = k
        · rw [mk_take_none S (by omega) (fun i hi => by have := hlt i hi; omega), mk_take_none S2 (by omega) (fun i hi => by have := hlt2 i hi; omega)]
          show app1 none _ _ = orO (app1 none _ _) (app1 none _ _)
          unfold app1
          rw [if_pos (by omega), if_pos ck, if_pos (by omega)]
          rfl
        · rw [app1_ne (by omega), app1_ne ck, app1_ne (by omega)]
      · have hp1 : ∀ j, j < p + 1 → nth L j / 2 < nth M q / 2 := fun j hj => by
          rcases Nat.lt_or_ge j p with z | z
          · have := hlt j z; omega
          · rw [show j = p by omega]; omega
        refine MTok_snoc (mT_ok S S2 n (p + 1) q (by omega) hp (by omega)) (S2.lt hq) hp1 hlt2 (by omega) (by omega) (Or.inr ⟨q, by omega, rfl⟩) (by rw [mT, if_neg c1, if_neg c2]) (by omega) (fun k => ?_)
        rw [take_s hq, mk_app]
        by_cases ck : nth M q / 2 = k
        · rw [mk_take_none S (by omega) (fun i hi => by have := hp1 i hi; omega), mk_take_none S2 (by omega) (fun i hi => by have := hlt2 i hi; omega)]
          rfl
        · rw [app1_ne ck, app1_ne ck]
theorem nI_or {a b : Nat} (ha : a < 20000) (hb : b < 20000) (h : a / 2 = b / 2) : nI a ||| nI b = nI (orE a b) := by
  have hx : orE a b < 20000 := by unfold orE; split <;> omega
  apply Int32.toBitVec_inj.mp
  apply BitVec.eq_of_toNat_eq
  show (BitVec.ofNat 32 a ||| BitVec.ofNat 32 b).toNat = (BitVec.ofNat 32 (orE a b)).toNat
  rw [BitVec.toNat_or, BitVec.toNat_ofNat, BitVec.toNat_ofNat, BitVec.toNat_ofNat, Nat.mod_eq_of_lt (show a < 2 ^ 32 by omega), Nat.mod_eq_of_lt (show b < 2 ^ 32 by omega), Nat.mod_eq_of_lt (show orE a b < 2 ^ 32 by omega)]
  have hor := orE_key h
  apply Nat.eq_of_testBit_eq
  intro i
  rw [Nat.testBit_or]
  cases i with
  | zero =>
    rw [Nat.testBit_zero, Nat.testBit_zero, Nat.testBit_zero]
    unfold orE
    by_cases q : b % 2 = 1
    · rw [if_pos q, q, show (2 * (b / 2) + 1) % 2 = 1 by omega]; simp
    · rw [if_neg q]; simp [q]
  | succ i =>
    rw [Nat.testBit_succ, Nat.testBit_succ, Nat.testBit_succ, hor, h, Bool.or_self]
theorem nI_or0 (x : Int32) : (0 : Int32) ||| x = x := by
  apply Int32.toBitVec_inj.mp
  show 0#32 ||| x.toBitVec = x.toBitVec
  simp
/-- an index that may be -1 -/
def mI (p : Nat) : Int32 := nI p + -1
theorem mI_0 : mI 0 = -1 := by decide
theorem mI_s (p : Nat) : mI (p + 1) = nI p := by
  unfold mI
  rw [nI_m1 (by omega)]; rfl
theorem mI_sub (p : Nat) : nI p - 1 = mI p := by unfold mI; rw [Int32.sub_eq_add_neg]
