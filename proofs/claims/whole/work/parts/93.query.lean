/-! what is only asked -/
section Q
variable {C : MW} {F : Nat → Int32} {v : Int64} {ar : Nat → Nat → Int32} {s : AS} {V : List AS} {n : Nat} {fu : Nat}
theorem good_q (G : Good C F v ar s V n) {w' : MW} {ks : List Nat} (Q : Chg ks (mW C F v ar) w') (hk : ∀ k, k ∈ ks → 1 ≤ k ∧ k < 31) (h : CS w' s.1 s.2) (Z : Sc w') : ∃ C1, w' = mW C1 F v ar ∧ C1.length = 123 ∧ Good C1 F v ar s V n ∧ ∀ k, k ∉ actKs → C1[k]? = C[k]? := by
  obtain ⟨⟨hC, T, h0, O, P, M, U, h8, h9⟩, Z0, FO, FV⟩ := G
  obtain ⟨C1, b1, b2, b3⟩ := mW_chg hC Q (fun k hk' => by have := hk k hk'; omega)
  have T1 := T.chg Q (fun hk' => by have := hk 0 hk'; omega)
  have P1 := P.chg Q (fun k hk' => by have := hk k hk'; omega)
  subst b2
  exact ⟨C1, rfl, b1, ⟨⟨b1, T1, h, O, P1, M, U, h8, h9⟩, Z, FO, FV⟩, fun k hk' => b3 k (fun q => hk' (by have := hk k q; rw [actKs_iff]; omega))⟩
theorem Good.cl {α : Type} (G : Good C F v ar s V n) (x : Option α) : cl (mW C F v ar) 10 0 x = x := by
  obtain ⟨a, b, h⟩ := G.1.2.1
  exact cl_ob h x
theorem Good.st (G : Good C F v ar s V n) : gR (mW C F v ar) 10 0 0 = some 1 := by
  obtain ⟨a, b, h⟩ := G.1.2.1
  exact gR_ob h rfl
theorem q_res {C1 : MW} (G1 : Good C1 F v ar s V n) (hC : ∀ k, k ∉ actKs → C1[k]? = C[k]?) {p : Option (Int32 × MW)} {q : MW → Option (Int32 × MW)} {x : Int32} {F' : Nat → Int32} {v' : Int64} {ar' : Nat → Nat → Int32} (hp : p = some (x, mW C1 F v ar)) (hq : q (mW C1 F v ar) = some (x, mW C1 F' v' ar')) (hF : ∀ k, k < 11 ∨ 22 < k → F' k = F k) (ha : ∀ k, k < 4 → ar' k = ar k) : Res C F ar s V p q := by
  obtain ⟨⟨c1, T, h, O, P, M, U, h8, h9⟩, Z, FO, FV⟩ := G1
  refine ⟨x, _, C1, F', v', ar', n, hp, hq, m_cl c1 _ _ _ _, ⟨⟨c1, T.m c1 _ _ _, h.m c1 _ _ _, O, P.m c1 _ _ _, ?_, ?_, ?_, ?_⟩, Z.m c1 _ _ _, FO, FV⟩, hC, fun k hk => hF k (by omega), fun k h1 h2 => ha k h2, fun q hq => by rw [ha 0 (by omega)]⟩
  · rw [ha 0 (by omega)]; exact M
  · rw [ha 0 (by omega)]; exact U
  · rw [hF 8 (by omega)]; exact h8
  · rw [hF 9 (by omega)]; exact h9
theorem hpa_in (G : Good C F v ar s V n) {i : Nat} (hi : i < 8) : (gR (mW C F v ar) 10 0 0).bind (fun x1 => cl (mW C F v ar) 7 x1 (f_X7_heapAt (mW C F v ar) x1 (nI i))) = some (some (13 + 2 * i)) := by
  rw [G.st, some_bind', G.1.2.2.1.cl, heapAt_in G.1.2.2.1 hi]
/-- KEY -/
theorem key_res (G : Good C F v ar s V n) (a b : Int32) : ∃ x, f_X10_key (mW C F v ar) 0 a b = some x ∧ f_X11_key (mW C F v ar) 123 a b = some x := by
  have h := G.1.2.2.1
  have B := G.1.mb
  have O := G.1.2.2.2.1
  rw [f_X10_key, f_X11_key, G.st, some_bind', h.cl]
  rcases set_cases a with ⟨i, hi, rfl⟩ | ha
  · have S := O.1 i hi
    have l1 := S.len
    rw [heapAt_in h hi, some_bind', mSet_in hi, if_neg (by decide), B.cl, B.many hi, some_bind']
    dsimp only
    rw [(h.ha hi).cl]
    by_cases c : b < 0
    · rw [keyAt_neg c, some_bind', f_X11_isIn, if_pos c, if_pos rfl]
      exact ⟨-1, rfl, rfl⟩
    · obtain ⟨j, hj, rfl⟩ := nI_of c
      by_cases c2 : j < (s.1 i).length
      · rw [keyAt_in (h.ha hi) S c2, some_bind', mI_sub, f_X11_isIn, if_neg c, if_neg (show ¬ mI (s.1 i).length < nI j from fun q => by have := (mI_lt (by omega) (by omega)).mp q; omega), if_neg (show ¬ (1 : Int32) = 0 by decide), B.cl, B.key hi c2, some_bind']
        exact ⟨_, rfl, rfl⟩
      · rw [keyAt_out (h.ha hi) (by omega) hj, some_bind', mI_sub, f_X11_isIn, if_neg c]
        have : mI (s.1 i).length < nI j := by
          rcases Nat.eq_zero_or_pos (s.1 i).length with q | q
          · rw [q, mI_0]; exact m1_lt j hj
          · obtain ⟨z, hz⟩ : ∃ z, (s.1 i).length = z + 1 := ⟨(s.1 i).length - 1, by omega⟩
            rw [hz, mI_s]; exact nI_lt (by omega) hj
        rw [if_pos this, if_pos rfl]
        exact ⟨-1, rfl, rfl⟩
  · rw [heapAt_out ha, some_bind', mSet_out ha, if_pos rfl]
    exact ⟨-1, rfl, rfl⟩
/-- HALVES -/
theorem halves_res (G : Good C F v ar s V n) (a : Int32) : ∃ x, f_X10_halves (mW C F v ar) 0 a = some x ∧ f_X11_halves (mW C F v ar) 123 a = some x := by
  have h := G.1.2.2.1
  have B := G.1.mb
  have O := G.1.2.2.2.1
  rw [f_X10_halves, f_X11_halves, G.st, some_bind', h.cl]
  rcases set_cases a with ⟨i, hi, rfl⟩ | ha
  · have S := O.1 i hi
    have l1 := S.len
    rw [heapAt_in h hi, some_bind', mSet_in hi, if_neg (by decide), B.cl, B.many hi, some_bind']
    dsimp only
    rw [gI_ob (h.ha hi).2.1 rfl, some_bind']
    by_cases c : 2 ≤ (s.1 i).length
    · rw [if_pos (show (2 : Int32) ≤ nI (s.1 i).length from nI_le (a := 2) c (by omega)), if_neg (show ¬ nI (s.1 i).length ≤ (1 : Int32) from nI_ge (a := 1) (by omega) (by omega)), some_bind', nI_1, show (2 : Int32) = nI 2 from rfl, pk_div (by omega) (by omega) (by omega), show (1 : Int32) = nI 1 from rfl, nI_sub (by omega), (h.ha hi).cl, keyAt_in (h.ha hi) S (by omega), some_bind', some_bind', nI_add, pk_div (by omega) (by omega) (by omega), nI_sub (by omega), B.cl, B.key hi (by omega), some_bind']
      exact ⟨_, rfl, rfl⟩
    · rw [if_neg (show ¬ (2 : Int32) ≤ nI (s.1 i).length from nI_ge (b := 2) (by omega) (by omega)), if_pos (show nI (s.1 i).length ≤ (1 : Int32) from nI_le (b := 1) (by omega) (by omega))]
      exact ⟨-1, rfl, rfl⟩
  · rw [heapAt_out ha, some_bind', mSet_out ha, if_pos rfl]
    exact ⟨-1, rfl, rfl⟩
/-- WHERE -/
def whF (hs : Nat → List Nat) (k : Int32) : Nat → Int32 → Nat → Int32
  | i, acc, 0 => acc
  | i, acc, n + 1 => whF hs k (i + 1) (if plc (hs i) k = -1 then acc else acc ||| ((1 : Int32) <<< (nI i &&& 31))) n
theorem cwhere_loop (G : Good C F v ar s V n) (hfu : 100 ≤ fu) (k : Int32) : ∀ N i acc, i ≤ 8 → 8 - i < N → f_X10_where_4 fu (mW C F v ar) N 0 k acc (nI i) = some (whF s.1 k i acc (8 - i)) := by
  have h := G.1.2.2.1
  have O := G.1.2.2.2.1
  intro N
  induction N with
  | zero => intro i acc _ hN; omega
  | succ N ih =>
    intro i acc hi hN
    rw [f_X10_where_4]
    by_cases c : 8 ≤ i
    · rw [if_pos (show (8 : Int32) ≤ nI i from nI_le (a := 8) c (by omega)), show 8 - i = 0 by omega]; rfl
    · have hi8 : i < 8 := by omega
      rw [if_neg (show ¬ (8 : Int32) ≤ nI i from nI_ge (b := 8) hi8 (by omega)), G.st, some_bind', h.arr, some_bind', h.heap hi8, some_bind', (h.ha hi8).cl, rankOf_ok (h.ha hi8) (O.1 i hi8) hfu, some_bind', show 8 - i = (8 - (i + 1)) + 1 by omega]
      by_cases q : plc (s.1 i) k = -1
      · rw [if_pos q, f_X10_where_33, bnd_eq, nI_1, ih (i + 1) acc (by omega) (by omega), whF, if_pos q]
      · rw [if_neg q, bnd_eq, f_X10_where_33, bnd_eq, nI_1, ih (i + 1) _ (by omega) (by omega), whF, if_neg q]
theorem or_zero (x : Int32) : x ||| (0 : Int32) = x := by
  apply Int32.toBitVec_inj.mp
  show x.toBitVec ||| 0#32 = x.toBitVec
  simp
theorem mwhere_loop {b : Nat} (B : MB C F ar b s) (hfu : 100 ≤ fu) (k : Int32) : ∀ N i acc, i ≤ 8 → 8 - i < N → f_X11_where_4 fu (mW C F v ar) N 123 k acc (nI i) = some (whF s.1 k i acc (8 - i)) := by
  intro N
  induction N with
  | zero => intro i acc _ hN; omega
  | succ N ih =>
    intro i acc hi hN
    rw [f_X11_where_4]
    by_cases c : 8 ≤ i
    · rw [if_pos (show (8 : Int32) ≤ nI i from nI_le (a := 8) c (by omega)), show 8 - i = 0 by omega]; rfl
    · have hi8 : i < 8 := by omega
      rw [if_neg (show ¬ (8 : Int32) ≤ nI i from nI_ge (b := 8) hi8 (by omega)), B.cl, B.place hi8 hfu, some_bind', show 8 - i = (8 - (i + 1)) + 1 by omega]
      by_cases q : plc (s.1 i) k = -1
      · rw [if_pos q, f_X11_where_28, bnd_eq, bnd_eq, nI_1, or_zero, ih (i + 1) acc (by omega) (by omega), whF, if_pos q]
      · rw [if_neg q, f_X11_where_28, bnd_eq, bnd_eq, nI_1, ih (i + 1) _ (by omega) (by omega), whF, if_neg q]
theorem mwhere_ok {b : Nat} (B : MB C F ar b s) (hfu : 100 ≤ fu) (k : Int32) : f_X11_where fu (mW C F v ar) 123 k = some (whF s.1 k 0 0 8) := by
  rw [f_X11_where, bnd_eq, bnd_eq]
  exact mwhere_loop B hfu k fu 0 0 (by omega) (by omega)
theorem where_res (G : Good C F v ar s V n) (hfu : 100 ≤ fu) (k : Int32) : ∃ x, f_X10_where fu (mW C F v ar) 0 k = some x ∧ f_X11_where fu (mW C F v ar) 123 k = some x := by
  refine ⟨_, ?_, mwhere_ok G.1.mb hfu k⟩
  rw [f_X10_where, bnd_eq, bnd_eq]
  exact cwhere_loop G hfu k fu 0 0 (by omega) (by omega)
/-- WITHIN -/
def wiG (x y : Int32) (m : Int32) (L : List Nat) (j : Nat) : Nat := if (x ≤ nI (nth L j / 2) ∧ nI (nth L j / 2) ≤ y) ∧ (m = 0 ∨ nth L j % 2 = 1) then 1 else 0
theorem mwithin_loop {b : Nat} (B : MB C F ar b s) {i : Nat} (hi : i < 8) (x y m : Int32) : ∀ N k acc, k ≤ (s.1 i).length → (s.1 i).length - k < N → f_X11_within_15 fu (mW C F v ar) N 123 (nI i) x y m (nI acc) (nI k) = some (nI (acc + smF (wiG x y m (s.1 i)) k (s.1 i).length)) := by
  have l1 := (B.2.2.2.2 i hi).len
  intro N
  induction N with
  | zero => intro k acc _ hN; omega
  | succ N ih =>
    intro k acc hk hN
    rw [f_X11_within_15, B.cl, B.many hi, some_bind']
    by_cases c : (s.1 i).length ≤ k
    · rw [if_pos (nI_le c (by omega)), smF_end _ c]; rfl
    · have hk' : k < (s.1 i).length := by omega
      have nx : ∀ z, f_X11_within_63 fu (mW C F v ar) (f_X11_within_15 fu (mW C F v ar) N) 123 (nI i) x y m (nI k) (nI acc) (nI z) = some (nI (acc + (z + smF (wiG x y m (s.1 i)) (k + 1) (s.1 i).length))) := fun z => by
        rw [f_X11_within_63, bnd_eq, bnd_eq, nI_add, nI_1, ih (k + 1) _ hk' (by omega), Nat.add_assoc]
      rw [if_neg (nI_ge hk' (by omega)), B.cl, B.key hi hk', some_bind', smF_cons _ hk']
      by_cases c2 : x ≤ nI (nth (s.1 i) k / 2) ∧ nI (nth (s.1 i) k / 2) ≤ y
      · rw [if_neg (fun q => (isIn_0 _ _ _).mp q c2)]
        by_cases c3 : m = 0
        · have e : wiG x y m (s.1 i) k = 1 := by unfold wiG; rw [if_pos ⟨c2, Or.inl c3⟩]
          rw [if_pos c3, e]; exact nx 1
        · rw [if_neg c3, B.cl, B.mark hi hk', some_bind']
          by_cases c4 : nth (s.1 i) k % 2 = 1
          · have e : wiG x y m (s.1 i) k = 1 := by unfold wiG; rw [if_pos ⟨c2, Or.inr c4⟩]
            rw [c4, if_pos (by decide), e]; exact nx 1
          · have e : wiG x y m (s.1 i) k = 0 := by unfold wiG; rw [if_neg (fun q => q.2.elim c3 c4)]
            rw [show nth (s.1 i) k % 2 = 0 by omega, if_neg (by decide), e]; exact nx 0
      · have e : wiG x y m (s.1 i) k = 0 := by unfold wiG; rw [if_neg (fun q => c2 q.1)]
        rw [if_pos ((isIn_0 _ _ _).mpr c2), e]; exact nx 0
theorem wi_0 {L : List Nat} (S : SOK L) (x y m : Int32) {j : Nat} (hj : j < L.length) (h : ¬ (bel L x ≤ j ∧ j < nab L y)) : wiG x y m L j = 0 := by
  unfold wiG
  rw [if_neg (fun q => h ((in_range S x y hj).mp q.1))]
theorem wi_range {L : List Nat} (S : SOK L) (x y m : Int32) : smF (wiG x y m L) 0 L.length = smF (wiG x y m L) (bel L x) (nab L y) := by
  have h1 := bel_le L x
  have h2 := nab_le L y
  rcases Nat.lt_or_ge (nab L y) (bel L x) with c | c
  · rw [smF_end _ (show nab L y ≤ bel L x by omega), smF_zero _ (fun j _ hj => wi_0 S x y m hj (by omega))]
  · rw [smF_split _ (Nat.zero_le (bel L x)) _ h1, smF_split _ c _ h2, smF_zero _ (i := 0) (fun j _ hj => wi_0 S x y m (by omega) (by omega)), smF_zero _ (i := nab L y) (fun j _ hj => wi_0 S x y m (by omega) (by omega))]
    omega
theorem smF_congr {f g : Nat → Nat} {i e : Nat} (h : ∀ j, i ≤ j → j < e → f j = g j) : smF f i e = smF g i e := by
  unfold smF
  congr 1
  apply List.map_congr_left
  intro j hj
  rw [List.mem_range'_1] at hj
  exact h j (by omega) (by omega)
theorem smF_const1 {f : Nat → Nat} : ∀ (e i : Nat), (∀ j, i ≤ j → j < e → f j = 1) → smF f i e = e - i
  | 0, i, _ => by rw [smF_end _ (by omega)]; omega
  | e + 1, i, h => by
    rcases Nat.lt_or_ge e i with c | c
    · rw [smF_end _ (by omega)]; omega
    · rw [smF_snoc f e i c, smF_const1 e i (fun j h1 h2 => h j h1 (by omega)), h e c (by omega)]; omega
theorem within_res (G : Good C F v ar s V n) (hfu : 100 ≤ fu) (a x y m : Int32) : ∃ z, f_X10_within fu (mW C F v ar) 0 a x y m = some z ∧ f_X11_within fu (mW C F v ar) 123 a x y m = some z := by
  have h := G.1.2.2.1
  have B := G.1.mb
  have O := G.1.2.2.2.1
  rw [f_X10_within, f_X11_within, G.st, some_bind', h.cl]
  rcases set_cases a with ⟨i, hi, rfl⟩ | ha
  · have S := O.1 i hi
    have l1 := S.len
    have n1 := bel_le (s.1 i) x
    have n2 := nab_le (s.1 i) y
    rw [heapAt_in h hi, some_bind', mSet_in hi, if_neg (by decide), bnd_eq, bnd_eq, show (0 : Int32) = nI 0 from rfl, mwithin_loop (fu := fu) B hi x y m fu 0 0 (by omega) (by omega), Nat.zero_add, wi_range S]
    dsimp only
    refine ⟨_, ?_, rfl⟩
    by_cases c : m = nI 0
    · rw [if_pos c, (h.ha hi).cl, howMany_ok (h.ha hi) S hfu, some_bind']
      congr 2
      unfold hmb
      exact (smF_const1 _ _ (fun j h1 h2 => by unfold wiG; rw [if_pos ⟨(in_range S x y (by omega)).mpr ⟨h1, h2⟩, Or.inl c⟩])).symm
    · rw [if_neg c, (h.ha hi).cl, marked_ok (h.ha hi) S hfu, some_bind']
      congr 2
      unfold mkb
      refine smF_congr (fun j h1 h2 => ?_)
      unfold wiG
      by_cases q : nth (s.1 i) j % 2 = 1
      · rw [if_pos ⟨(in_range S x y (by omega)).mpr ⟨h1, h2⟩, Or.inr q⟩, q]
      · rw [if_neg (fun z => z.2.elim c q)]; omega
  · rw [heapAt_out ha, some_bind', mSet_out ha, if_pos rfl]
    exact ⟨-1, rfl, rfl⟩
end Q
