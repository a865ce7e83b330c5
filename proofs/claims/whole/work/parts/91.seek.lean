/-! the class's tree of a set; SEEK -/
theorem argm_ex (P : Nat → Nat) (f : Nat) : ∀ e, f < e → ∃ a, ArgM P f e a
  | 0, h => by omega
  | e + 1, h => by
    rcases Nat.lt_or_ge f e with c | c
    · obtain ⟨a, h1, h2, h3⟩ := argm_ex P f e c
      rcases Nat.lt_or_ge (P a) (P e) with q | q
      · refine ⟨e, by omega, by omega, fun z z1 z2 => ?_⟩
        rcases Nat.lt_or_ge z e with y | y
        · have := h3 z z1 y; omega
        · rw [show z = e by omega]; exact Nat.le_refl _
      · refine ⟨a, h1, by omega, fun z z1 z2 => ?_⟩
        rcases Nat.lt_or_ge z e with y | y
        · exact h3 z z1 y
        · rw [show z = e by omega]; exact q
    · exact ⟨f, Nat.le_refl _, by omega, fun z z1 z2 => by rw [show z = f by omega]; exact Nat.le_refl _⟩
theorem dep_mono {P : Nat → Nat} {n x y : Nat} (hinj : ∀ i j, i < n → j < n → P i = P j → i = j) (hx : x < n) (hy : y < n) (h : anc P y x) : dep P n y ≤ dep P n x := by
  by_cases c : y = x
  · rw [c]; exact Nat.le_refl _
  · unfold dep
    refine List.countP_mono_left (fun z hz q => ?_)
    have hz' := List.mem_range.mp hz
    rw [Bool.and_eq_true, decide_eq_true_eq, ancB_iff] at q ⊢
    refine ⟨fun q2 => ?_, anc_tr q.2 h⟩
    subst q2
    have e1 := anc_le q.2
    have e2 := anc_le h
    exact c (hinj y z hy hz' (by omega))
/-- keys of entries -/
def kys (L : List Nat) : List Nat := L.map (fun e => e / 2)
theorem kys_len (L : List Nat) : (kys L).length = L.length := List.length_map _
theorem kys_nth {L : List Nat} {j : Nat} (h : j < L.length) : nth (kys L) j = nth L j / 2 := nth_map h
theorem kys_ok {L : List Nat} (S : SOK L) : KO (kys L) := by
  refine ⟨List.pairwise_map.mpr S.1, fun k hk => ?_, by rw [kys_len]; have := S.len; omega⟩
  obtain ⟨e, he, rfl⟩ := List.mem_map.mp hk
  have := S.2.1 e he
  omega
/-- the keys that the tree is grown of: one more, one gone -/
def gK (v3 : Int32) : Option Nat → List Nat → List Nat
  | none, [] => []
  | some m, [] => [m]
  | none, k :: ks => (if nI k = v3 then [] else [k]) ++ gK v3 none ks
  | some m, k :: ks => if m < k then m :: ((if nI k = v3 then [] else [k]) ++ gK v3 none ks) else (if nI k = v3 then [] else [k]) ++ gK v3 (some m) ks
def oN (o : Option Nat) : Nat := match o with
  | none => 0
  | some _ => 1
theorem gK_len (v3 : Int32) : ∀ (ks : List Nat) (o : Option Nat), (gK v3 o ks).length ≤ ks.length + oN o
  | [], none => by simp [gK]
  | [], some m => by simp [gK, oN]
  | k :: ks, none => by
    have := gK_len v3 ks none
    rw [gK]
    simp only [List.length_append, List.length_cons]
    split <;> simp <;> omega
  | k :: ks, some m => by
    have h1 := gK_len v3 ks none
    have h2 := gK_len v3 ks (some m)
    rw [gK]
    simp only [oN] at h1 h2 ⊢
    split
    · simp only [List.length_append, List.length_cons]
      split <;> simp <;> omega
    · simp only [List.length_append, List.length_cons]
      split <;> simp <;> omega
theorem addKey_ok {w : MW} {ar : Nat → Nat → Int32} {rt : Int32} {A : List Nat} (h : TW w ar (nI A.length) rt) (hA : KH ar A) (hl : A.length < 61) (k : Nat) : ∃ w' ar', f_X8_addKey w 3 (nI k) = some w' ∧ TW w' ar' (nI (A ++ [k]).length) rt ∧ KH ar' (A ++ [k]) ∧ Chg tKs w w' := by
  obtain ⟨w1, g1, t1, c1⟩ := h.s0 (j := A.length) hl (nI k)
  obtain ⟨w2, g2, t2, c2⟩ := t1.p7 (nI (A.length + 1))
  refine ⟨w2, _, ?_, by rw [List.length_append]; exact t2, fun j hj => ?_, c1.tr c2⟩
  · rw [f_X8_addKey, h.siz, some_bind', if_neg (nI_pos (by omega)), some_bind', if_neg (show ¬ (61 : Int32) ≤ nI A.length from nI_ge (b := 61) hl (by omega)), h.r0, some_bind', some_bind', g1, some_bind', t1.siz, some_bind', nI_1, g2, some_bind']
  · rw [List.length_append] at hj
    simp only [List.length_singleton] at hj
    rw [ua_eq]
    unfold nth
    rw [List.getD_eq_getElem?_getD]
    by_cases c : j < A.length
    · rw [upd_ne _ _ (by omega), hA j c, List.getElem?_append_left c]
      unfold nth
      rw [List.getD_eq_getElem?_getD]
    · rw [show j = A.length by omega, upd_eq, List.getElem?_append_right (Nat.le_refl _), Nat.sub_self]
      rfl
theorem grow_loop {fu h e : Nat} {L : List Nat} {fg : Int32} (S : SOK L) (h10 : 10 < h) (e10 : 10 < e) {v2 v3 : Int32} {rt : Int32} : ∀ N r A w ar (o : Option Nat), HA w h e L fg → TW w ar (nI A.length) rt → KH ar A → (∀ m, o = some m → v2 = nI m ∧ m < 10000) → r ≤ L.length → A.length + (L.length - r) + oN o ≤ 61 → L.length - r < N → ∃ w' ar', f_X8_grow_20 fu N w 3 h v2 v3 (nI (oN o)) (nI r) = f_X8_grow_84 fu w' 3 ∧ TW w' ar' (nI (A ++ gK v3 o (kys (L.drop r))).length) rt ∧ KH ar' (A ++ gK v3 o (kys (L.drop r))) ∧ Chg tKs w w' := by
  have l1 := S.len
  intro N
  induction N with
  | zero => intro r A w ar o _ _ _ _ _ _ hN; omega
  | succ N ih =>
    intro r A w ar o H hT hA ho hr hl hN
    rw [f_X8_grow_20, gI_ob H.2.1 rfl, some_bind']
    by_cases c : L.length ≤ r
    · rw [if_pos (nI_le c (by omega)), drop_len c]
      cases o with
      | none =>
        rw [if_pos (by decide)]
        have e1 : gK v3 none (kys []) = [] := rfl
        rw [e1, List.append_nil]
        exact ⟨w, ar, rfl, hT, hA, Chg.rf _ _⟩
      | some m =>
        obtain ⟨hm, -⟩ := ho m rfl
        have e1 : gK v3 (some m) (kys []) = [m] := rfl
        have : oN (some m) = 1 := rfl
        obtain ⟨w1, ar1, g1, g2, g3, g4⟩ := addKey_ok hT hA (by omega) m
        rw [if_neg (show ¬ nI (oN (some m)) = 0 from (by decide : ¬ nI 1 = 0)), hT.cl, hm, g1, some_bind', e1]
        exact ⟨w1, ar1, rfl, g2, g3, g4⟩
    · have hr' : r < L.length := by omega
      have hb := S.lt hr'
      have e0 : kys (L.drop r) = nth L r / 2 :: kys (L.drop (r + 1)) := by rw [drop_cons hr']; rfl
      rw [if_neg (nI_ge hr' (by omega)), H.cl, keyAt_in H S hr', some_bind', bnd_eq, e0]
      -- the key itself
      have key : ∀ B u a (o' : Option Nat), HA u h e L fg → TW u a (nI B.length) rt → KH a B → (∀ m, o' = some m → v2 = nI m ∧ m < 10000) → B.length + (L.length - r) + oN o' ≤ 61 → ∃ w' ar', f_X8_grow_56 fu (f_X8_grow_20 fu N) u 3 h v2 v3 (nI (oN o')) (nI r) (nI (nth L r / 2)) = f_X8_grow_84 fu w' 3 ∧ TW w' ar' (nI (B ++ ((if nI (nth L r / 2) = v3 then [] else [nth L r / 2]) ++ gK v3 o' (kys (L.drop (r + 1))))).length) rt ∧ KH ar' (B ++ ((if nI (nth L r / 2) = v3 then [] else [nth L r / 2]) ++ gK v3 o' (kys (L.drop (r + 1))))) ∧ Chg tKs u w' := by
        intro B u a o' HU hu hB ho' hl'
        rw [f_X8_grow_56]
        by_cases q : nI (nth L r / 2) = v3
        · rw [if_pos q, if_pos q, f_X8_grow_68, bnd_eq, nI_1, List.nil_append]
          exact ih (r + 1) B u a o' HU hu hB ho' (by omega) (by omega) (by omega)
        · obtain ⟨u1, a1, g1, g2, g3, g4⟩ := addKey_ok hu hB (by omega) (nth L r / 2)
          obtain ⟨u2, a2, k1, k2, k3, k4⟩ := ih (r + 1) (B ++ [nth L r / 2]) u1 a1 o' (HU.chg g4 (by simp; omega) (by simp; omega)) g2 g3 ho' (by omega) (by simp; omega) (by omega)
          rw [if_neg q, if_neg q, hu.cl, g1, some_bind', f_X8_grow_68, bnd_eq, nI_1, k1, ← List.append_assoc]
          exact ⟨u2, a2, rfl, k2, k3, g4.tr k4⟩
      cases o with
      | none =>
        rw [if_pos (by decide), gK]
        exact key A w ar none H hT hA (fun m hm => by simp at hm) hl
      | some m =>
        obtain ⟨hm, hm2⟩ := ho m rfl
        have e1 : oN (some m) = 1 := rfl
        rw [if_neg (show ¬ nI (oN (some m)) = 0 from (by decide : ¬ nI 1 = 0)), gK, hm]
        by_cases q : m < nth L r / 2
        · obtain ⟨u1, a1, g1, g2, g3, g4⟩ := addKey_ok hT hA (by omega) m
          obtain ⟨u2, a2, k1, k2, k3, k4⟩ := key (A ++ [m]) u1 a1 none (H.chg g4 (by simp; omega) (by simp; omega)) g2 g3 (fun m hm => by simp at hm) (by simp [oN]; omega)
          rw [hm] at k1
          rw [if_neg (nI_ge q (by omega)), if_pos q, hT.cl, g1, some_bind', bnd_eq]
          refine ⟨u2, a2, k1, ?_, ?_, g4.tr k4⟩
          · rw [List.append_assoc] at k2; exact k2
          · rw [List.append_assoc] at k3; exact k3
        · rw [if_pos (nI_le (by omega) (by omega)), if_neg q]
          have := key A w ar (some m) H hT hA ho hl
          rw [hm] at this
          exact this
theorem grow_ok {fu h e : Nat} (hfu : 100 ≤ fu) {L : List Nat} {fg : Int32} (S : SOK L) (h10 : 10 < h) (e10 : 10 < e) {v2 v3 : Int32} (o : Option Nat) (ho : ∀ m, o = some m → v2 = nI m ∧ m < 10000) (hn : o = none → v2 = -1) {w : MW} (H : HA w h e L fg) (T : TSh w) (hK : KO (gK v3 o (kys L))) : ∃ w', f_X8_grow fu w 3 h v2 v3 = some w' ∧ TOK w' (gK v3 o (kys L)) ∧ Chg tKs w w' := by
  have l1 := S.len
  obtain ⟨⟨a, b, t1⟩, t2⟩ := T
  have T0 : TW w (fun k => if hk : k < 7 then Classical.choose (t2 k hk) else fun _ => 0) a b := ⟨t1, fun k hk => by
    simp only [dif_pos hk]
    exact Classical.choose_spec (t2 k hk)⟩
  obtain ⟨w1, g1, t3, c1⟩ := T0.p7 0
  have H1 := H.chg c1 (by simp; omega) (by simp; omega)
  have hoN : oN o ≤ 1 := by cases o <;> simp [oN]
  obtain ⟨w2, ar2, k1, k2, k3, k4⟩ := grow_loop (fu := fu) S h10 e10 (v2 := v2) (v3 := v3) fu 0 [] w1 _ o H1 t3 (fun j hj => by simp at hj) ho (by omega) (by simp; omega) (by omega)
  rw [List.drop_zero, List.nil_append] at k2 k3
  obtain ⟨w3, m1, m2, m3⟩ := grow_84 hfu hK k2 k3
  refine ⟨w3, ?_, m2, (c1.tr k4).tr m3⟩
  rw [f_X8_grow, g1, some_bind']
  cases o with
  | none =>
    rw [if_pos (hn rfl), bnd_eq, bnd_eq]
    exact k1.trans m1
  | some m =>
    rw [if_neg (by rw [(ho m rfl).1]; exact m1_ne m (by have := (ho m rfl).2; omega)), bnd_eq, bnd_eq]
    exact k1.trans m1
theorem gK_none : ∀ (ks : List Nat), (∀ k ∈ ks, k < 10000) → gK (-1) none ks = ks
  | [], _ => rfl
  | k :: ks, h => by
    rw [gK, if_neg (m1_ne k (by have := h k List.mem_cons_self; omega)), gK_none ks (fun x hx => h x (List.mem_cons_of_mem _ hx))]
    rfl
theorem CS.tr {w : MW} {hs : Nat → List Nat} {fg : Nat → Int32} (h : CS w hs fg) : gR w 7 1 1 = some 3 := by
  obtain ⟨a, b, c, h1⟩ := h.1
  exact gR_ob h1 rfl
theorem TOK.sh {w : MW} {K : List Nat} (h : TOK w K) : TSh w := by
  obtain ⟨ar, rt, t, -⟩ := h
  exact t.sh
theorem TOK.cl {α : Type} {w : MW} {K : List Nat} (h : TOK w K) (x : Option α) : cl w 8 3 x = x := by
  obtain ⟨ar, rt, t, -⟩ := h
  exact t.cl x
theorem Sc.tree {w w' : MW} (h : Sc w) (C : Chg tKs w w') (T : TSh w') : Sc w' := by
  obtain ⟨z1, ⟨a, b, c, d, e, z2⟩, ⟨f, z3⟩, z4, ⟨g, z5⟩⟩ := h
  exact ⟨T, ⟨a, b, c, d, e, C.at (by simp) z2⟩, ⟨f, C.at (by simp) z3⟩, C.at (by simp) z4, ⟨g, C.at (by simp) z5⟩⟩
theorem treeOf_ok {fu : Nat} (hfu : 100 ≤ fu) {w : MW} {s : AS} (h : CS w s.1 s.2) (Z : Sc w) (O : ∀ q, q < 8 → SOK (s.1 q)) {i : Nat} (hi : i < 8) : ∃ w', f_X7_treeOf fu w 1 (13 + 2 * i) = some (3, w') ∧ TOK w' (kys (s.1 i)) ∧ CS w' s.1 s.2 ∧ Sc w' ∧ Chg tKs w w' := by
  have S := O i hi
  have hk := kys_ok S
  have e1 := gK_none (kys (s.1 i)) hk.2.1
  obtain ⟨w', g1, g2, g3⟩ := grow_ok hfu S (by omega) (by omega) (v2 := -1) (v3 := -1) none (fun m hm => by simp at hm) (fun _ => rfl) (h.ha hi) Z.1 (by rw [e1]; exact hk)
  rw [e1] at g2
  obtain ⟨⟨a, b, t1⟩, -⟩ := Z.1
  have C1 := h.chg g3 (fun k hk => by simp at hk; omega)
  refine ⟨w', ?_, g2, C1, Z.tree g3 g2.sh, g3⟩
  rw [f_X7_treeOf, h.tr, some_bind', cl_ob t1, g1, some_bind', C1.tr, some_bind']
theorem imin_n {a b : Nat} (ha : a < 2 ^ 31) (hb : b < 2 ^ 31) : imin (nI a) (nI b) = nI (min a b) := by
  unfold imin
  by_cases h : b < a
  · rw [if_pos (nI_lt h ha), Nat.min_eq_right (by omega)]
  · rw [if_neg (nI_nlt (by omega) hb), Nat.min_eq_left (by omega)]
theorem isNode_in {w : MW} {K : List Nat} (T : TOK w K) {i : Nat} (hi : i < K.length) (hl : K.length ≤ 61) : f_X8_isNode w 3 (nI i) = some 1 := by
  obtain ⟨ar, rt, t, -⟩ := T
  rw [f_X8_isNode, if_neg (nI_pos (by omega)), t.siz, some_bind', if_neg (nI_ge hi (by omega))]
theorem isNode_m1 {w : MW} : f_X8_isNode w 3 (-1) = some 0 := by
  rw [f_X8_isNode, if_pos (by decide)]
theorem steps_loop {fu : Nat} {w : MW} {K : List Nat} (T : TOK w K) (O : KO K) {i j hi : Nat} (h1 : i < K.length) (h2 : j < K.length) (h3 : hi < K.length) {a : Nat} (ha : a ≤ hi) (hm : ∀ z, z ≤ hi → a ≤ z → dep (pF K) K.length a ≤ dep (pF K) K.length z) : ∀ N k m, m < 100 → dep (pF K) K.length a ≤ m → (∀ z, k ≤ z → z ≤ hi → dep (pF K) K.length a ≤ dep (pF K) K.length z) → (k ≤ a ∨ m = dep (pF K) K.length a) → k ≤ hi + 1 → hi + 1 - k < N → f_X8_steps_39 fu w N 3 (nI i) (nI j) (nI m) (nI hi) (nI k) = some (nI (dep (pF K) K.length i + dep (pF K) K.length j) - nI (2 * dep (pF K) K.length a)) := by
  have h61 := O.2.2
  obtain ⟨ar, rt, t, t1, t2, t3⟩ := id T
  intro N
  induction N with
  | zero => intro k m _ _ _ _ _ hN; omega
  | succ N ih =>
    intro k m hm100 hma hall hor hk hN
    rw [f_X8_steps_39]
    by_cases c : hi < k
    · have em : m = dep (pF K) K.length a := by omega
      rw [if_pos (nI_lt c (by omega)), t.r4, some_bind', t.a4 (by omega), some_bind', some_bind', t.a4 (by omega), some_bind', (t2 i h1).2.2.2.1, (t2 j h2).2.2.2.1, nI_add, show (2 : Int32) = nI 2 from rfl, nI_mul, em]
    · have hkl : k < K.length := by omega
      have hd := dep_lt (P := pF K) hkl
      rw [if_neg (nI_nlt (by omega) (by omega)), t.r4, some_bind', t.a4 (by omega), some_bind', (t2 k hkl).2.2.2.1, bnd_eq, bnd_eq, nI_1, imin_n (by omega) (by omega)]
      have hka := hall k (Nat.le_refl _) (by omega)
      refine ih (k + 1) _ (by omega) (by omega) (fun z z1 z2 => hall z (by omega) z2) ?_ (by omega) (by omega)
      rcases hor with q | q
      · rcases Nat.lt_or_ge k a with q2 | q2
        · exact Or.inl q2
        · have : k = a := by omega
          subst this
          exact Or.inr (by omega)
      · exact Or.inr (by omega)
theorem argm_dep {K : List Nat} (O : KO K) {f e a : Nat} (he : e ≤ K.length) (h : ArgM (pF K) f e a) {z : Nat} (h1 : f ≤ z) (h2 : z < e) : dep (pF K) K.length a ≤ dep (pF K) K.length z := by
  obtain ⟨a1, a2, a3⟩ := h
  exact dep_mono (fun i j hi hj e => O.inj hi hj e) (by omega) (by omega) (fun y hy => a3 y (by omega) (by omega))
theorem steps_ok {fu : Nat} (hfu : 200 ≤ fu) {w : MW} {K : List Nat} (T : TOK w K) (O : KO K) {i j a : Nat} (h1 : i < K.length) (h2 : j < K.length) (hA : ArgM (pF K) (min i j) (max i j + 1) a) : f_X8_steps fu w 3 (nI i) (nI j) = some (nI (dep (pF K) K.length i + dep (pF K) K.length j) - nI (2 * dep (pF K) K.length a)) := by
  have h61 := O.2.2
  have hd := dep_lt (P := pF K) h1
  have hmin := fun z z1 z2 => argm_dep O (show max i j + 1 ≤ K.length by omega) hA (z := z) z1 z2
  rw [f_X8_steps, T.cl, isNode_in T h1 h61, some_bind', if_neg (by decide), T.cl, isNode_in T h2 h61, some_bind', if_neg (by decide)]
  obtain ⟨ar, rt, t, t1, t2, t3⟩ := id T
  rw [t.r4, some_bind', t.a4 (by omega), some_bind', (t2 i h1).2.2.2.1, bnd_eq, bnd_eq, bnd_eq, imax_n (by omega) (by omega), imin_n (by omega) (by omega)]
  have a1 := hA.1
  have a2 := hA.2.1
  exact steps_loop T O h1 h2 (by omega) (by omega) (fun z z1 z2 => hmin z (by omega) (by omega)) fu (min i j) _ (by omega) (hmin i (by omega) (by omega)) (fun z z1 z2 => hmin z z1 (by omega)) (Or.inl a1) (by omega) (by omega)
