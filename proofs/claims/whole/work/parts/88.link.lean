/-! the class's tree: LINK -/
abbrev tKs : List Nat := [3, 4, 5, 6, 7, 8, 9, 10]
def TW (w : MW) (ar : Nat → Nat → Int32) (sz rt : Int32) : Prop := w[3]? = some (.inr (8, [.ref 4, .ref 5, .ref 6, .ref 7, .ref 8, .ref 9, .ref 10, .int sz, .int rt])) ∧ ∀ k, k < 7 → w[4 + k]? = some (.inl (.int, 61, .inl (ar k)))
section TWs
variable {w : MW} {ar : Nat → Nat → Int32} {sz rt : Int32}
theorem TW.sh (h : TW w ar sz rt) : TSh w := ⟨⟨sz, rt, h.1⟩, fun k hk => ⟨ar k, h.2 k hk⟩⟩
theorem TW.cl {α : Type} (h : TW w ar sz rt) (x : Option α) : cl w 8 3 x = x := cl_ob h.1 x
theorem TW.siz (h : TW w ar sz rt) : gI w 8 3 7 = some sz := gI_ob h.1 rfl
theorem TW.roo (h : TW w ar sz rt) : gI w 8 3 8 = some rt := gI_ob h.1 rfl
theorem TW.chg {ks : List Nat} {w' : MW} (h : TW w ar sz rt) (C : Chg ks w w') (hk : ∀ k, k ∈ ks → k < 3 ∨ 10 < k) : TW w' ar sz rt := ⟨C.at (fun q => by have := hk _ q; omega) h.1, fun k hk' => C.at (fun q => by have := hk _ q; omega) (h.2 k hk')⟩
theorem TW.p7 (h : TW w ar sz rt) (x : Int32) : ∃ w', pV w 8 3 7 (.int x) = some w' ∧ TW w' ar x rt ∧ Chg tKs w w' := ⟨_, pV_ob h.1 (by simp), ⟨get_set_eq h.1, fun k hk => by rw [get_set_ne (by omega)]; exact h.2 k hk⟩, Chg.st _ _ (by simp)⟩
theorem TW.p8 (h : TW w ar sz rt) (x : Int32) : ∃ w', pV w 8 3 8 (.int x) = some w' ∧ TW w' ar sz x ∧ Chg tKs w w' := ⟨_, pV_ob h.1 (by simp), ⟨get_set_eq h.1, fun k hk => by rw [get_set_ne (by omega)]; exact h.2 k hk⟩, Chg.st _ _ (by simp)⟩
theorem TW.sk (h : TW w ar sz rt) {k j : Nat} (hk : k < 7) (hj : j < 61) (x : Int32) : ∃ w', sI w .int (4 + k) (nI j) x = some w' ∧ TW w' (ua ar k (upd (ar k) j x)) sz rt ∧ Chg tKs w w' := by
  refine ⟨_, sI_ar (h.2 k hk) hj (by omega), ⟨by rw [get_set_ne (by omega)]; exact h.1, fun i hi => ?_⟩, Chg.st _ _ (by simp; omega)⟩
  by_cases c : i = k
  · subst c; rw [get_set_eq (h.2 i hi), ua_eq]
  · rw [get_set_ne (by omega), ua_ne _ _ c]; exact h.2 i hi
theorem TW.r0 (h : TW w ar sz rt) : gR w 8 3 0 = some 4 := gR_ob h.1 rfl
theorem TW.a0 (h : TW w ar sz rt) {j : Nat} (hj : j < 61) : aI w .int 4 (nI j) = some (ar 0 j) := aI_ar (h.2 0 (by omega)) hj (by omega)
theorem TW.s0 (h : TW w ar sz rt) {j : Nat} (hj : j < 61) (x : Int32) : ∃ w', sI w .int 4 (nI j) x = some w' ∧ TW w' (ua ar 0 (upd (ar 0) j x)) sz rt ∧ Chg tKs w w' := h.sk (k := 0) (by omega) hj x
theorem TW.r1 (h : TW w ar sz rt) : gR w 8 3 1 = some 5 := gR_ob h.1 rfl
theorem TW.a1 (h : TW w ar sz rt) {j : Nat} (hj : j < 61) : aI w .int 5 (nI j) = some (ar 1 j) := aI_ar (h.2 1 (by omega)) hj (by omega)
theorem TW.s1 (h : TW w ar sz rt) {j : Nat} (hj : j < 61) (x : Int32) : ∃ w', sI w .int 5 (nI j) x = some w' ∧ TW w' (ua ar 1 (upd (ar 1) j x)) sz rt ∧ Chg tKs w w' := h.sk (k := 1) (by omega) hj x
theorem TW.r2 (h : TW w ar sz rt) : gR w 8 3 2 = some 6 := gR_ob h.1 rfl
theorem TW.a2 (h : TW w ar sz rt) {j : Nat} (hj : j < 61) : aI w .int 6 (nI j) = some (ar 2 j) := aI_ar (h.2 2 (by omega)) hj (by omega)
theorem TW.s2 (h : TW w ar sz rt) {j : Nat} (hj : j < 61) (x : Int32) : ∃ w', sI w .int 6 (nI j) x = some w' ∧ TW w' (ua ar 2 (upd (ar 2) j x)) sz rt ∧ Chg tKs w w' := h.sk (k := 2) (by omega) hj x
theorem TW.r3 (h : TW w ar sz rt) : gR w 8 3 3 = some 7 := gR_ob h.1 rfl
theorem TW.a3 (h : TW w ar sz rt) {j : Nat} (hj : j < 61) : aI w .int 7 (nI j) = some (ar 3 j) := aI_ar (h.2 3 (by omega)) hj (by omega)
theorem TW.s3 (h : TW w ar sz rt) {j : Nat} (hj : j < 61) (x : Int32) : ∃ w', sI w .int 7 (nI j) x = some w' ∧ TW w' (ua ar 3 (upd (ar 3) j x)) sz rt ∧ Chg tKs w w' := h.sk (k := 3) (by omega) hj x
theorem TW.r4 (h : TW w ar sz rt) : gR w 8 3 4 = some 8 := gR_ob h.1 rfl
theorem TW.a4 (h : TW w ar sz rt) {j : Nat} (hj : j < 61) : aI w .int 8 (nI j) = some (ar 4 j) := aI_ar (h.2 4 (by omega)) hj (by omega)
theorem TW.s4 (h : TW w ar sz rt) {j : Nat} (hj : j < 61) (x : Int32) : ∃ w', sI w .int 8 (nI j) x = some w' ∧ TW w' (ua ar 4 (upd (ar 4) j x)) sz rt ∧ Chg tKs w w' := h.sk (k := 4) (by omega) hj x
theorem TW.r5 (h : TW w ar sz rt) : gR w 8 3 5 = some 9 := gR_ob h.1 rfl
theorem TW.a5 (h : TW w ar sz rt) {j : Nat} (hj : j < 61) : aI w .int 9 (nI j) = some (ar 5 j) := aI_ar (h.2 5 (by omega)) hj (by omega)
theorem TW.s5 (h : TW w ar sz rt) {j : Nat} (hj : j < 61) (x : Int32) : ∃ w', sI w .int 9 (nI j) x = some w' ∧ TW w' (ua ar 5 (upd (ar 5) j x)) sz rt ∧ Chg tKs w w' := h.sk (k := 5) (by omega) hj x
theorem TW.r6 (h : TW w ar sz rt) : gR w 8 3 6 = some 10 := gR_ob h.1 rfl
theorem TW.a6 (h : TW w ar sz rt) {j : Nat} (hj : j < 61) : aI w .int 10 (nI j) = some (ar 6 j) := aI_ar (h.2 6 (by omega)) hj (by omega)
theorem TW.s6 (h : TW w ar sz rt) {j : Nat} (hj : j < 61) (x : Int32) : ∃ w', sI w .int 10 (nI j) x = some w' ∧ TW w' (ua ar 6 (upd (ar 6) j x)) sz rt ∧ Chg tKs w w' := h.sk (k := 6) (by omega) hj x
end TWs
def prN (k : Nat) : Nat := (k * 40503 + 9973) % 65536
theorem prN_inj {a b : Nat} (ha : a < 10000) (hb : b < 10000) (h : prN a = prN b) : a = b := by
  unfold prN at h; omega
theorem prN_lt (k : Nat) : prN k < 65536 := Nat.mod_lt _ (by omega)
theorem nI_and16 {n : Nat} (h : n < 2 ^ 31) : nI n &&& (65535 : Int32) = nI (n % 65536) := by
  apply Int32.toBitVec_inj.mp
  apply BitVec.eq_of_toNat_eq
  show (BitVec.ofNat 32 n &&& 65535#32).toNat = (BitVec.ofNat 32 (n % 65536)).toNat
  rw [BitVec.toNat_and, BitVec.toNat_ofNat, BitVec.toNat_ofNat, BitVec.toNat_ofNat, Nat.mod_eq_of_lt (show n < 2 ^ 32 by omega), Nat.mod_eq_of_lt (show 65535 < 2 ^ 32 by omega), Nat.mod_eq_of_lt (show n % 65536 < 2 ^ 32 by omega)]
  exact Nat.and_two_pow_sub_one_eq_mod n 16
theorem cpri {k : Nat} (hk : k < 10000) : f_X10_priority (nI k) = nI (prN k) := by
  rw [f_X10_priority, show (40503 : Int32) = nI 40503 from rfl, nI_mul, show (9973 : Int32) = nI 9973 from rfl, nI_add, nI_and16 (by omega)]
  rfl
theorem mpri {k : Nat} (hk : k < 10000) : f_X11_priority (nI k) = nI (prN k) := by
  rw [f_X11_priority, show (40503 : Int32) = nI 40503 from rfl, nI_mul, show (9973 : Int32) = nI 9973 from rfl, nI_add, show (65536 : Int32) = nI 65536 from rfl, pk_rem (by omega) (by omega) (by omega)]
  rfl
/-- a row of keys -/
def KO (K : List Nat) : Prop := K.Pairwise (fun a b => a < b) ∧ (∀ k ∈ K, k < 10000) ∧ K.length ≤ 61
def pF (K : List Nat) (j : Nat) : Nat := prN (nth K j)
theorem KO.lt {K : List Nat} (h : KO K) {j : Nat} (hj : j < K.length) : nth K j < 10000 := h.2.1 _ (nth_mem hj)
theorem KO.inj {K : List Nat} (h : KO K) {i j : Nat} (hi : i < K.length) (hj : j < K.length) (e : pF K i = pF K j) : i = j := by
  have e1 := prN_inj (h.lt hi) (h.lt hj) e
  rw [nth_get hi, nth_get hj] at e1
  rcases Nat.lt_trichotomy i j with q | q | q
  · have := List.pairwise_iff_getElem.mp h.1 i j hi hj q; omega
  · exact q
  · have := List.pairwise_iff_getElem.mp h.1 j i hj hi q; omega
/-- the keys' cells hold the row -/
def KH (ar : Nat → Nat → Int32) (K : List Nat) : Prop := ∀ j, j < K.length → ar 0 j = nI (nth K j)
/-- the edge's cells -/
def EdH (ar : Nat → Nat → Int32) (T : List Nat) : Prop := ∀ i, i < T.length → ar 6 (T.length - 1 - i) = nI (nth T i)
theorem dec_len : ∀ (T : List Nat) (m : Nat), T.Pairwise (fun a b => b < a) → (∀ y ∈ T, y < m) → T.length ≤ m
  | [], m, _, _ => by simp
  | t :: T, m, h, g => by
    obtain ⟨h1, h2⟩ := List.pairwise_cons.mp h
    have := dec_len T t h2 h1
    have := g t List.mem_cons_self
    simp; omega
theorem pop_loop {fu : Nat} {lr : MW → Nat → Int32 → Int32 → Option MW} {w : MW} {ar : Nat → Nat → Int32} {sz rt : Int32} (h : TW w ar sz rt) {K : List Nat} (O : KO K) (hK : KH ar K) {m : Nat} (hm : m < K.length) : ∀ (T : List Nat) (N : Nat) (b : Int32), EdH ar T → T.length ≤ 61 → (∀ y ∈ T, y < m) → T.length < N → f_X8_link_14 fu lr N w 3 (nI T.length) (nI m) b = f_X8_link_59 fu lr w 3 (nI (popT (pF K) m T b).1.length) (nI m) (popT (pF K) m T b).2
  | [], 0, _, _, _, _, hN => by simp at hN
  | [], N + 1, b, _, _, _, _ => by
    rw [f_X8_link_14, if_pos (show nI ([] : List Nat).length ≤ 0 by decide)]
    rfl
  | t :: T, 0, _, _, _, _, hN => by simp at hN
  | t :: T, N + 1, b, hE, hl, hT, hN => by
    have h61 := O.2.2
    have ht := hT t List.mem_cons_self
    have e0 := hE 0 (by simp)
    simp only [List.length_cons, Nat.add_sub_cancel, Nat.sub_zero] at e0
    rw [nth_0] at e0
    have hE2 : EdH ar T := fun i hi => by
      have := hE (i + 1) (by simp; omega)
      rw [nth_s] at this
      simp only [List.length_cons] at this
      rw [show T.length - 1 - i = T.length + 1 - 1 - (i + 1) by omega]
      exact this
    have hlen : (t :: T).length = T.length + 1 := rfl
    rw [hlen] at hl hN ⊢
    rw [f_X8_link_14, if_neg (nI_nle (by omega) (by omega)), h.r0, some_bind', h.r6, some_bind', show (1 : Int32) = nI 1 from rfl, nI_sub (by omega), Nat.add_sub_cancel, h.a6 (by omega), some_bind', e0, h.a0 (by omega), some_bind', hK t (by omega), some_bind', h.a0 (by omega), some_bind', hK m hm, cpri (O.lt (show t < K.length by omega)), cpri (O.lt hm)]
    have b1 := prN_lt (nth K t)
    have b2 := prN_lt (nth K m)
    unfold popT
    by_cases c : pF K t < pF K m
    · rw [if_pos c, if_neg (nI_ge (show prN (nth K t) < prN (nth K m) from c) (by omega)), bnd_eq, nI_m1' (by omega), Nat.add_sub_cancel, some_bind', h.a6 (by omega), some_bind', bnd_eq, e0]
      exact pop_loop h O hK hm T N (nI t) hE2 (by omega) (fun y hy => hT y (List.mem_cons_of_mem _ hy)) (by omega)
    · rw [if_neg c, if_pos (nI_le (show prN (nth K m) ≤ prN (nth K t) from Nat.not_lt.mp c) (by omega))]
      rfl
/-- what link has done for the nodes below m -/
def LI (P : Nat → Nat) (m : Nat) (ar : Nat → Nat → Int32) (T : List Nat) : Prop := (∀ x, x < m → ParV P m x (ar 1 x) ∧ LV P x (ar 2 x) ∧ RV P m x (ar 3 x)) ∧ Stk P m T ∧ EdH ar T
theorem link_step {fu : Nat} {lr : MW → Nat → Int32 → Int32 → Option MW} {w : MW} {ar : Nat → Nat → Int32} {sz rt : Int32} (h : TW w ar sz rt) {K : List Nat} (O : KO K) (hK : KH ar K) {m : Nat} (hm : m < K.length) {T : List Nat} (hL : LI (pF K) m ar T) (hfu : 100 ≤ fu) : ∃ w' ar' T', f_X8_link_14 fu lr fu w 3 (nI T.length) (nI m) (-1) = lr w' 3 (nI T'.length) (nI (m + 1)) ∧ TW w' ar' sz rt ∧ KH ar' K ∧ LI (pF K) (m + 1) ar' T' ∧ Chg tKs w w' := by
  have h61 := O.2.2
  obtain ⟨l1, l2, l3⟩ := hL
  have hTm : ∀ y ∈ T, y < m := fun y hy => (l2.2.1 y hy).1
  have hTl := dec_len T m l2.1 hTm
  have hinj : ∀ i j, i ≤ m → j ≤ m → pF K i = pF K j → i = j := fun i j hi hj e => O.inj (by omega) (by omega) e
  rw [pop_loop h O hK hm T fu (-1) l3 (by omega) hTm (by omega)]
  obtain ⟨lo, b, k1, k2, k3, k4, k5⟩ := stk_step hinj l2
  obtain ⟨pre, p1, -, -, -⟩ := popT_ok (pF K) m T (-1)
  have hE' : EdH ar (popT (pF K) m T (-1)).1 := by
    intro i hi
    have e1 : T.length = pre.length + (popT (pF K) m T (-1)).1.length := by
      conv => lhs; rw [p1]
      rw [List.length_append]
    have := l3 (pre.length + i) (by omega)
    rw [show (popT (pF K) m T (-1)).1.length - 1 - i = T.length - 1 - (pre.length + i) by omega, this]
    congr 1
    unfold nth
    rw [List.getD_eq_getElem?_getD]
    conv => lhs; rw [p1]
    rw [List.getElem?_append_right (by omega), List.getD_eq_getElem?_getD, Nat.add_sub_cancel_left]
  have hT'l : (popT (pF K) m T (-1)).1.length ≤ m := by
    have e1 : T.length = pre.length + (popT (pF K) m T (-1)).1.length := by
      conv => lhs; rw [p1]
      rw [List.length_append]
    omega
  generalize popT (pF K) m T (-1) = q at k3 k4 k5 hE' hT'l ⊢
  obtain ⟨T', b'⟩ := q
  simp only at k3 k4 k5 hE' hT'l ⊢
  subst k3
  have k1' := k1.1
  -- the writes
  obtain ⟨w1, g1, t1, c1⟩ := h.s2 (j := m) (by omega) (if lo < m then nI b else -1)
  obtain ⟨w2, g2, t2, c2⟩ := t1.s3 (j := m) (by omega) (-1)
  have hif : (if nI T'.length ≤ 0 then f_X8_link_94 fu lr w2 3 (nI T'.length) (nI m) (if lo < m then nI b else -1) 5 (nI m) (-1) else (gR w2 8 3 6).bind fun x25 => (aI w2 .int x25 (nI T'.length - 1)).bind fun x26 => f_X8_link_94 fu lr w2 3 (nI T'.length) (nI m) (if lo < m then nI b else -1) 5 (nI m) x26) = f_X8_link_94 fu lr w2 3 (nI T'.length) (nI m) (if lo < m then nI b else -1) 5 (nI m) (if lo = 0 then -1 else nI (lo - 1)) := by
    rcases k5 with ⟨e, e0⟩ | ⟨T'', e, e0⟩
    · rw [e, if_pos (by decide), if_pos e0]
    · have e2 := hE' 0 (by rw [e]; simp)
      rw [e, nth_0] at e2
      simp only [List.length_cons, Nat.add_sub_cancel, Nat.sub_zero] at e2
      have e3 : T'.length = T''.length + 1 := by rw [e]; rfl
      rw [e3, if_neg (nI_nle (by omega) (by omega)), t2.r6, some_bind', show (1 : Int32) = nI 1 from rfl, nI_sub (by omega), Nat.add_sub_cancel, t2.a6 (by omega), some_bind', if_neg (show ¬ lo = 0 by omega)]
      rw [ua_ne _ _ (by omega), ua_ne _ _ (by omega), e2]
  obtain ⟨w3, g3, t3, c3⟩ := t2.s1 (j := m) (by omega) (if lo = 0 then -1 else nI (lo - 1))
  obtain ⟨w4, a4, g4, t4, c4, o4⟩ : ∃ w4 a4, f_X8_link_94 fu lr w2 3 (nI T'.length) (nI m) (if lo < m then nI b else -1) 5 (nI m) (if lo = 0 then -1 else nI (lo - 1)) = f_X8_link_107 fu lr w4 3 (nI T'.length) (nI m) ∧ TW w4 a4 sz rt ∧ Chg tKs w2 w4 ∧ (∀ k, k ≠ 1 → a4 k = ua (ua ar 2 (upd (ar 2) m (if lo < m then nI b else -1))) 3 (upd (ua ar 2 (upd (ar 2) m (if lo < m then nI b else -1)) 3) m (-1)) k) ∧ a4 1 = (if lo < m then upd (upd (ar 1) m (if lo = 0 then -1 else nI (lo - 1))) b (nI m) else upd (ar 1) m (if lo = 0 then -1 else nI (lo - 1))) := by
    rw [f_X8_link_94, g3, some_bind']
    by_cases c : lo < m
    · obtain ⟨b1, b2, b3⟩ := k2 c
      obtain ⟨w4, g4, t4, c4⟩ := t3.s1 (j := b) (by omega) (nI m)
      rw [if_pos c, if_neg (m1_ne b (by omega)), t3.r1, some_bind', g4, some_bind']
      refine ⟨w4, _, rfl, t4, c3.tr c4, fun k hk => ?_, ?_⟩
      · rw [ua_ne _ _ hk, ua_ne _ _ hk, if_pos c]
      · rw [ua_eq, ua_eq, ua_ne _ _ (by omega), ua_ne _ _ (by omega), if_pos c]
    · rw [if_neg c, if_pos rfl]
      refine ⟨w3, _, rfl, t3, c3, fun k hk => ?_, ?_⟩
      · rw [ua_ne _ _ hk, if_neg c]
      · rw [ua_eq, ua_ne _ _ (by omega), ua_ne _ _ (by omega), if_neg c]
  obtain ⟨o40, o41⟩ := o4
  have a40 : a4 0 = ar 0 := by rw [o40 0 (by omega), ua_ne _ _ (by omega), ua_ne _ _ (by omega)]
  have a42 : a4 2 = upd (ar 2) m (if lo < m then nI b else -1) := by rw [o40 2 (by omega), ua_ne _ _ (by omega), ua_eq]
  have a43 : a4 3 = upd (ar 3) m (-1) := by rw [o40 3 (by omega), ua_eq, ua_ne _ _ (by omega)]
  have a46 : a4 6 = ar 6 := by rw [o40 6 (by omega), ua_ne _ _ (by omega), ua_ne _ _ (by omega)]
  obtain ⟨w5, a5, g5, t5, c5, o5, o53⟩ : ∃ w5 a5, f_X8_link_107 fu lr w4 3 (nI T'.length) (nI m) = f_X8_link_125 fu lr w5 3 (nI T'.length) (nI m) ∧ TW w5 a5 sz rt ∧ Chg tKs w4 w5 ∧ (∀ k, k ≠ 3 → a5 k = a4 k) ∧ a5 3 = (if 0 < lo then upd (a4 3) (lo - 1) (nI m) else a4 3) := by
    rw [f_X8_link_107]
    rcases k5 with ⟨e, e0⟩ | ⟨T'', e, e0⟩
    · rw [e, if_pos (by decide)]
      exact ⟨w4, a4, rfl, t4, Chg.rf _ _, fun _ _ => rfl, by rw [if_neg (by omega)]⟩
    · have e2 := hE' 0 (by rw [e]; simp)
      rw [e, nth_0] at e2
      simp only [List.length_cons, Nat.add_sub_cancel, Nat.sub_zero] at e2
      have e3 : T'.length = T''.length + 1 := by rw [e]; rfl
      obtain ⟨w5, g5, t5, c5⟩ := t4.s3 (j := lo - 1) (by omega) (nI m)
      rw [e3, if_neg (nI_nle (by omega) (by omega)), t4.r3, some_bind', t4.r6, some_bind', show (1 : Int32) = nI 1 from rfl, nI_sub (by omega), Nat.add_sub_cancel, t4.a6 (by omega), some_bind', a46, e2, g5, some_bind']
      exact ⟨w5, _, rfl, t5, c5, fun k hk => ua_ne _ _ hk, by rw [ua_eq, if_pos e0]⟩
  obtain ⟨w6, g6, t6, c6⟩ := t5.s6 (j := T'.length) (by omega) (nI m)
  refine ⟨w6, _, m :: T', ?_, t6, fun j hj => ?_, ⟨fun x hx => ?_, k4, fun i hi => ?_⟩, (((c1.tr c2).tr c4).tr c5).tr c6⟩
  · rw [f_X8_link_59, h.r2, some_bind', g1, some_bind', t1.r3, some_bind', g2, some_bind', t2.r1, some_bind', hif, g4, g5, f_X8_link_125, t5.r6, some_bind', g6, some_bind', bnd_eq, bnd_eq, nI_1, nI_1]
    rfl
  · rw [ua_ne _ _ (by omega), o5 0 (by omega), a40]; exact hK j hj
  · rw [ua_ne _ _ (by omega), ua_ne _ _ (by omega), ua_ne _ _ (by omega), o5 1 (by omega), o5 2 (by omega), o53, o41, a42, a43]
    refine ⟨?_, ?_, ?_⟩
    · by_cases cx : x = m
      · subst cx
        have : (if lo < x then upd (upd (ar 1) x (if lo = 0 then -1 else nI (lo - 1))) b (nI x) else upd (ar 1) x (if lo = 0 then -1 else nI (lo - 1))) x = (if lo = 0 then -1 else nI (lo - 1)) := by
          split
          · rename_i c
            have := k2 c
            rw [upd_ne _ _ (by omega), upd_eq]
          · rw [upd_eq]
        rw [this]
        exact par_m k1
      · by_cases c : lo < m
        · rw [if_pos c]
          by_cases cb : x = b
          · subst cb
            rw [upd_eq]
            exact Or.inr ⟨m, rfl, par_b hinj k1 (k2 c)⟩
          · rw [upd_ne _ _ cb, upd_ne _ _ cx]
            exact par_x k1 k2 (by omega) (fun _ => cb) (l1 x (by omega)).1
        · rw [if_neg c, upd_ne _ _ cx]
          exact par_x k1 k2 (by omega) (fun q => absurd q c) (l1 x (by omega)).1
    · by_cases cx : x = m
      · subst cx
        rw [upd_eq]
        exact left_m k1 k2
      · rw [upd_ne _ _ cx]
        exact (l1 x (by omega)).2.1
    · by_cases c0 : 0 < lo
      · rw [if_pos c0]
        by_cases cx : x = lo - 1
        · subst cx
          rw [upd_eq]
          exact right_t k1 c0
        · rw [upd_ne _ _ cx]
          by_cases cm : x = m
          · subst cm; rw [upd_eq]; exact right_m x
          · rw [upd_ne _ _ cm]
            exact right_x k1 (by omega) (fun _ => cx) (l1 x (by omega)).2.2
      · rw [if_neg c0]
        by_cases cm : x = m
        · subst cm; rw [upd_eq]; exact right_m x
        · rw [upd_ne _ _ cm]
          exact right_x k1 (by omega) (fun q => absurd q c0) (l1 x (by omega)).2.2
  · rw [ua_eq, o5 6 (by omega), a46]
    simp only [List.length_cons] at hi
    cases i with
    | zero =>
      rw [nth_0, show (m :: T').length - 1 - 0 = T'.length by simp, upd_eq]
    | succ i =>
      rw [nth_s, show (m :: T').length - 1 - (i + 1) = T'.length - 1 - i by simp; omega, upd_ne _ _ (by omega)]
      exact hE' i (by omega)
theorem link_loop {fu : Nat} (hfu : 100 ≤ fu) {K : List Nat} (O : KO K) {rt : Int32} : ∀ N m w ar T, TW w ar (nI K.length) rt → KH ar K → LI (pF K) m ar T → m ≤ K.length → K.length - m < N → ∃ w' ar' rt', f_X8_link_4 fu N w 3 (nI T.length) (nI m) = some w' ∧ TW w' ar' (nI K.length) rt' ∧ KH ar' K ∧ (∀ x, x < K.length → ParV (pF K) K.length x (ar' 1 x) ∧ LV (pF K) x (ar' 2 x) ∧ RV (pF K) K.length x (ar' 3 x)) ∧ ((K.length = 0 ∧ rt' = -1) ∨ ∃ r, r < K.length ∧ rt' = nI r ∧ ∀ z, z < K.length → pF K z ≤ pF K r) ∧ Chg tKs w w' := by
  have h61 := O.2.2
  intro N
  induction N with
  | zero => intro m w ar T _ _ _ _ hN; omega
  | succ N ih =>
    intro m w ar T h hK hL hm hN
    rw [f_X8_link_4, h.siz, some_bind']
    by_cases c : K.length ≤ m
    · have em : m = K.length := by omega
      subst em
      rw [if_pos (nI_le c (by omega)), some_bind']
      obtain ⟨l1, l2, l3⟩ := hL
      rcases Nat.eq_zero_or_pos K.length with q | q
      · obtain ⟨w', g1, g2, g3⟩ := h.p8 (-1)
        rw [q, if_pos (by decide), f_X8_link_159, g1, some_bind']
        rw [q] at g2 l1
        exact ⟨w', ar, -1, rfl, g2, hK, l1, Or.inl ⟨rfl, rfl⟩, g3⟩
      · -- the first of the edge is the greatest
        obtain ⟨y0, hy0, -, -⟩ := l2.2.2 0 q
        have hne : T ≠ [] := fun e => by rw [e] at hy0; simp at hy0
        obtain ⟨T', r, hT⟩ : ∃ T' r, T = T' ++ [r] := ⟨T.dropLast, T.getLast hne, (List.dropLast_concat_getLast hne).symm⟩
        have hr : r ∈ T := by rw [hT]; simp
        obtain ⟨r1, r2⟩ := l2.2.1 r hr
        have e6 := l3 (T.length - 1) (by rw [hT]; simp)
        rw [Nat.sub_self] at e6
        have enr : nth T (T.length - 1) = r := by
          rw [hT]; unfold nth; simp
        rw [enr] at e6
        obtain ⟨w', g1, g2, g3⟩ := h.p8 (nI r)
        rw [if_neg (nI_nle q (by omega)), h.r6, some_bind', show (0 : Int32) = nI 0 from rfl, h.a6 (by omega), some_bind', e6, f_X8_link_159, g1, some_bind']
        refine ⟨w', ar, nI r, rfl, g2, hK, l1, Or.inr ⟨r, r1, rfl, fun z hz => ?_⟩, g3⟩
        obtain ⟨y, hy, hy2, hy3⟩ := l2.2.2 z hz
        rw [hT] at hy
        have p1 := l2.1
        rw [hT] at p1
        rcases List.mem_append.mp hy with hy' | hy'
        · have c1 := (List.pairwise_append.mp p1).2.2 y hy' r (by simp)
          have c2 := r2 y c1 (l2.2.1 y (by rw [hT]; exact hy)).1
          omega
        · rw [List.mem_singleton.mp hy'] at hy3; exact hy3
    · rw [if_neg (nI_ge (by omega) (by omega)), bnd_eq]
      obtain ⟨w1, ar1, T1, g1, g2, g3, g4, g5⟩ := link_step (fu := fu) (lr := f_X8_link_4 fu N) h O hK (show m < K.length by omega) hL hfu
      obtain ⟨w2, ar2, rt2, k1, k2, k3, k4, k5, k6⟩ := ih (m + 1) w1 ar1 T1 g2 g3 g4 (by omega) (by omega)
      rw [g1, k1]
      exact ⟨w2, ar2, rt2, rfl, k2, k3, k4, k5, g5.tr k6⟩
theorem link_ok {fu : Nat} (hfu : 100 ≤ fu) {K : List Nat} (O : KO K) {w : MW} {ar : Nat → Nat → Int32} {rt : Int32} (h : TW w ar (nI K.length) rt) (hK : KH ar K) : ∃ w' ar' rt', f_X8_link fu w 3 = some w' ∧ TW w' ar' (nI K.length) rt' ∧ KH ar' K ∧ (∀ x, x < K.length → ParV (pF K) K.length x (ar' 1 x) ∧ LV (pF K) x (ar' 2 x) ∧ RV (pF K) K.length x (ar' 3 x)) ∧ ((K.length = 0 ∧ rt' = -1) ∨ ∃ r, r < K.length ∧ rt' = nI r ∧ ∀ z, z < K.length → pF K z ≤ pF K r) ∧ Chg tKs w w' := by
  rw [f_X8_link, bnd_eq, bnd_eq]
  exact link_loop hfu O fu 0 w ar [] h hK ⟨fun x hx => by omega, ⟨List.Pairwise.nil, fun y hy => by simp at hy, fun z hz => by omega⟩, fun i hi => by simp at hi⟩ (by omega) (by have := O.2.2; omega)
