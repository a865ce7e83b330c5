/-! SHIFT and MARK -/
theorem nI_ofInt (n : Nat) : nI n = Int32.ofInt n := (Int32.ofInt_eq_ofNat).symm
theorem nI_addI {a c : Nat} {x : Int32} (h : (a : Int) + x.toInt = c) : nI a + x = nI c := by
  have e : x = Int32.ofInt x.toInt := (Int32.ofInt_toInt x).symm
  rw [e, nI_ofInt, ← Int32.ofInt_add, h, nI_ofInt]
theorem nI_addI2 {a c : Nat} {x : Int32} (h : (a : Int) + x.toInt * 2 = c) : nI a + x * 2 = nI c := by
  have e : x * 2 = Int32.ofInt (x.toInt * 2) := by
    rw [Int32.ofInt_mul, Int32.ofInt_toInt]; rfl
  rw [e, nI_ofInt, ← Int32.ofInt_add, h, nI_ofInt]
theorem addI_nI {a c : Nat} {x : Int32} (ha : a < 100000) (hc : c < 100000) (h1 : -100000 < x.toInt) (h2 : x.toInt < 100000) (h : nI a + x = nI c) : (a : Int) + x.toInt = c := by
  have e := congrArg Int32.toInt h
  rw [Int32.toInt_add, nI_toInt (by omega), nI_toInt (by omega)] at e
  rw [Int.bmod_eq_of_le (by omega) (by omega)] at e
  exact e
/-- f has gone over the first r -/
def pm (f : Nat → Nat) (r : Nat) (L : List Nat) : List Nat := (L.take r).map f ++ L.drop r
theorem pm_0 (f : Nat → Nat) (L : List Nat) : pm f 0 L = L := by simp [pm]
theorem pm_all (f : Nat → Nat) (L : List Nat) : pm f L.length L = L.map f := by simp [pm]
theorem pm_len (f : Nat → Nat) (r : Nat) (L : List Nat) : (pm f r L).length = L.length := by simp [pm]; omega
theorem pm_s (f : Nat → Nat) {r : Nat} {L : List Nat} (h : r < L.length) : pm f (r + 1) L = (pm f r L).set r (f (nth L r)) := by
  unfold pm
  have hl : ((L.take r).map f).length = r := by simp; omega
  rw [List.set_append_right _ _ (by omega), hl, Nat.sub_self, drop_cons h, List.set_cons_zero, List.take_add_one, List.map_append, List.append_assoc, nth_get h, List.getElem?_eq_getElem h]
  rfl
theorem pm_nth (f : Nat → Nat) {r j : Nat} {L : List Nat} (h : j < L.length) : nth (pm f r L) j = if j < r then f (nth L j) else nth L j := by
  unfold pm
  by_cases c : j < r
  · rw [if_pos c]
    unfold nth
    rw [List.getD_eq_getElem?_getD, List.getElem?_append_left (by simp; omega), List.getElem?_map, List.getElem?_take_of_lt c, List.getElem?_eq_getElem h, List.getD_eq_getElem?_getD, List.getElem?_eq_getElem h]
    rfl
  · rw [if_neg c]
    unfold nth
    rw [List.getD_eq_getElem?_getD, List.getElem?_append_right (by simp; omega), List.getElem?_drop, List.getD_eq_getElem?_getD]
    congr 2
    simp
    omega
theorem set_same {L : List Nat} {r : Nat} (h : r < L.length) : L.set r (nth L r) = L := by
  rw [nth_get h]; exact List.set_getElem_self h
theorem SOK_map {L : List Nat} (S : SOK L) {f : Nat → Nat} (h1 : ∀ a b, a ∈ L → b ∈ L → a / 2 < b / 2 → f a / 2 < f b / 2) (h2 : ∀ a ∈ L, f a < 20000) : SOK (L.map f) := by
  refine ⟨?_, fun e he => ?_, by rw [List.length_map]; exact S.len⟩
  · rw [List.pairwise_map]
    exact List.Pairwise.imp_of_mem (fun {a b} ha hb q => h1 a b ha hb q) S.1
  · obtain ⟨a, ha, rfl⟩ := List.mem_map.mp he
    exact h2 a ha
/-- the class: an entry is another one -/
theorem HA_set {w : MW} {h e : Nat} {L : List Nat} {fg : Int32} (H : HA w h e L fg) (hl : L.length ≤ 60) {r x : Nat} (hr : r < L.length) : ∃ w', sI w .int e (nI r) (nI x) = some w' ∧ HA w' h e (L.set r x) fg ∧ Chg [e] w w' := by
  obtain ⟨hne, h1, xs, h2, h3⟩ := H
  refine ⟨_, sI_ar h2 (by omega) (by omega), ⟨hne, ?_, upd xs r (nI x), get_set_eq h2, fun j hj => ?_⟩, Chg.st _ _ (by simp)⟩
  · rw [get_set_ne (Ne.symm hne), List.length_set]; exact h1
  · rw [List.length_set] at hj
    rw [nth_set hr]
    by_cases c : j = r
    · subst c; rw [upd_eq, if_pos rfl]
    · rw [upd_ne _ _ c, if_neg c]; exact h3 j hj
theorem HA.ent {w : MW} {h e : Nat} {L : List Nat} {fg : Int32} (H : HA w h e L fg) (hl : L.length ≤ 60) {r : Nat} (hr : r < L.length) : aI w .int e (nI r) = some (nI (nth L r)) := by
  obtain ⟨hne, h1, xs, h2, h3⟩ := H
  rw [aI_ar h2 (by omega) (by omega), h3 r hr]
theorem MA_key {al : Nat → Int32} {o p x : Nat} {L : List Nat} {f : Int32} (M : MA al o L f) (hl : L.length ≤ 60) (hp : p < L.length) (hx : x % 2 = nth L p % 2) : MA (upd al (o + 2 + p) (nI (x / 2))) o (L.set p x) f := by
  refine ⟨?_, ?_, fun j hj => ?_⟩
  · rw [upd_ne _ _ (by omega), List.length_set]; exact M.1
  · rw [upd_ne _ _ (by omega)]; exact M.2.1
  · rw [List.length_set] at hj
    rw [nth_set hp, upd_ne _ _ (by omega : o + 62 + j ≠ o + 2 + p)]
    by_cases e : j = p
    · subst e
      rw [if_pos rfl, upd_eq, hx]
      exact ⟨rfl, (M.2.2 j hj).2⟩
    · rw [if_neg e, upd_ne _ _ (by omega)]
      exact M.2.2 j hj
/-- SHIFT of an entry, of a finger -/
def shE (x : Int32) (e : Nat) : Nat := ((e : Int) + x.toInt * 2).toNat
def shG (x fg : Int32) : Int32 := if fg = -1 then -1 else fg + x
theorem cshift_loop {x : Int32} {h e : Nat} {L : List Nat} {fg : Int32} (S : SOK L) (hL : ∀ a ∈ L, 0 ≤ (a : Int) + x.toInt * 2) (fu : Nat) : ∀ N r w, HA w h e (pm (shE x) r L) fg → r ≤ L.length → L.length - r < N → ∃ w', f_X0_shiftAll_2 fu N w h x (nI r) = some w' ∧ HA w' h e (L.map (shE x)) (shG x fg) ∧ Chg [h, e] w w' := by
  have hl := S.len
  intro N
  induction N with
  | zero => intro r w _ _ hN; omega
  | succ N ih =>
    intro r w H hr hN
    rw [f_X0_shiftAll_2, gI_ob H.2.1 rfl, some_bind', pm_len]
    by_cases c : L.length ≤ r
    · have er : r = L.length := by omega
      subst er
      rw [pm_all] at H
      rw [if_pos (nI_le c (by omega)), gI_ob H.2.1 rfl, some_bind']
      unfold shG
      by_cases c2 : fg = -1
      · rw [if_pos c2, if_pos c2]
        exact ⟨w, rfl, c2 ▸ H, Chg.rf _ _⟩
      · rw [if_neg c2, if_neg c2, some_bind', pV_ob H.2.1 (by simp), some_bind']
        obtain ⟨hne, h1, xs, h2, h3⟩ := H
        refine ⟨_, rfl, ⟨hne, get_set_eq h1, xs, by rw [get_set_ne hne]; exact h2, h3⟩, Chg.st _ _ (by simp)⟩
    · have hr' : r < L.length := by omega
      have he := pm_nth (shE x) (r := r) hr'
      rw [if_neg (by omega)] at he
      have hq : nI (nth L r) + x * 2 = nI (shE x (nth L r)) := nI_addI2 (by
        have := hL _ (nth_mem hr')
        unfold shE
        omega)
      obtain ⟨w1, g1, g2, g3⟩ := HA_set H (by rw [pm_len]; exact hl) (r := r) (x := shE x (nth L r)) (by rw [pm_len]; exact hr')
      rw [← pm_s _ hr'] at g2
      obtain ⟨w2, k1, k2, k3⟩ := ih (r + 1) w1 g2 hr' (by omega)
      rw [if_neg (nI_ge hr' (by omega)), gR_ob H.2.1 rfl, some_bind', H.ent (by rw [pm_len]; exact hl) (by rw [pm_len]; exact hr'), some_bind', he, hq, g1, some_bind', bnd_eq, nI_1, k1]
      exact ⟨w2, rfl, k2, (g3.mono (by simp)).tr k3⟩
theorem cshift_ok {x : Int32} {h e : Nat} {L : List Nat} {fg : Int32} (S : SOK L) (hL : ∀ a ∈ L, 0 ≤ (a : Int) + x.toInt * 2) {fu : Nat} (hfu : 100 ≤ fu) {w : MW} (H : HA w h e L fg) : ∃ w', f_X0_shiftAll fu w h x = some w' ∧ HA w' h e (L.map (shE x)) (shG x fg) ∧ Chg [h, e] w w' := by
  rw [f_X0_shiftAll, bnd_eq, show (0 : Int32) = nI 0 from rfl]
  exact cshift_loop S hL fu fu 0 w (by rw [pm_0]; exact H) (by omega) (by have := S.len; omega)
theorem mshift_loop {C : MW} (hC : C.length = 123) {F : Nat → Int32} {v : Int64} {b i : Nat} (hb : F 9 = nI b) (hb2 : b ≤ 976) (hi : i < 8) {x : Int32} {L : List Nat} {fg : Int32} (S : SOK L) (hL : ∀ a ∈ L, 0 ≤ (a : Int) + x.toInt * 2) (fu : Nat) : ∀ N r ar, MA (ar 0) (b + 122 * i) (pm (shE x) r L) fg → r ≤ L.length → L.length - r < N → ∃ al, f_X11_shifts_2 fu N (mW C F v ar) 123 (nI i) x (nI r) = some (mW C F v (ua ar 0 al)) ∧ MA al (b + 122 * i) (L.map (shE x)) (shG x fg) ∧ ∀ q, q < b + 122 * i ∨ b + 122 * i + 122 ≤ q → al q = ar 0 q := by
  have hl := S.len
  intro N
  induction N with
  | zero => intro r ar _ _ hN; omega
  | succ N ih =>
    intro r ar M hr hN
    rw [f_X11_shifts_2, m_cl hC, many_ok hC hb hb2 hi M, some_bind', pm_len]
    by_cases c : L.length ≤ r
    · have er : r = L.length := by omega
      subst er
      rw [pm_all] at M
      rw [if_pos (nI_le c (by omega)), m_cl hC, mfinger_ok hC hb hb2 hi M, some_bind']
      unfold shG
      by_cases c2 : fg = -1
      · rw [if_pos c2, if_pos c2]
        exact ⟨ar 0, by rw [ua_self], c2 ▸ M, fun _ _ => rfl⟩
      · rw [if_neg c2, if_neg c2, some_bind', m_cl hC, mpoints_ok hC hb hb2 hi, some_bind']
        refine ⟨_, rfl, ⟨?_, upd_eq _ _ _, fun j hj => ?_⟩, fun q hq => upd_ne _ _ (by omega)⟩
        · rw [upd_ne _ _ (by omega)]; exact M.1
        · rw [upd_ne _ _ (by omega), upd_ne _ _ (by omega)]; exact M.2.2 j hj
    · have hr' : r < L.length := by omega
      have he := pm_nth (shE x) (r := r) hr'
      rw [if_neg (by omega)] at he
      have h0 := hL _ (nth_mem hr')
      have hq : nI (nth L r / 2) + x = nI (shE x (nth L r) / 2) := nI_addI (by unfold shE; omega)
      have hM := MA_key M (by rw [pm_len]; exact hl) (p := r) (x := shE x (nth L r)) (by rw [pm_len]; exact hr') (by rw [he]; unfold shE; omega)
      rw [← pm_s _ hr', ← hq] at hM
      have hm := (M.2.2 r (by rw [pm_len]; exact hr')).1
      rw [he] at hm
      obtain ⟨al, k1, k2, k3⟩ := ih (r + 1) (ua ar 0 (upd (ar 0) (b + 122 * i + 2 + r) (nI (nth L r / 2) + x))) (by rw [ua_eq]; exact hM) hr' (by omega)
      rw [if_neg (nI_ge hr' (by omega)), m_gR hC F v ar 0 rfl, some_bind', m_gI hC F v ar 9 rfl, some_bind', hb, mo, show (2 : Int32) = nI 2 from rfl, nI_add, nI_add, m_a0 hC F v ar (by omega), some_bind', hm, m_s0 hC F v ar _ (by omega), some_bind', bnd_eq, nI_1, k1, ua_ua]
      exact ⟨al, rfl, k2, fun q hq => by rw [k3 q hq, ua_eq, upd_ne _ _ (by omega)]⟩
theorem mshift_ok {C : MW} (hC : C.length = 123) {F : Nat → Int32} {v : Int64} {b i : Nat} (hb : F 9 = nI b) (hb2 : b ≤ 976) (hi : i < 8) {x : Int32} {L : List Nat} {fg : Int32} (S : SOK L) (hL : ∀ a ∈ L, 0 ≤ (a : Int) + x.toInt * 2) {fu : Nat} (hfu : 100 ≤ fu) {ar : Nat → Nat → Int32} (M : MA (ar 0) (b + 122 * i) L fg) : ∃ al, f_X11_shifts fu (mW C F v ar) 123 (nI i) x = some (mW C F v (ua ar 0 al)) ∧ MA al (b + 122 * i) (L.map (shE x)) (shG x fg) ∧ ∀ q, q < b + 122 * i ∨ b + 122 * i + 122 ≤ q → al q = ar 0 q := by
  rw [f_X11_shifts, bnd_eq, show (0 : Int32) = nI 0 from rfl]
  exact mshift_loop hC hb hb2 hi S hL fu fu 0 ar (by rw [pm_0]; exact M) (by omega) (by have := S.len; omega)
