/-! depths, and how many are below -/
def dep (P : Nat → Nat) (n x : Nat) : Nat := (List.range n).countP (fun y => decide (y ≠ x) && ancB P y x)
def und (P : Nat → Nat) (m y : Nat) : Nat := (List.range m).countP (fun x => decide (x ≠ y) && ancB P y x)
theorem countP_or {p q r : Nat → Bool} (h : ∀ z, p z = (q z || r z)) (hd : ∀ z, ¬ (q z = true ∧ r z = true)) : ∀ (l : List Nat), l.countP p = l.countP q + l.countP r
  | [] => rfl
  | a :: l => by
    rw [List.countP_cons, List.countP_cons, List.countP_cons, countP_or h hd l, h a]
    have := hd a
    cases h1 : q a <;> cases h2 : r a <;> simp [h1, h2] at this ⊢ <;> omega
theorem countP_or' {p q r : Nat → Bool} : ∀ (l : List Nat), (∀ z ∈ l, p z = (q z || r z)) → (∀ z ∈ l, ¬ (q z = true ∧ r z = true)) → l.countP p = l.countP q + l.countP r
  | [], _, _ => rfl
  | a :: l, h, hd => by
    rw [List.countP_cons, List.countP_cons, List.countP_cons, countP_or' l (fun z hz => h z (List.mem_cons_of_mem _ hz)) (fun z hz => hd z (List.mem_cons_of_mem _ hz)), h a List.mem_cons_self]
    have := hd a List.mem_cons_self
    cases h1 : q a <;> cases h2 : r a <;> simp [h1, h2] at this ⊢ <;> omega
theorem count_one {n y : Nat} (h : y < n) : (List.range n).countP (fun z => decide (z = y)) = 1 := by
  induction n with
  | zero => omega
  | succ n ih =>
    rw [List.range_succ, List.countP_append]
    by_cases c : y = n
    · subst c
      have : (List.range y).countP (fun z => decide (z = y)) = 0 := by
        rw [List.countP_eq_zero]
        intro z hz
        have := List.mem_range.mp hz
        simp; omega
      rw [this]; simp
    · rw [ih (by omega)]
      have : ¬ n = y := fun q => c q.symm
      simp [this]
section T
variable {P : Nat → Nat}
theorem dep_no {n x : Nat} (h : NoPar P n x) : dep P n x = 0 := by
  unfold dep
  rw [List.countP_eq_zero]
  intro z hz
  have hz' := List.mem_range.mp hz
  rw [Bool.and_eq_true, decide_eq_true_eq, ancB_iff]
  rintro ⟨h1, h2⟩
  exact h z hz' h1 h2
theorem par_anc {n x y : Nat} (hinj : ∀ i j, i < n → j < n → P i = P j → i = j) (hx : x < n) (h : IsPar P n x y) (z : Nat) (hz : z < n) : (z ≠ x ∧ anc P z x) ↔ (z = y ∨ (z ≠ y ∧ anc P z y)) := by
  obtain ⟨h1, h2, h3, h4⟩ := h
  constructor
  · rintro ⟨a, b⟩
    by_cases c : z = y
    · exact Or.inl c
    · exact Or.inr ⟨c, h4 z hz a b⟩
  · rintro (rfl | ⟨a, b⟩)
    · exact ⟨h2, h3⟩
    · refine ⟨fun q => ?_, anc_tr b h3⟩
      subst q
      have e1 := anc_le b
      have e2 := anc_le h3
      exact a (hinj z y hz h1 (by omega))
theorem dep_par {n x y : Nat} (hinj : ∀ i j, i < n → j < n → P i = P j → i = j) (hx : x < n) (h : IsPar P n x y) : dep P n x = dep P n y + 1 := by
  unfold dep
  rw [countP_or' (q := fun z => decide (z = y)) (r := fun z => decide (z ≠ y) && ancB P z y) (List.range n) (fun z hz => ?_) (fun z _ => ?_), count_one h.1, Nat.add_comm]
  · have := par_anc hinj hx h z (List.mem_range.mp hz)
    rw [Bool.eq_iff_iff, Bool.and_eq_true, Bool.or_eq_true, Bool.and_eq_true, decide_eq_true_eq, decide_eq_true_eq, decide_eq_true_eq, ancB_iff, ancB_iff]
    exact this
  · rw [Bool.and_eq_true, decide_eq_true_eq, decide_eq_true_eq]
    rintro ⟨a, b, _⟩
    exact b a
theorem dep_lt {n x : Nat} (hx : x < n) : dep P n x < n := by
  have h1 : dep P n x ≤ (List.range n).length := List.countP_le_length
  rw [List.length_range] at h1
  rcases Nat.lt_or_ge (dep P n x) n with c | c
  · exact c
  · have e : (List.range n).countP (fun y => decide (y ≠ x) && ancB P y x) = (List.range n).length := by
      rw [List.length_range]; unfold dep at h1 c; omega
    have := List.countP_eq_length.mp e x (List.mem_range.mpr hx)
    simp at this
theorem und_1 {m y : Nat} (c : m ≠ y ∧ anc P y m) : und P (m + 1) y = und P m y + 1 := by
  unfold und
  rw [List.range_succ, List.countP_append, List.countP_singleton, if_pos]
  rw [Bool.and_eq_true, decide_eq_true_eq, ancB_iff]; exact c
theorem und_0 {m y : Nat} (c : ¬ (m ≠ y ∧ anc P y m)) : und P (m + 1) y = und P m y := by
  unfold und
  rw [List.range_succ, List.countP_append, List.countP_singleton, if_neg]
  · rfl
  · rw [Bool.and_eq_true, decide_eq_true_eq, ancB_iff]; exact c
theorem und_le (m y : Nat) : und P m y ≤ m := by
  have : und P m y ≤ (List.range m).length := List.countP_le_length
  rw [List.length_range] at this
  exact this
end T
def ind (P : Nat → Nat) (z u : Nat) : Nat := if ancB P z u = true then 1 else 0
/-- a walk up: the node's depth, and one more below each on the way -/
theorem walk {fu : Nat} {lr : MW → Nat → Int32 → Option MW} {n : Nat} (hn : n ≤ 61) {P : Nat → Nat} (hinj : ∀ i j, i < n → j < n → P i = P j → i = j) {rt : Int32} {x : Nat} (hx : x < n) : ∀ N u st w ar (d : Nat) (g : Nat → Nat), TW w ar (nI n) rt → (∀ x, x < n → ParV P n x (ar 1 x)) → u < n → ar 4 x = nI d → (∀ z, z < n → ar 5 z = nI (g z)) → st + dep P n u + 1 ≤ n → dep P n u + 1 < N → ∃ w' ar', f_X8_climb_49 fu lr N w 3 (nI x) (nI u) (nI st) = f_X8_climb_95 fu lr w' 3 (nI x) ∧ TW w' ar' (nI n) rt ∧ (∀ k, k ≠ 4 → k ≠ 5 → ar' k = ar k) ∧ ar' 4 = upd (ar 4) x (nI (d + dep P n u + 1)) ∧ (∀ z, z < n → ar' 5 z = nI (g z + ind P z u)) ∧ Chg tKs w w' := by
  intro N
  induction N with
  | zero => intro u st w ar d g _ _ _ _ _ _ hN; omega
  | succ N ih =>
    intro u st w ar d g h hP hu h4 h5 hst hN
    obtain ⟨w1, g1, t1, c1⟩ := h.s4 (j := x) (by omega) (nI (d + 1))
    obtain ⟨w2, g2, t2, c2⟩ := t1.s5 (j := u) (by omega) (nI (g u + 1))
    have a1 : ∀ k, k ≠ 4 → k ≠ 5 → ua (ua ar 4 (upd (ar 4) x (nI (d + 1)))) 5 (upd (ua ar 4 (upd (ar 4) x (nI (d + 1))) 5) u (nI (g u + 1))) k = ar k := fun k k4 k5 => by rw [ua_ne _ _ k5, ua_ne _ _ k4]
    have a4 : ua (ua ar 4 (upd (ar 4) x (nI (d + 1)))) 5 (upd (ua ar 4 (upd (ar 4) x (nI (d + 1))) 5) u (nI (g u + 1))) 4 = upd (ar 4) x (nI (d + 1)) := by rw [ua_ne _ _ (by omega), ua_eq]
    have a5 : ∀ z, z < n → ua (ua ar 4 (upd (ar 4) x (nI (d + 1)))) 5 (upd (ua ar 4 (upd (ar 4) x (nI (d + 1))) 5) u (nI (g u + 1))) 5 z = nI (g z + if z = u then 1 else 0) := fun z hz => by
      rw [ua_eq, ua_ne _ _ (by omega)]
      by_cases q : z = u
      · subst q; rw [upd_eq, if_pos rfl]
      · rw [upd_ne _ _ q, if_neg q]; exact h5 z hz
    have hpre : f_X8_climb_49 fu lr (N + 1) w 3 (nI x) (nI u) (nI st) = f_X8_climb_49 fu lr N w2 3 (nI x) (ar 1 u) (nI (st + 1)) := by
      rw [f_X8_climb_49, h.siz, some_bind', if_neg (nI_ge (by omega) (by omega)), if_neg (m1_ne u (by omega)), h.r4, some_bind', h.a4 (by omega), some_bind', h4, nI_1, g1, some_bind', t1.r5, some_bind', t1.a5 (by omega), some_bind', ua_ne _ _ (by omega), h5 u hu, nI_1, g2, some_bind', t2.r1, some_bind', t2.a1 (by omega), some_bind', bnd_eq, bnd_eq, nI_1, a1 1 (by omega) (by omega)]
    rw [hpre]
    rcases hP u hu with ⟨e1, e2⟩ | ⟨y, e1, e2⟩
    · have hd := dep_no e2
      have hN0 : 0 < N := by omega
      obtain ⟨N', rfl⟩ : ∃ N', N = N' + 1 := ⟨N - 1, by omega⟩
      have hstop : f_X8_climb_49 fu lr (N' + 1) w2 3 (nI x) (ar 1 u) (nI (st + 1)) = f_X8_climb_95 fu lr w2 3 (nI x) := by
        rw [f_X8_climb_49, t2.siz, some_bind', e1]
        by_cases q : nI n ≤ nI (st + 1)
        · rw [if_pos q]
        · rw [if_neg q, if_pos rfl]
      rw [hstop, hd]
      refine ⟨w2, _, rfl, t2, a1, a4, fun z hz => ?_, c1.tr c2⟩
      rw [a5 z hz]
      congr 2
      unfold ind
      by_cases q : z = u
      · subst q; rw [if_pos rfl, if_pos (ancB_iff.mpr (anc_refl z))]
      · rw [if_neg q, if_neg (fun c => e2 z hz q (ancB_iff.mp c))]
    · have hd := dep_par hinj hu e2
      obtain ⟨w3, ar3, k1, k2, k3, k4, k5, k6⟩ := ih y (st + 1) w2 _ (d + 1) (fun z => g z + if z = u then 1 else 0) t2 (fun x hx => by rw [a1 1 (by omega) (by omega)]; exact hP x hx) e2.1 (by rw [a4, upd_eq]) a5 (by omega) (by omega)
      rw [e1, k1]
      refine ⟨w3, ar3, rfl, k2, fun k q4 q5 => by rw [k3 k q4 q5, a1 k q4 q5], ?_, fun z hz => ?_, (c1.tr c2).tr k6⟩
      · rw [k4, a4]
        funext z
        by_cases q : z = x
        · subst q; rw [upd_eq, upd_eq]; congr 1; omega
        · rw [upd_ne _ _ q, upd_ne _ _ q, upd_ne _ _ q]
      · rw [k5 z hz, Nat.add_assoc]
        congr 2
        unfold ind
        have hpa := par_anc hinj hu e2 z hz
        by_cases q : z = u
        · subst q
          rw [if_pos rfl, if_pos (ancB_iff.mpr (anc_refl z)), if_neg]
          intro c
          have c1 := anc_le (ancB_iff.mp c)
          have c2 := anc_le e2.2.2.1
          exact e2.2.1 (hinj y z e2.1 hz (by omega))
        · rw [if_neg q, Nat.zero_add]
          by_cases c : ancB P z u = true
          · rw [if_pos c, if_pos]
            rw [ancB_iff] at c ⊢
            rcases hpa.mp ⟨q, c⟩ with rfl | ⟨_, r⟩
            · exact anc_refl z
            · exact r
          · rw [if_neg c, if_neg]
            rw [ancB_iff] at c ⊢
            intro r
            exact c (anc_tr r e2.2.2.1)
theorem climb_loop {fu n : Nat} (hfu : 100 ≤ fu) (hn : n ≤ 61) {P : Nat → Nat} (hinj : ∀ i j, i < n → j < n → P i = P j → i = j) {rt : Int32} : ∀ N x w ar, TW w ar (nI n) rt → (∀ x, x < n → ParV P n x (ar 1 x)) → (∀ j, j < n → ar 4 j = if j < x then nI (dep P n j) else 0) → (∀ z, z < n → ar 5 z = nI (und P x z)) → x ≤ n → n - x < N → ∃ w' ar', f_X8_climb_32 fu N w 3 (nI x) = some w' ∧ TW w' ar' (nI n) rt ∧ (∀ k, k ≠ 4 → k ≠ 5 → ar' k = ar k) ∧ (∀ j, j < n → ar' 4 j = nI (dep P n j)) ∧ (∀ z, z < n → ar' 5 z = nI (und P n z)) ∧ Chg tKs w w' := by
  intro N
  induction N with
  | zero => intro x w ar _ _ _ _ _ hN; omega
  | succ N ih =>
    intro x w ar h hP h4 h5 hx hN
    rw [f_X8_climb_32, h.siz, some_bind']
    by_cases c : n ≤ x
    · have e : x = n := by omega
      subst e
      rw [if_pos (nI_le c (by omega))]
      exact ⟨w, ar, rfl, h, fun _ _ _ => rfl, fun j hj => by rw [h4 j hj, if_pos hj], h5, Chg.rf _ _⟩
    · have hxn : x < n := by omega
      have h4x := h4 x hxn
      rw [if_neg (by omega)] at h4x
      rw [if_neg (nI_ge hxn (by omega)), h.r1, some_bind', h.a1 (by omega), some_bind', bnd_eq, bnd_eq]
      have fin : ∀ w1 ar1, TW w1 ar1 (nI n) rt → (∀ k, k ≠ 4 → k ≠ 5 → ar1 k = ar k) → ar1 4 = upd (ar 4) x (nI (dep P n x)) → (∀ z, z < n → ar1 5 z = nI (und P (x + 1) z)) → Chg tKs w w1 → ∃ w' ar', f_X8_climb_95 fu (f_X8_climb_32 fu N) w1 3 (nI x) = some w' ∧ TW w' ar' (nI n) rt ∧ (∀ k, k ≠ 4 → k ≠ 5 → ar' k = ar k) ∧ (∀ j, j < n → ar' 4 j = nI (dep P n j)) ∧ (∀ z, z < n → ar' 5 z = nI (und P n z)) ∧ Chg tKs w w' := by
        intro w1 ar1 t1 o1 o4 o5 c1
        obtain ⟨w2, ar2, k1, k2, k3, k4, k5, k6⟩ := ih (x + 1) w1 ar1 t1 (fun y hy => by rw [o1 1 (by omega) (by omega)]; exact hP y hy) (fun j hj => by
          rw [o4]
          by_cases q : j = x
          · subst q; rw [upd_eq, if_pos (by omega)]
          · rw [upd_ne _ _ q, h4 j hj]
            by_cases q2 : j < x
            · rw [if_pos q2, if_pos (by omega)]
            · rw [if_neg q2, if_neg (by omega)]) o5 (by omega) (by omega)
        rw [f_X8_climb_95, bnd_eq, nI_1, k1]
        exact ⟨w2, ar2, rfl, k2, fun k q4 q5 => by rw [k3 k q4 q5, o1 k q4 q5], k4, k5, c1.tr k6⟩
      rcases hP x hxn with ⟨e1, e2⟩ | ⟨u, e1, e2⟩
      · have hstop : f_X8_climb_49 fu (f_X8_climb_32 fu N) fu w 3 (nI x) (ar 1 x) 0 = f_X8_climb_95 fu (f_X8_climb_32 fu N) w 3 (nI x) := by
          obtain ⟨fu', rfl⟩ : ∃ f', fu = f' + 1 := ⟨fu - 1, by omega⟩
          rw [f_X8_climb_49, h.siz, some_bind', e1]
          by_cases q : nI n ≤ 0
          · rw [if_pos q]
          · rw [if_neg q, if_pos rfl]
        rw [hstop]
        refine fin w ar h (fun _ _ _ => rfl) ?_ (fun z hz => ?_) (Chg.rf _ _)
        · rw [dep_no e2]
          funext z
          by_cases q : z = x
          · subst q; rw [upd_eq, h4x]; rfl
          · rw [upd_ne _ _ q]
        · rw [h5 z hz, und_0]
          rintro ⟨q1, q2⟩
          exact e2 z hz (Ne.symm q1) q2
      · have hd := dep_par hinj hxn e2
        have hlt := dep_lt (P := P) hxn
        have hlt2 := dep_lt (P := P) e2.1
        obtain ⟨w1, ar1, k1, k2, k3, k4, k5, k6⟩ := walk (fu := fu) (lr := f_X8_climb_32 fu N) hn hinj (rt := rt) hxn fu u 0 w ar 0 (fun z => und P x z) h hP e2.1 (by rw [h4x]; rfl) h5 (by omega) (by omega)
        rw [e1, show (0 : Int32) = nI 0 from rfl, k1]
        refine fin w1 ar1 k2 k3 (by rw [k4, hd, Nat.zero_add]) (fun z hz => ?_) k6
        rw [k5 z hz]
        unfold ind
        have hpa := par_anc hinj hxn e2 z hz
        by_cases q : ancB P z u = true
        · rw [if_pos q, und_1]
          rw [ancB_iff] at q
          have : z = u ∨ (z ≠ u ∧ anc P z u) := by
            by_cases q2 : z = u
            · exact Or.inl q2
            · exact Or.inr ⟨q2, q⟩
          have := hpa.mpr this
          exact ⟨Ne.symm this.1, this.2⟩
        · rw [if_neg q, und_0, Nat.add_zero]
          rintro ⟨q1, q2⟩
          rw [ancB_iff] at q
          rcases hpa.mp ⟨Ne.symm q1, q2⟩ with rfl | ⟨_, r⟩
          · exact q (anc_refl z)
          · exact q r
theorem climb_zero {fu n : Nat} (hfu : 100 ≤ fu) (hn : n ≤ 61) {rt : Int32} : ∀ N x w ar, TW w ar (nI n) rt → (∀ j, j < x → ar 4 j = 0 ∧ ar 5 j = 0) → x ≤ n → n - x < N → ∃ w' ar', f_X8_climb_2 fu N w 3 (nI x) = f_X8_climb_32 fu fu w' 3 0 ∧ TW w' ar' (nI n) rt ∧ (∀ k, k ≠ 4 → k ≠ 5 → ar' k = ar k) ∧ (∀ j, j < n → ar' 4 j = 0 ∧ ar' 5 j = 0) ∧ Chg tKs w w' := by
  intro N
  induction N with
  | zero => intro x w ar _ _ _ hN; omega
  | succ N ih =>
    intro x w ar h h0 hx hN
    rw [f_X8_climb_2, h.siz, some_bind']
    by_cases c : n ≤ x
    · rw [if_pos (nI_le c (by omega)), bnd_eq]
      exact ⟨w, ar, rfl, h, fun _ _ _ => rfl, fun j hj => h0 j (by omega), Chg.rf _ _⟩
    · obtain ⟨w1, g1, t1, c1⟩ := h.s4 (j := x) (by omega) 0
      obtain ⟨w2, g2, t2, c2⟩ := t1.s5 (j := x) (by omega) 0
      obtain ⟨w3, ar3, k1, k2, k3, k4, k5⟩ := ih (x + 1) w2 _ t2 (fun j hj => by
        rw [ua_eq, ua_ne _ _ (by omega : 4 ≠ 5), ua_eq, ua_ne _ _ (by omega : 5 ≠ 4)]
        by_cases q : j = x
        · subst q; rw [upd_eq, upd_eq]; exact ⟨rfl, rfl⟩
        · rw [upd_ne _ _ q, upd_ne _ _ q]; exact h0 j (by omega)) (by omega) (by omega)
      rw [if_neg (nI_ge (by omega) (by omega)), h.r4, some_bind', g1, some_bind', t1.r5, some_bind', g2, some_bind', bnd_eq, nI_1, k1]
      exact ⟨w3, ar3, rfl, k2, fun k q4 q5 => by rw [k3 k q4 q5, ua_ne _ _ q5, ua_ne _ _ q4], k4, (c1.tr c2).tr k5⟩
/-- the class's tree of a row of keys -/
def TOK (w : MW) (K : List Nat) : Prop := ∃ ar rt, TW w ar (nI K.length) rt ∧ KH ar K ∧ (∀ x, x < K.length → ParV (pF K) K.length x (ar 1 x) ∧ LV (pF K) x (ar 2 x) ∧ RV (pF K) K.length x (ar 3 x) ∧ ar 4 x = nI (dep (pF K) K.length x) ∧ ar 5 x = nI (und (pF K) K.length x)) ∧ ((K.length = 0 ∧ rt = -1) ∨ ∃ r, r < K.length ∧ rt = nI r ∧ ∀ z, z < K.length → pF K z ≤ pF K r)
theorem grow_84 {fu : Nat} (hfu : 100 ≤ fu) {K : List Nat} (O : KO K) {w : MW} {ar : Nat → Nat → Int32} {rt : Int32} (h : TW w ar (nI K.length) rt) (hK : KH ar K) : ∃ w', f_X8_grow_84 fu w 3 = some w' ∧ TOK w' K ∧ Chg tKs w w' := by
  have h61 := O.2.2
  have hinj : ∀ i j, i < K.length → j < K.length → pF K i = pF K j → i = j := fun i j hi hj e => O.inj hi hj e
  obtain ⟨w1, ar1, rt1, g1, g2, g3, g4, g5, g6⟩ := link_ok hfu O h hK
  obtain ⟨w2, ar2, k1, k2, k3, k4, k5⟩ := climb_zero hfu h61 fu 0 w1 ar1 g2 (fun j hj => by omega) (by omega) (by omega)
  obtain ⟨w3, ar3, m1, m2, m3, m4, m5, m6⟩ := climb_loop hfu h61 hinj (P := pF K) fu 0 w2 ar2 k2 (fun x hx => by rw [k3 1 (by omega) (by omega)]; exact (g4 x hx).1) (fun j hj => by rw [if_neg (by omega)]; exact (k4 j hj).1) (fun z hz => by rw [(k4 z hz).2]; rfl) (by omega) (by omega)
  refine ⟨w3, ?_, ⟨ar3, rt1, m2, fun j hj => ?_, fun x hx => ?_, g5⟩, (g6.tr k5).tr m6⟩
  · rw [f_X8_grow_84, h.cl, g1, some_bind', g2.cl, f_X8_climb, bnd_eq, show (0 : Int32) = nI 0 from rfl, k1, show (0 : Int32) = nI 0 from rfl, m1, some_bind']
  · rw [m3 0 (by omega) (by omega), k3 0 (by omega) (by omega)]; exact g3 j hj
  · rw [m3 1 (by omega) (by omega), k3 1 (by omega) (by omega), m3 2 (by omega) (by omega), k3 2 (by omega) (by omega), m3 3 (by omega) (by omega), k3 3 (by omega) (by omega)]
    exact ⟨(g4 x hx).1, (g4 x hx).2.1, (g4 x hx).2.2, m4 x hx, m5 x hx⟩
