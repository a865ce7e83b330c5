/-! the model's tree: the one that is ahead of a stretch, each time anew -/
def ArgM (P : Nat → Nat) (f e a : Nat) : Prop := f ≤ a ∧ a < e ∧ ∀ z, f ≤ z → z < e → P z ≤ P a
theorem mI_lt {e k : Nat} (he : e < 2 ^ 30) (hk : k < 2 ^ 30) : mI e < nI k ↔ e ≤ k := by
  rcases Nat.eq_zero_or_pos e with q | q
  · subst q
    rw [mI_0]
    exact ⟨fun _ => by omega, fun _ => m1_lt k (by omega)⟩
  · obtain ⟨e', rfl⟩ : ∃ e', e = e' + 1 := ⟨e - 1, by omega⟩
    rw [mI_s, nI_ltI (by omega) (by omega)]
    omega
theorem mI_ge {e k : Nat} (he : e < 2 ^ 30) (hk : k < 2 ^ 30) : nI k ≤ mI e ↔ k < e := by
  rw [← Int32.not_lt, mI_lt he hk]; omega
section M
variable {C : MW} {v : Int64} {ar : Nat → Nat → Int32} {fu : Nat} {F : Nat → Int32}
/-- the model's row holds the keys -/
def RH (ar : Nat → Nat → Int32) (K : List Nat) : Prop := ∀ j, j < K.length → ar 4 j = nI (nth K j)
theorem ahead_loop (hC : C.length = 123) {K : List Nat} (O : KO K) (hK : RH ar K) {f e : Nat} (he : e ≤ K.length) : ∀ N k b, f ≤ b → b < k → b < e → k ≤ 100 → (∀ z, f ≤ z → z < k → z < e → pF K z ≤ pF K b) → e - k < N → ∃ a, f_X11_ahead_16 fu (mW C F v ar) N 123 (mI e) (nI b) (nI k) = some (nI a) ∧ ArgM (pF K) f e a := by
  have h61 := O.2.2
  intro N
  induction N with
  | zero => intro k b _ _ _ _ _ hN; omega
  | succ N ih =>
    intro k b h1 h2 h3 h100 h4 hN
    rw [f_X11_ahead_16]
    by_cases c : e ≤ k
    · rw [if_pos ((mI_lt (by omega) (by omega)).mpr c)]
      exact ⟨b, rfl, h1, h3, fun z hz1 hz2 => h4 z hz1 (by omega) hz2⟩
    · have hk : k < K.length := by omega
      rw [if_neg (fun q => c ((mI_lt (by omega) (by omega)).mp q)), m_gR hC F v ar 10 rfl, some_bind', m_a4 hC F v ar (by omega), some_bind', some_bind', m_a4 hC F v ar (by omega), some_bind', hK k hk, hK b (by omega), mpri (O.lt hk), mpri (O.lt (by omega))]
      have b1 := prN_lt (nth K k)
      have b2 := prN_lt (nth K b)
      by_cases q : pF K k ≤ pF K b
      · rw [if_pos (nI_le (show prN (nth K k) ≤ prN (nth K b) from q) (by omega)), f_X11_ahead_50, bnd_eq, bnd_eq, nI_1]
        refine ih (k + 1) b h1 (by omega) h3 (by omega) (fun z z1 z2 z3 => ?_) (by omega)
        rcases Nat.lt_or_ge z k with y | y
        · exact h4 z z1 y z3
        · rw [show z = k by omega]; exact q
      · rw [if_neg (nI_ge (show prN (nth K b) < prN (nth K k) from by unfold pF at q; omega) (by omega)), f_X11_ahead_50, bnd_eq, bnd_eq, nI_1]
        refine ih (k + 1) k (by omega) (by omega) (by omega) (by omega) (fun z z1 z2 z3 => ?_) (by omega)
        rcases Nat.lt_or_ge z k with y | y
        · have := h4 z z1 y z3; omega
        · rw [show z = k by omega]; exact Nat.le_refl _
theorem ahead_in (hC : C.length = 123) (hfu : 200 ≤ fu) {K : List Nat} (O : KO K) (hK : RH ar K) {f e : Nat} (he : e ≤ K.length) (hfe : f < e) : ∃ a, f_X11_ahead fu (mW C F v ar) 123 (nI f) (mI e) = some (nI a) ∧ ArgM (pF K) f e a := by
  have h61 := O.2.2
  rw [f_X11_ahead, if_pos ((mI_ge (by omega) (by omega)).mpr hfe), f_X11_ahead_10, bnd_eq, bnd_eq, nI_1]
  exact ahead_loop hC O hK he fu (f + 1) f (Nat.le_refl _) (by omega) hfe (by omega) (fun z z1 z2 z3 => by rw [show z = f by omega]; exact Nat.le_refl _) (by omega)
theorem ahead_out {w : MW} {f e : Nat} (hfu : 200 ≤ fu) (he : e ≤ 100) (hf : f ≤ 100) (hfe : e ≤ f) : f_X11_ahead fu w 123 (nI f) (mI e) = some (-1) := by
  obtain ⟨fu', rfl⟩ : ∃ f', fu = f' + 1 := ⟨fu - 1, by omega⟩
  rw [f_X11_ahead, if_neg (fun q => by have := (mI_ge (by omega) (by omega)).mp q; omega), f_X11_ahead_10, bnd_eq, bnd_eq, nI_1, f_X11_ahead_16, if_pos ((mI_lt (by omega) (by omega)).mpr (by omega))]
theorem argm_u {P : Nat → Nat} {n f e a b : Nat} (hinj : ∀ i j, i < n → j < n → P i = P j → i = j) (he : e ≤ n) (h : ArgM P f e a) (g : ArgM P f e b) : a = b := by
  have h1 := h.2.2 b g.1 g.2.1
  have h2 := g.2.2 a h.1 h.2.1
  exact hinj a b (by have := h.2.1; omega) (by have := g.2.1; omega) (by omega)
/-- ancestors outside a stretch -/
def dOut (P : Nat → Nat) (n f e x : Nat) : Nat := (List.range n).countP (fun y => !(decide (f ≤ y) && decide (y < e)) && ancB P y x)
/-- a stretch that is a subtree -/
def SubT (P : Nat → Nat) (n f e : Nat) : Prop := e ≤ n ∧ (0 < f → ∀ z, f ≤ z → z < e → P z < P (f - 1)) ∧ (e < n → ∀ z, f ≤ z → z < e → P z < P e)
def ParO (P : Nat → Nat) (n f e x : Nat) (u : Int32) : Prop := (u = -1 ∧ ∀ y, y < n → ¬ (f ≤ y ∧ y < e) → ¬ anc P y x) ∨ ∃ y, u = nI y ∧ y < n ∧ ¬ (f ≤ y ∧ y < e) ∧ anc P y x ∧ ∀ z, z < n → ¬ (f ≤ z ∧ z < e) → anc P z x → anc P z y
theorem outB {P : Nat → Nat} {f e y x : Nat} : (!(decide (f ≤ y) && decide (y < e)) && ancB P y x) = true ↔ (¬ (f ≤ y ∧ y < e) ∧ anc P y x) := by
  rw [Bool.and_eq_true, ancB_iff]
  refine and_congr_left' ?_
  rw [Bool.not_eq_true', Bool.and_eq_false_iff, decide_eq_false_iff_not, decide_eq_false_iff_not]
  omega
/-- its is at the head of [f, e), and at isn't it -/
theorem sub_step {P : Nat → Nat} {n f e i x f' e' : Nat} (hinj : ∀ i j, i < n → j < n → P i = P j → i = j) (S : SubT P n f e) (hx : f ≤ x ∧ x < e) (hA : ArgM P f e i) (hne : i ≠ x) (hfe : (f' = i + 1 ∧ e' = e ∧ i < x) ∨ (f' = f ∧ e' = i ∧ x < i)) : SubT P n f' e' ∧ (f' ≤ x ∧ x < e') ∧ (∀ z, z < n → ((¬ (f' ≤ z ∧ z < e') ∧ anc P z x) ↔ (z = i ∨ (¬ (f ≤ z ∧ z < e) ∧ anc P z x)))) ∧ anc P i x ∧ (∀ z, z < n → ¬ (f ≤ z ∧ z < e) → anc P z x → anc P z i) := by
  obtain ⟨s1, s2, s3⟩ := S
  obtain ⟨a1, a2, a3⟩ := hA
  have hin : i < n := by omega
  have strict : ∀ z, f ≤ z → z < e → z ≠ i → P z < P i := fun z z1 z2 z3 => by
    have h1 := a3 z z1 z2
    have h2 : P z ≠ P i := fun q => z3 (hinj z i (by omega) hin q)
    omega
  have hix : anc P i x := fun z hz => a3 z (by omega) (by omega)
  have hout : ∀ z, z < n → ¬ (f ≤ z ∧ z < e) → anc P z x → anc P z i := by
    intro z z1 z2 z3
    have hp : P i ≤ P z := by
      rcases Nat.lt_or_ge z f with q | q
      · have h1 := z3 (f - 1) (by omega)
        have h2 := s2 (by omega) i a1 a2
        omega
      · have h1 := z3 e (by omega)
        have h2 := s3 (by omega) i a1 a2
        omega
    exact anc_lin z3 hix hp
  refine ⟨⟨by omega, fun h0 z z1 z2 => ?_, fun h0 z z1 z2 => ?_⟩, by omega, fun z hz => ?_, hix, hout⟩
  · rcases hfe with ⟨q1, q2, q3⟩ | ⟨q1, q2, q3⟩
    · rw [q1, Nat.add_sub_cancel]; exact strict z (by omega) (by omega) (by omega)
    · rw [q1]; exact s2 (by omega) z (by omega) (by omega)
  · rcases hfe with ⟨q1, q2, q3⟩ | ⟨q1, q2, q3⟩
    · rw [q2]; exact s3 (by omega) z (by omega) (by omega)
    · rw [q2]; exact strict z (by omega) (by omega) (by omega)
  · constructor
    · rintro ⟨h1, h2⟩
      by_cases c1 : z = i
      · exact Or.inl c1
      · refine Or.inr ⟨fun h3 => ?_, h2⟩
        have h4 := h2 i (by omega)
        have h5 := strict z h3.1 h3.2 c1
        omega
    · rintro (rfl | ⟨h1, h2⟩)
      · exact ⟨by omega, hix⟩
      · exact ⟨by omega, h2⟩
theorem dOut_step {P : Nat → Nat} {n f e i x f' e' : Nat} (hi : i < n) (hif : f ≤ i ∧ i < e) (h : ∀ z, z < n → ((¬ (f' ≤ z ∧ z < e') ∧ anc P z x) ↔ (z = i ∨ (¬ (f ≤ z ∧ z < e) ∧ anc P z x)))) : dOut P n f' e' x = dOut P n f e x + 1 := by
  unfold dOut
  rw [countP_or' (q := fun z => decide (z = i)) (r := fun y => !(decide (f ≤ y) && decide (y < e)) && ancB P y x) (List.range n) (fun z hz => ?_) (fun z _ => ?_), count_one hi, Nat.add_comm]
  · rw [Bool.eq_iff_iff, outB, Bool.or_eq_true, outB, decide_eq_true_eq]
    exact h z (List.mem_range.mp hz)
  · rw [outB, decide_eq_true_eq]
    rintro ⟨q1, q2, _⟩
    omega
theorem dOut_end {P : Nat → Nat} {n f e x : Nat} (hinj : ∀ i j, i < n → j < n → P i = P j → i = j) (he : e ≤ n) (hA : ArgM P f e x) : dOut P n f e x = dep P n x := by
  unfold dOut dep
  apply List.countP_congr
  intro y hy
  have hy' := List.mem_range.mp hy
  obtain ⟨a1, a2, a3⟩ := hA
  rw [outB, Bool.and_eq_true, decide_eq_true_eq, ancB_iff]
  constructor
  · rintro ⟨h1, h2⟩; exact ⟨fun q => h1 (by omega), h2⟩
  · rintro ⟨h1, h2⟩
    refine ⟨fun q => h1 ?_, h2⟩
    have e1 := anc_le h2
    have e2 := a3 y q.1 q.2
    exact hinj y x hy' (by omega) (by omega)
theorem parO_end {P : Nat → Nat} {n f e x : Nat} {u : Int32} (hinj : ∀ i j, i < n → j < n → P i = P j → i = j) (he : e ≤ n) (hA : ArgM P f e x) (h : ParO P n f e x u) : ParV P n x u := by
  obtain ⟨a1, a2, a3⟩ := hA
  have key : ∀ z, z < n → z ≠ x → anc P z x → ¬ (f ≤ z ∧ z < e) := fun z h1 h2 h3 q => by
    have e1 := anc_le h3
    have e2 := a3 z q.1 q.2
    exact h2 (hinj z x h1 (by omega) (by omega))
  rcases h with ⟨h1, h2⟩ | ⟨y, h1, h2, h3, h4, h5⟩
  · exact Or.inl ⟨h1, fun z z1 z2 z3 => h2 z z1 (key z z1 z2 z3) z3⟩
  · exact Or.inr ⟨y, h1, h2, fun q => h3 (by omega), h4, fun z z1 z2 z3 => h5 z z1 (key z z1 z2 z3) z3⟩
theorem sub_anc {P : Nat → Nat} {n f e x : Nat} (S : SubT P n f e) (hA : ArgM P f e x) {y : Nat} (hy : y < n) : anc P x y ↔ (f ≤ y ∧ y < e) := by
  obtain ⟨s1, s2, s3⟩ := S
  obtain ⟨a1, a2, a3⟩ := hA
  constructor
  · intro h
    rcases Nat.lt_or_ge y f with q | q
    · have h1 := h (f - 1) (by omega)
      have h2 := s2 (by omega) x a1 a2
      omega
    · rcases Nat.lt_or_ge y e with q2 | q2
      · exact ⟨q, q2⟩
      · have h1 := h e (by omega)
        have h2 := s3 (by omega) x a1 a2
        omega
  · intro h z hz
    exact a3 z (by omega) (by omega)
theorem mFw {F : Nat → Int32} {v : Int64} {x : Int32} : (mF F v).set 12 (.int x) = mF (upd F 12 x) v ∧ (mF F v).set 13 (.int x) = mF (upd F 13 x) v ∧ (mF F v).set 14 (.int x) = mF (upd F 14 x) v ∧ (mF F v).set 15 (.int x) = mF (upd F 15 x) v ∧ (mF F v).set 11 (.int x) = mF (upd F 11 x) v := ⟨rfl, rfl, rfl, rfl, rfl⟩
/-- the fields of the way alone may differ -/
def FWy (F F' : Nat → Int32) : Prop := ∀ k, k < 12 ∨ 15 < k → F' k = F k
theorem FWy.tr {F F1 F2 : Nat → Int32} (h : FWy F F1) (g : FWy F1 F2) : FWy F F2 := fun k hk => (g k hk).trans (h k hk)
theorem goesTo_loop (hC : C.length = 123) (hfu : 200 ≤ fu) {K : List Nat} (O : KO K) (hK : RH ar K) {x : Nat} (hx : x < K.length) : ∀ N f e i d F, F 12 = nI f → F 13 = mI e → F 15 = nI d → ParO (pF K) K.length f e x (F 14) → d = dOut (pF K) K.length f e x → SubT (pF K) K.length f e → (f ≤ x ∧ x < e) → ArgM (pF K) f e i → e - f < N → ∃ F' f' e', f_X11_goesTo_38 fu N (mW C F v ar) 123 (nI x) (nI i) = some (mW C F' v ar) ∧ F' 12 = nI f' ∧ F' 13 = mI e' ∧ F' 15 = nI (dep (pF K) K.length x) ∧ ParV (pF K) K.length x (F' 14) ∧ SubT (pF K) K.length f' e' ∧ ArgM (pF K) f' e' x ∧ FWy F F' := by
  have h61 := O.2.2
  have hinj : ∀ i j, i < K.length → j < K.length → pF K i = pF K j → i = j := fun i j hi hj e => O.inj hi hj e
  intro N
  induction N with
  | zero => intro f e i d F _ _ _ _ _ _ _ _ hN; omega
  | succ N ih =>
    intro f e i d F h12 h13 h15 h14 hd S hxfe hA hN
    have s1 := S.1
    have a1 := hA.1
    have a2 := hA.2.1
    rw [f_X11_goesTo_38]
    by_cases c : i = x
    · subst c
      rw [if_pos rfl]
      exact ⟨F, f, e, rfl, h12, h13, by rw [h15, hd, dOut_end hinj s1 hA], parO_end hinj s1 hA h14, S, hA, fun _ _ => rfl⟩
    · rw [if_neg (fun q => c ((nI_eq (by omega) (by omega)).mp q)), m_p hC _ v ar 14 (by omega) mFw.2.2.1, some_bind', m_gI hC _ v ar 15 rfl, some_bind', upd_ne _ _ (by omega : 15 ≠ 14), h15, nI_1, m_p hC _ v ar 15 (by omega) mFw.2.2.2.1, some_bind']
      have rest : ∀ f' e' F1, ((f' = i + 1 ∧ e' = e ∧ i < x) ∨ (f' = f ∧ e' = i ∧ x < i)) → F1 12 = nI f' → F1 13 = mI e' → F1 15 = nI (d + 1) → F1 14 = nI i → FWy F F1 → ∃ F' f' e', f_X11_goesTo_80 fu (f_X11_goesTo_38 fu N) (mW C F1 v ar) 123 (nI x) = some (mW C F' v ar) ∧ F' 12 = nI f' ∧ F' 13 = mI e' ∧ F' 15 = nI (dep (pF K) K.length x) ∧ ParV (pF K) K.length x (F' 14) ∧ SubT (pF K) K.length f' e' ∧ ArgM (pF K) f' e' x ∧ FWy F F' := by
        intro f' e' F1 hfe k12 k13 k15 k14 kF
        obtain ⟨p1, p2, p3, p4, p5⟩ := sub_step hinj S hxfe hA c hfe
        obtain ⟨a, g1, g2⟩ := ahead_in (v := v) (F := F1) hC hfu O hK (f := f') (e := e') p1.1 (by omega)
        have hP : ParO (pF K) K.length f' e' x (F1 14) := by
          refine Or.inr ⟨i, k14, by omega, by omega, p4, fun z z1 z2 z3 => ?_⟩
          rcases (p3 z z1).mp ⟨z2, z3⟩ with rfl | ⟨q1, q2⟩
          · exact anc_refl z
          · exact p5 z z1 q1 q2
        obtain ⟨F2, f2, e2, m1, m2, m3, m4, m5, m6, m7, m8⟩ := ih f' e' a (d + 1) F1 k12 k13 k15 hP (by rw [dOut_step (by omega) ⟨a1, a2⟩ p3, hd]) p1 p2 g2 (by omega)
        rw [f_X11_goesTo_80, m_gI hC _ v ar 12 rfl, some_bind', m_gI hC _ v ar 13 rfl, some_bind', k12, k13, m_cl hC, g1, some_bind', bnd_eq, m1]
        exact ⟨F2, f2, e2, rfl, m2, m3, m4, m5, m6, m7, kF.tr m8⟩
      have kF : FWy F (upd (upd F 14 (nI i)) 15 (nI (d + 1))) := fun k hk => by rw [upd_ne _ _ (by omega), upd_ne _ _ (by omega)]
      by_cases q : i ≤ x
      · rw [if_pos (nI_le q (by omega)), m_p hC _ v ar 12 (by omega) mFw.1, some_bind', nI_1]
        refine rest (i + 1) e _ (Or.inl ⟨rfl, rfl, by omega⟩) (upd_eq _ _ _) ?_ ?_ ?_ (fun k hk => by rw [upd_ne _ _ (by omega)]; exact kF k hk)
        · rw [upd_ne _ _ (by omega), upd_ne _ _ (by omega), upd_ne _ _ (by omega)]; exact h13
        · rw [upd_ne _ _ (by omega), upd_eq]
        · rw [upd_ne _ _ (by omega), upd_ne _ _ (by omega), upd_eq]
      · rw [if_neg (nI_ge (by omega) (by omega)), m_p hC _ v ar 13 (by omega) mFw.2.1, some_bind', mI_sub]
        refine rest f i _ (Or.inr ⟨rfl, rfl, by omega⟩) ?_ (upd_eq _ _ _) ?_ ?_ (fun k hk => by rw [upd_ne _ _ (by omega)]; exact kF k hk)
        · rw [upd_ne _ _ (by omega), upd_ne _ _ (by omega), upd_ne _ _ (by omega)]; exact h12
        · rw [upd_ne _ _ (by omega), upd_eq]
        · rw [upd_ne _ _ (by omega), upd_ne _ _ (by omega), upd_eq]
/-- the way to x -/
def WayOK (K : List Nat) (x : Nat) (F' : Nat → Int32) (f e : Nat) : Prop := F' 12 = nI f ∧ F' 13 = mI e ∧ F' 15 = nI (dep (pF K) K.length x) ∧ ParV (pF K) K.length x (F' 14) ∧ SubT (pF K) K.length f e ∧ ArgM (pF K) f e x
theorem goesTo_ok (hC : C.length = 123) (hfu : 200 ≤ fu) {K : List Nat} (O : KO K) (hK : RH ar K) (h11 : F 11 = nI K.length) {x : Nat} (hx : x < K.length) : ∃ F' f e, f_X11_goesTo fu (mW C F v ar) 123 (nI x) = some (mW C F' v ar) ∧ WayOK K x F' f e ∧ FWy F F' := by
  have h61 := O.2.2
  obtain ⟨a, g1, g2⟩ := ahead_in (v := v) (F := upd (upd (upd (upd F 12 0) 13 (mI K.length)) 14 (-1)) 15 0) hC hfu O hK (f := 0) (e := K.length) (Nat.le_refl _) (by omega)
  obtain ⟨F', f', e', m1, m2, m3, m4, m5, m6, m7, m8⟩ := goesTo_loop (v := v) hC hfu O hK hx fu 0 K.length a 0 (upd (upd (upd (upd F 12 0) 13 (mI K.length)) 14 (-1)) 15 0) rfl rfl rfl (Or.inl ⟨rfl, fun y hy q => absurd ⟨by omega, hy⟩ q⟩) (by
    unfold dOut
    rw [eq_comm, List.countP_eq_zero]
    intro y hy
    rw [outB]
    rintro ⟨q, _⟩
    exact q ⟨by omega, List.mem_range.mp hy⟩) ⟨Nat.le_refl _, fun h => by omega, fun h => by omega⟩ ⟨by omega, hx⟩ g2 (by omega)
  refine ⟨F', f', e', ?_, ⟨m2, m3, m4, m5, m6, m7⟩, fun k hk => ?_⟩
  · rw [f_X11_goesTo, m_p hC _ v ar 12 (by omega) mFw.1, some_bind', m_gI hC _ v ar 11 rfl, some_bind', upd_ne _ _ (by omega : 11 ≠ 12), h11, mI_sub, m_p hC _ v ar 13 (by omega) mFw.2.1, some_bind', m_p hC _ v ar 14 (by omega) mFw.2.2.1, some_bind', m_p hC _ v ar 15 (by omega) mFw.2.2.2.1, some_bind', m_gI hC _ v ar 12 rfl, some_bind', m_gI hC _ v ar 13 rfl, some_bind', m_cl hC]
    have e1 : upd (upd (upd (upd F 12 0) 13 (mI K.length)) 14 (-1)) 15 0 12 = nI 0 := rfl
    have e2 : upd (upd (upd (upd F 12 0) 13 (mI K.length)) 14 (-1)) 15 0 13 = mI K.length := rfl
    rw [e1, e2, g1, some_bind', bnd_eq, m1]
  · rw [m8 k hk, upd_ne _ _ (by omega), upd_ne _ _ (by omega), upd_ne _ _ (by omega), upd_ne _ _ (by omega)]
theorem mdepth_ok (hC : C.length = 123) (hfu : 200 ≤ fu) {K : List Nat} (O : KO K) (hK : RH ar K) (h11 : F 11 = nI K.length) {x : Nat} (hx : x < K.length) : ∃ F', f_X11_depth fu (mW C F v ar) 123 (nI x) = some (nI (dep (pF K) K.length x), mW C F' v ar) ∧ FWy F F' := by
  obtain ⟨F', f, e, g1, g2, g3⟩ := goesTo_ok (v := v) hC hfu O hK h11 hx
  refine ⟨F', ?_, g3⟩
  rw [f_X11_depth, m_cl hC, g1, some_bind', m_gI hC _ v ar 15 rfl, some_bind', g2.2.2.1]
/-- the greatest depth and 1, from x on -/
def hiF (P : Nat → Nat) (n x acc : Nat) : Nat := (List.range' x (n - x)).foldl (fun a j => max a (dep P n j + 1)) acc
theorem hiF_end (P : Nat → Nat) {n x : Nat} (acc : Nat) (h : n ≤ x) : hiF P n x acc = acc := by
  unfold hiF; rw [show n - x = 0 by omega]; rfl
theorem hiF_s (P : Nat → Nat) {n x : Nat} (acc : Nat) (h : x < n) : hiF P n x acc = hiF P n (x + 1) (max acc (dep P n x + 1)) := by
  unfold hiF
  rw [show n - x = (n - (x + 1)) + 1 by omega, List.range'_succ, List.foldl_cons]
theorem mhigh_loop (hC : C.length = 123) (hfu : 200 ≤ fu) {K : List Nat} (O : KO K) (hK : RH ar K) : ∀ N x acc F, F 11 = nI K.length → x ≤ K.length → acc ≤ 100 → K.length - x < N → ∃ F', f_X11_high_4 fu N (mW C F v ar) 123 (nI acc) (nI x) = some (nI (hiF (pF K) K.length x acc), mW C F' v ar) ∧ FWy F F' := by
  have h61 := O.2.2
  intro N
  induction N with
  | zero => intro x acc F _ _ _ hN; omega
  | succ N ih =>
    intro x acc F h11 hx hacc hN
    rw [f_X11_high_4, m_gI hC _ v ar 11 rfl, some_bind', h11]
    by_cases c : K.length ≤ x
    · rw [if_pos (nI_le c (by omega)), hiF_end _ _ c]
      exact ⟨F, rfl, fun _ _ => rfl⟩
    · have hx' : x < K.length := by omega
      have hd := dep_lt (P := pF K) hx'
      obtain ⟨F1, g1, g2⟩ := mdepth_ok (v := v) hC hfu O hK h11 hx'
      have h11' : F1 11 = nI K.length := by rw [g2 11 (by omega)]; exact h11
      rw [if_neg (nI_ge hx' (by omega)), m_cl hC, g1, some_bind', nI_1, hiF_s _ _ hx']
      by_cases q : dep (pF K) K.length x + 1 ≤ acc
      · obtain ⟨F2, k1, k2⟩ := ih (x + 1) acc F1 h11' (by omega) hacc (by omega)
        rw [if_pos (nI_le q (by omega)), f_X11_high_34, bnd_eq, bnd_eq, nI_1, k1, Nat.max_eq_left q]
        exact ⟨F2, rfl, g2.tr k2⟩
      · obtain ⟨F2, k1, k2⟩ := mdepth_ok (v := v) hC hfu O hK h11' hx'
        obtain ⟨F3, m1, m2⟩ := ih (x + 1) (dep (pF K) K.length x + 1) F2 (by rw [k2 11 (by omega)]; exact h11') (by omega) (by omega) (by omega)
        rw [if_neg (nI_ge (by omega) (by omega)), m_cl hC, k1, some_bind', f_X11_high_34, bnd_eq, bnd_eq, nI_1, nI_1, m1, Nat.max_eq_right (by omega)]
        exact ⟨F3, rfl, (g2.tr k2).tr m2⟩
theorem mhigh_ok (hC : C.length = 123) (hfu : 200 ≤ fu) {K : List Nat} (O : KO K) (hK : RH ar K) (h11 : F 11 = nI K.length) : ∃ F', f_X11_high fu (mW C F v ar) 123 = some (nI (hiF (pF K) K.length 0 0), mW C F' v ar) ∧ FWy F F' := by
  rw [f_X11_high, bnd_eq, bnd_eq]
  exact mhigh_loop hC hfu O hK fu 0 0 F h11 (by omega) (by omega) (by have := O.2.2; omega)
/-- how far two are: by the one that is ahead of all between them -/
theorem mfar_ok (hC : C.length = 123) (hfu : 200 ≤ fu) {K : List Nat} (O : KO K) (hK : RH ar K) (h11 : F 11 = nI K.length) {i j : Nat} (hi : i < K.length) (hj : j < K.length) : ∃ F' a, f_X11_farOf fu (mW C F v ar) 123 (nI i) (nI j) = some (nI (dep (pF K) K.length i + dep (pF K) K.length j) - nI (2 * dep (pF K) K.length a), mW C F' v ar) ∧ ArgM (pF K) (min i j) (max i j + 1) a ∧ FWy F F' := by
  have h61 := O.2.2
  have key : ∀ lo hi, lo = min i j → hi = max i j → ∃ F' a, f_X11_farOf_21 fu (mW C F v ar) 123 (nI i) (nI j) (nI lo) (nI hi) = some (nI (dep (pF K) K.length i + dep (pF K) K.length j) - nI (2 * dep (pF K) K.length a), mW C F' v ar) ∧ ArgM (pF K) (min i j) (max i j + 1) a ∧ FWy F F' := by
    intro lo hi' e1 e2
    subst e1 e2
    obtain ⟨F1, g1, g2⟩ := mdepth_ok (v := v) hC hfu O hK h11 hi
    have h1 : F1 11 = nI K.length := by rw [g2 11 (by omega)]; exact h11
    obtain ⟨F2, k1, k2⟩ := mdepth_ok (v := v) hC hfu O hK h1 hj
    have h2 : F2 11 = nI K.length := by rw [k2 11 (by omega)]; exact h1
    obtain ⟨a, m1, m2⟩ := ahead_in (v := v) (F := F2) hC hfu O hK (f := min i j) (e := max i j + 1) (by omega) (by omega)
    rw [mI_s] at m1
    obtain ⟨F3, q1, q2⟩ := mdepth_ok (v := v) hC hfu O hK h2 (x := a) (by have := m2.2.1; omega)
    refine ⟨F3, a, ?_, m2, (g2.tr k2).tr q2⟩
    rw [f_X11_farOf_21, bnd_eq, m_cl hC, g1, some_bind', m_cl hC, k1, some_bind', m_cl hC, m1, some_bind', m_cl hC, q1, some_bind', nI_add, show (2 : Int32) = nI 2 from rfl, nI_mul]
  rw [f_X11_farOf]
  by_cases c : j ≤ i
  · rw [if_pos (nI_le c (by omega)), f_X11_farOf_10, bnd_eq, if_pos (nI_le c (by omega))]
    exact key j i (by omega) (by omega)
  · rw [if_neg (nI_ge (by omega) (by omega)), f_X11_farOf_10, bnd_eq, if_neg (nI_ge (by omega) (by omega))]
    exact key i j (by omega) (by omega)
end M
