/-! MERGED; unlike keys -/
section Q
variable {C : MW} {F : Nat → Int32} {v : Int64} {ar : Nat → Nat → Int32} {s : AS} {V : List AS} {n : Nat} {fu : Nat}
theorem k30_31 : ∀ k, k ∈ [30] → 1 ≤ k ∧ k < 31 := by decide
theorem cmerged_loop (O : AOK s.1) (hfu : 100 ≤ fu) {k : Nat} (hk : k < smF (fun t => (s.1 t).length) 0 8) : ∀ N p w hd key, CS w s.1 s.2 → Sc w → C0 w → H30 w hd → PI s.1 hd → smF hd 0 8 = p → p ≤ k → k - p + 1 < N → ∃ w' hd' σ, f_X10_merged_31 fu N w 0 (nI k) key (nI p) = some (nI (kk s.1 σ (hd' σ)), w') ∧ PI s.1 hd' ∧ smF hd' 0 8 = k ∧ Nx s.1 hd' 8 σ ∧ CS w' s.1 s.2 ∧ Sc w' ∧ Chg [30] w w' := by
  have ht := O.2
  intro N
  induction N with
  | zero => intro p w hd key _ _ _ _ _ _ _ hN; omega
  | succ N ih =>
    intro p w hd key h Z T H P hp hpk hN
    obtain ⟨σ, w1, g1, g2, g3, g4, g5, g6⟩ := next_ok (fu := fu) h Z O.1 H P hfu (by omega)
    have T1 := T.chg g6 (by simp)
    obtain ⟨a, b, t0⟩ := id T
    rw [f_X10_merged_31, if_neg (nI_nlt hpk (by omega)), gR_ob t0 rfl, some_bind', h.pd, some_bind', cl_ob Z.2.2.2.1, g2, some_bind', bnd_eq, bnd_eq, nI_1]
    have hs1 := sum8_up hd g1.1 (hd σ + 1)
    rcases Nat.lt_or_ge p k with q | q
    · obtain ⟨w2, hd2, σ2, k1, k2, k3, k4, k5, k6, k7⟩ := ih (p + 1) w1 _ (nI (kk s.1 σ (hd σ))) g4 g5 T1 g3 (PI_step O.1 P g1) (by omega) (by omega) (by omega)
      exact ⟨w2, hd2, σ2, k1, k2, k3, k4, k5, k6, g6.tr k7⟩
    · obtain ⟨N', rfl⟩ : ∃ N', N = N' + 1 := ⟨N - 1, by omega⟩
      rw [f_X10_merged_31, if_pos (nI_lt (by omega) (by omega))]
      exact ⟨w1, hd, σ, rfl, P, by omega, g1, g4, g5, g6⟩
theorem mrk_loop {b : Nat} (B : MB C F ar b s) (hfu : 100 ≤ fu) {lr8 : Nat → Int32 → Int32 → Option Int32} {lr16 : Nat → Int32 → Int32 → Int32 → Option Int32} {i j : Nat} (hi : i < 8) (hj : j < (s.1 i).length) (k : Int32) : ∀ N t acc, t ≤ 8 → 8 - t < N → f_X11_merged_31 fu (mW C F v ar) lr8 lr16 N 123 k (nI i) (nI j) (nI acc) (nI t) = if nI (acc + smF (rkT s.1 i j) t 8) = k then some (nI (kk s.1 i j)) else lr16 123 k (nI i) (nI (j + 1)) := by
  intro N
  induction N with
  | zero => intro t acc _ hN; omega
  | succ N ih =>
    intro t acc ht hN
    rw [f_X11_merged_31]
    by_cases c : 8 ≤ t
    · rw [if_pos (show (8 : Int32) ≤ nI t from nI_le (a := 8) c (by omega)), smF_end _ c, Nat.add_zero]
      by_cases q : nI acc = k
      · rw [if_pos q, if_pos q, B.cl, B.key hi hj, some_bind']; rfl
      · rw [if_neg q, if_neg q, bnd_eq, nI_1]
    · have ht8 : t < 8 := by omega
      have nx : ∀ z, z = rkT s.1 i j t → f_X11_merged_31 fu (mW C F v ar) lr8 lr16 N 123 k (nI i) (nI j) (nI (acc + z)) (nI (t + 1)) = if nI (acc + smF (rkT s.1 i j) t 8) = k then some (nI (kk s.1 i j)) else lr16 123 k (nI i) (nI (j + 1)) := fun z hz => by
        rw [ih (t + 1) _ (by omega) (by omega), hz, smF_cons _ ht8, Nat.add_assoc]
      have m79 : ∀ z y, f_X11_merged_79 fu (mW C F v ar) lr8 lr16 (f_X11_merged_31 fu (mW C F v ar) lr8 lr16 N) 123 k (nI i) (nI j) (nI t) (nI acc) (nI z) (nI y) = f_X11_merged_31 fu (mW C F v ar) lr8 lr16 N 123 k (nI i) (nI j) (nI (acc + (z + y))) (nI (t + 1)) := fun z y => by
        rw [f_X11_merged_79, bnd_eq, bnd_eq, nI_add, nI_add, nI_1]
      rw [if_neg (show ¬ (8 : Int32) ≤ nI t from nI_ge (b := 8) ht8 (by omega)), B.cl, B.key hi hj, some_bind', B.cl, B.below ht8 hfu, some_bind']
      by_cases q : i ≤ t
      · rw [if_pos (nI_le q (by omega)), show (0 : Int32) = nI 0 from rfl, m79]
        exact nx _ (by unfold rkT; rw [if_neg (fun z => by omega)]; rfl)
      · rw [if_neg (nI_ge (by omega) (by omega)), some_bind', B.cl, B.place ht8 hfu, some_bind']
        by_cases q2 : plc (s.1 t) (nI (nth (s.1 i) j / 2)) = -1
        · rw [if_pos q2, show (0 : Int32) = nI 0 from rfl, m79]
          exact nx _ (by unfold rkT; rw [if_neg (fun z => z.2 q2)]; rfl)
        · rw [if_neg q2, show (1 : Int32) = nI 1 from rfl, m79]
          exact nx _ (by unfold rkT; rw [if_pos ⟨by omega, q2⟩]; rfl)
theorem rk_small (O : AOK s.1) {i j : Nat} (hi : i < 8) (hj : j < (s.1 i).length) : smF (rkT s.1 i j) 0 8 < 240 := by
  have := rk_lt O.1 hi hj
  have := O.2
  omega
/-- from (i, j) on, whoever has the rank k has the key x -/
theorem msearch_hit {b : Nat} (B : MB C F ar b s) (O : AOK s.1) (hfu : 100 ≤ fu) {k σ ι : Nat} (hk : k < 2 ^ 31) (hσ : σ < 8) (hι : ι < (s.1 σ).length) (hr : smF (rkT s.1 σ ι) 0 8 = k) (hu : ∀ i j, i < 8 → j < (s.1 i).length → smF (rkT s.1 i j) 0 8 = k → i = σ ∧ j = ι) {lr8 : Nat → Int32 → Int32 → Option Int32} {i : Nat} (hi : i ≤ σ) (hlr : i < σ → lr8 123 (nI k) (nI (i + 1)) = some (nI (kk s.1 σ ι))) : ∀ N j, j ≤ (s.1 i).length → (i = σ → j ≤ ι) → (s.1 i).length - j < N → f_X11_merged_16 fu (mW C F v ar) lr8 N 123 (nI k) (nI i) (nI j) = some (nI (kk s.1 σ ι)) := by
  have l1 := (B.2.2.2.2 i (by omega)).len
  intro N
  induction N with
  | zero => intro j _ _ hN; omega
  | succ N ih =>
    intro j hj hji hN
    rw [f_X11_merged_16, B.cl, B.many (by omega), some_bind']
    by_cases c : (s.1 i).length ≤ j
    · rw [if_pos (nI_le c (by omega)), bnd_eq, nI_1]
      refine hlr ?_
      rcases Nat.lt_or_ge i σ with q | q
      · exact q
      · have e : i = σ := by omega
        have := hji e
        subst e; omega
    · have hj' : j < (s.1 i).length := by omega
      have hsm := rk_small O (show i < 8 by omega) hj'
      rw [if_neg (nI_ge hj' (by omega)), bnd_eq, bnd_eq, show (0 : Int32) = nI 0 from rfl, mrk_loop B hfu (by omega) hj' (nI k) fu 0 0 (by omega) (by omega), Nat.zero_add]
      by_cases q : smF (rkT s.1 i j) 0 8 = k
      · obtain ⟨e1, e2⟩ := hu i j (by omega) hj' q
        rw [if_pos (by rw [q]), e1, e2]
      · rw [if_neg (fun z => q ((nI_eq (by omega) hk).mp z))]
        exact ih (j + 1) (by omega) (fun e => by
          have := hji e
          rcases Nat.lt_or_ge j ι with z | z
          · omega
          · exfalso
            apply q
            rw [e, show j = ι by omega]; exact hr) (by omega)
theorem msearch_hit8 {b : Nat} (B : MB C F ar b s) (O : AOK s.1) (hfu : 100 ≤ fu) {k σ ι : Nat} (hk : k < 2 ^ 31) (hσ : σ < 8) (hι : ι < (s.1 σ).length) (hr : smF (rkT s.1 σ ι) 0 8 = k) (hu : ∀ i j, i < 8 → j < (s.1 i).length → smF (rkT s.1 i j) 0 8 = k → i = σ ∧ j = ι) : ∀ N i, i ≤ σ → σ - i < N → f_X11_merged_8 fu (mW C F v ar) N 123 (nI k) (nI i) = some (nI (kk s.1 σ ι)) := by
  intro N
  induction N with
  | zero => intro i _ hN; omega
  | succ N ih =>
    intro i hi hN
    have l1 := (O.1 i (by omega)).len
    rw [f_X11_merged_8, if_neg (show ¬ (8 : Int32) ≤ nI i from nI_ge (b := 8) (by omega) (by omega)), bnd_eq]
    exact msearch_hit B O hfu hk hσ hι hr hu hi (fun q => ih (i + 1) (by omega) (by omega)) fu 0 (by omega) (fun _ => by omega) (by omega)
theorem msearch_miss {b : Nat} (B : MB C F ar b s) (O : AOK s.1) (hfu : 100 ≤ fu) {k : Nat} (hk : k < 2 ^ 31) (hu : ∀ i j, i < 8 → j < (s.1 i).length → smF (rkT s.1 i j) 0 8 ≠ k) {lr8 : Nat → Int32 → Int32 → Option Int32} {i : Nat} (hi : i < 8) (hlr : lr8 123 (nI k) (nI (i + 1)) = some (-1)) : ∀ N j, j ≤ (s.1 i).length → (s.1 i).length - j < N → f_X11_merged_16 fu (mW C F v ar) lr8 N 123 (nI k) (nI i) (nI j) = some (-1) := by
  have l1 := (B.2.2.2.2 i hi).len
  intro N
  induction N with
  | zero => intro j _ hN; omega
  | succ N ih =>
    intro j hj hN
    rw [f_X11_merged_16, B.cl, B.many hi, some_bind']
    by_cases c : (s.1 i).length ≤ j
    · rw [if_pos (nI_le c (by omega)), bnd_eq, nI_1]
      exact hlr
    · have hj' : j < (s.1 i).length := by omega
      have hsm := rk_small O hi hj'
      rw [if_neg (nI_ge hj' (by omega)), bnd_eq, bnd_eq, show (0 : Int32) = nI 0 from rfl, mrk_loop B hfu hi hj' (nI k) fu 0 0 (by omega) (by omega), Nat.zero_add, if_neg (fun z => hu i j hi hj' ((nI_eq (by omega) hk).mp z))]
      exact ih (j + 1) (by omega) (by omega)
theorem msearch_miss8 {b : Nat} (B : MB C F ar b s) (O : AOK s.1) (hfu : 100 ≤ fu) {k : Nat} (hk : k < 2 ^ 31) (hu : ∀ i j, i < 8 → j < (s.1 i).length → smF (rkT s.1 i j) 0 8 ≠ k) : ∀ N i, i ≤ 8 → 8 - i < N → f_X11_merged_8 fu (mW C F v ar) N 123 (nI k) (nI i) = some (-1) := by
  intro N
  induction N with
  | zero => intro i _ hN; omega
  | succ N ih =>
    intro i hi hN
    rw [f_X11_merged_8]
    by_cases c : 8 ≤ i
    · rw [if_pos (show (8 : Int32) ≤ nI i from nI_le (a := 8) c (by omega))]
    · have l1 := (O.1 i (by omega)).len
      rw [if_neg (show ¬ (8 : Int32) ≤ nI i from nI_ge (b := 8) (by omega) (by omega)), bnd_eq]
      exact msearch_miss B O hfu hk hu (by omega) (ih (i + 1) (by omega) (by omega)) fu 0 (by omega) (by omega)
theorem merged_res (G : Good C F v ar s V n) (hfu : 20000 ≤ fu) (a : Int32) : ∃ x C1, f_X10_merged fu (mW C F v ar) 0 a = some (x, mW C1 F v ar) ∧ f_X11_merged fu (mW C1 F v ar) 123 a = some x ∧ Good C1 F v ar s V n ∧ ∀ k, k ∉ actKs → C1[k]? = C[k]? := by
  have h := G.1.2.2.1
  have B := G.1.mb
  have O := G.1.2.2.2.1
  have ht := O.2
  have hfu2 : 100 ≤ fu := by omega
  by_cases c : a < 0
  · refine ⟨-1, C, ?_, ?_, G, fun _ _ => rfl⟩
    · rw [f_X10_merged, if_pos c]
    · rw [f_X11_merged, if_neg (Int32.not_le.mpr c)]
  · obtain ⟨k, hk, rfl⟩ := nI_of c
    have mpre : ∀ C1, f_X11_merged fu (mW C1 F v ar) 123 (nI k) = f_X11_merged_8 fu (mW C1 F v ar) fu 123 (nI k) 0 := fun C1 => by
      rw [f_X11_merged, if_pos (Int32.not_lt.mp c), bnd_eq]
    rcases Nat.lt_or_ge k (smF (fun t => (s.1 t).length) 0 8) with q | q
    · obtain ⟨w1, g1, g2, g3, g4, g5⟩ := begin_ok (fu := fu) h G.2.1 hfu2
      obtain ⟨w2, hd, σ, k1, k2, k3, k4, k5, k6, k7⟩ := cmerged_loop (fu := fu) O hfu2 q fu 0 w1 _ (-1) g3 g4 (G.1.2.1.chg g5 (by simp)) g2 (PI_0 _) (by rw [smF8]) (by omega) (by omega)
      obtain ⟨C1, e1, e2, G1, e4⟩ := good_q G (g5.tr k7) k30_31 k5 k6
      subst e1
      refine ⟨nI (kk s.1 σ (hd σ)), C1, ?_, ?_, G1, e4⟩
      · rw [f_X10_merged, if_neg c, G.st, some_bind', h.cl, ctotal_ok h hfu2, some_bind', if_pos (nI_lt q (by omega)), some_bind', h.pd, some_bind', cl_ob G.2.1.2.2.2.1, g1, some_bind', bnd_eq, bnd_eq]
        exact k1
      · have hr : smF (rkT s.1 σ (hd σ)) 0 8 = k := by
          rw [← k3]
          exact smF_congr (fun t _ ht8 => rk_eq O.1 k2 k4 ht8)
        rw [mpre]
        exact msearch_hit8 G1.1.mb O hfu2 hk k4.1 k4.2.1 hr (fun i j hi hj he => rk_u O.1 k2 k4 hi hj (by rw [he, k3])) fu 0 (by omega) (by have := k4.1; omega)
    · refine ⟨-1, C, ?_, ?_, G, fun _ _ => rfl⟩
      · rw [f_X10_merged, if_neg c, G.st, some_bind', h.cl, ctotal_ok h hfu2, some_bind', if_neg (nI_nlt q hk)]
      · rw [mpre]
        exact msearch_miss8 B O hfu2 hk (fun i j hi hj => by have := rk_lt O.1 hi hj; omega) fu 0 (by omega) (by omega)
/-- the first set that has this key -/
def fsG (hs : Nat → List Nat) (t j : Nat) : Nat := if (List.range t).all (fun u => decide (plc (hs u) (nI (kk hs t j)) = -1)) = true then 1 else 0
theorem fsG_1 {hs : Nat → List Nat} {t j : Nat} : (List.range t).all (fun u => decide (plc (hs u) (nI (kk hs t j)) = -1)) = true ↔ ∀ u, u < t → plc (hs u) (nI (kk hs t j)) = -1 := by
  rw [List.all_eq_true]
  constructor
  · intro h u hu
    have := h u (List.mem_range.mpr hu)
    simpa using this
  · intro h u hu
    simpa using h u (List.mem_range.mp hu)
def PvOK (hs : Nat → List Nat) (hd : Nat → Nat) (p : Int32) : Prop := (p = -1 ∧ ∀ t, t < 8 → hd t = 0) ∨ ∃ t j, t < 8 ∧ j < hd t ∧ p = nI (kk hs t j) ∧ ∀ u i, u < 8 → i < hd u → kk hs u i ≤ kk hs t j
theorem pv_eq {hs : Nat → List Nat} {hd : Nat → Nat} (O : ∀ q, q < 8 → SOK (hs q)) (P : PI hs hd) {σ : Nat} (h : Nx hs hd 8 σ) {p : Int32} (hp : PvOK hs hd p) : nI (kk hs σ (hd σ)) = p ↔ ¬ ∀ u, u < σ → plc (hs u) (nI (kk hs σ (hd σ))) = -1 := by
  obtain ⟨h1, h2, h3⟩ := id h
  have hk := kk_lt O h1 h2
  constructor
  · intro e hall
    rcases hp with ⟨p1, _⟩ | ⟨t, j, t1, t2, t3, t4⟩
    · rw [p1] at e; exact m1_ne _ (by omega) e
    · have hkt := kk_lt O t1 (show j < (hs t).length by have := P.1 t t1; omega)
      rw [t3] at e
      have e2 := (nI_eq (by omega) (by omega)).mp e
      rcases P.2 t j σ (hd σ) t1 h1 t2 (Nat.le_refl _) h2 with q | ⟨q1, q2⟩
      · omega
      · have := hall t q2
        exact (plc_iff (O t t1) (by omega)).mp this _ (nth_mem (show j < (hs t).length by have := P.1 t t1; omega)) q1
  · intro hn
    obtain ⟨u, hu⟩ : ∃ u, u < σ ∧ ¬ plc (hs u) (nI (kk hs σ (hd σ))) = -1 := by
      refine Classical.byContradiction fun q => hn (fun u hu => ?_)
      refine Classical.byContradiction fun q2 => q ⟨u, hu, q2⟩
    obtain ⟨hu1, hu2⟩ := hu
    obtain ⟨q1, q2⟩ := at_bel (O u (by omega)) hk hu2
    have hr := rk_eq O P h (show u < 8 by omega)
    unfold rkT at hr
    rw [if_pos ⟨hu1, hu2⟩] at hr
    rcases hp with ⟨p1, p2⟩ | ⟨t, j, t1, t2, t3, t4⟩
    · have := p2 u (by omega); omega
    · have hge := t4 u (bel (hs u) (nI (kk hs σ (hd σ)))) (by omega) (by omega)
      have e1 : kk hs u (bel (hs u) (nI (kk hs σ (hd σ)))) = kk hs σ (hd σ) := q2
      have hle := P.2 t j σ (hd σ) t1 h1 t2 (Nat.le_refl _) h2
      rw [t3]
      congr 1
      omega
theorem cunlike_loop (O : AOK s.1) (hfu : 100 ≤ fu) : ∀ N p w hd prev acc, CS w s.1 s.2 → Sc w → H30 w hd → PI s.1 hd → PvOK s.1 hd prev → smF hd 0 8 = p → acc = smF (fun t => smF (fsG s.1 t) 0 (hd t)) 0 8 → p ≤ smF (fun t => (s.1 t).length) 0 8 → smF (fun t => (s.1 t).length) 0 8 - p < N → ∃ w', f_X7_unlike_19 fu N w 1 (nI (smF (fun t => (s.1 t).length) 0 8)) (nI acc) prev (nI p) = some (nI (smF (fun t => smF (fsG s.1 t) 0 (s.1 t).length) 0 8), w') ∧ CS w' s.1 s.2 ∧ Sc w' ∧ Chg [30] w w' := by
  have ht := O.2
  intro N
  induction N with
  | zero => intro p w hd prev acc _ _ _ _ _ _ _ _ hN; omega
  | succ N ih =>
    intro p w hd prev acc h Z H P hpv hp hacc hle hN
    rw [f_X7_unlike_19]
    by_cases c : smF (fun t => (s.1 t).length) 0 8 ≤ p
    · have he : ∀ t, t < 8 → hd t = (s.1 t).length := by
        intro t ht8
        rcases Nat.lt_or_ge (hd t) ((s.1 t).length) with q | q
        · have := sum8_lt (f := hd) (g := fun t => (s.1 t).length) P.1 ht8 q
          omega
        · have := P.1 t ht8; omega
      rw [if_pos (nI_le c (by omega))]
      refine ⟨w, ?_, h, Z, Chg.rf _ _⟩
      rw [hacc]
      congr 3
      exact smF_congr (fun t _ ht8 => by rw [he t ht8])
    · obtain ⟨σ, w1, g1, g2, g3, g4, g5, g6⟩ := next_ok (fu := fu) h Z O.1 H P hfu (by omega)
      obtain ⟨n1, n2, n3⟩ := id g1
      have hk := kk_lt O.1 n1 n2
      have hpe := pv_eq O.1 P g1 hpv
      have hs1 := sum8_up hd n1 (hd σ + 1)
      have P2 := PI_step O.1 P g1
      have hpv2 : PvOK s.1 (va_up hd σ (hd σ + 1)) (nI (kk s.1 σ (hd σ))) := by
        refine Or.inr ⟨σ, hd σ, n1, by rw [vu_eq]; omega, rfl, fun u i hu hi => ?_⟩
        by_cases q : u = σ
        · subst q
          rw [vu_eq] at hi
          rcases Nat.lt_or_ge i (hd u) with z | z
          · exact Nat.le_of_lt (kk_mono O.1 hu z n2)
          · rw [show i = hd u by omega]; exact Nat.le_refl _
        · rw [vu_ne _ _ q] at hi
          rcases P.2 u i σ (hd σ) hu n1 hi (Nat.le_refl _) n2 with z | z
          · omega
          · omega
      have hsum : smF (fun t => smF (fsG s.1 t) 0 (va_up hd σ (hd σ + 1) t)) 0 8 = smF (fun t => smF (fsG s.1 t) 0 (hd t)) 0 8 + fsG s.1 σ (hd σ) := by
        have e1 : (fun t => smF (fsG s.1 t) 0 (va_up hd σ (hd σ + 1) t)) = va_up (fun t => smF (fsG s.1 t) 0 (hd t)) σ (smF (fsG s.1 σ) 0 (hd σ + 1)) := by
          funext t
          by_cases q : t = σ
          · subst q; rw [vu_eq, vu_eq]
          · rw [vu_ne _ _ q, vu_ne _ _ q]
        rw [e1]
        have := sum8_up (fun t => smF (fsG s.1 t) 0 (hd t)) n1 (smF (fsG s.1 σ) 0 (hd σ + 1))
        have e2 : smF (fsG s.1 σ) 0 (hd σ + 1) = smF (fsG s.1 σ) 0 (hd σ) + fsG s.1 σ (hd σ) := smF_snoc _ _ _ (Nat.zero_le _)
        omega
      have nx : ∀ z, z = fsG s.1 σ (hd σ) → ∃ w', f_X7_unlike_46 fu (f_X7_unlike_19 fu N) w1 1 (nI (smF (fun t => (s.1 t).length) 0 8)) (nI p) (nI (kk s.1 σ (hd σ))) (nI acc) (nI z) = some (nI (smF (fun t => smF (fsG s.1 t) 0 (s.1 t).length) 0 8), w') ∧ CS w' s.1 s.2 ∧ Sc w' ∧ Chg [30] w w' := by
        intro z hz
        obtain ⟨w2, k1, k2, k3, k4⟩ := ih (p + 1) w1 _ (nI (kk s.1 σ (hd σ))) (acc + z) g4 g5 g3 P2 hpv2 (by omega) (by rw [hsum, hacc, hz]) (by omega) (by omega)
        rw [f_X7_unlike_46, bnd_eq, bnd_eq, bnd_eq, nI_add, nI_1, k1]
        exact ⟨w2, rfl, k2, k3, g6.tr k4⟩
      rw [if_neg (nI_ge (by omega) (by omega)), h.pd, some_bind', cl_ob Z.2.2.2.1, g2, some_bind', bnd_eq]
      by_cases q : nI (kk s.1 σ (hd σ)) = prev
      · rw [if_pos q]
        exact nx 0 (by unfold fsG; rw [if_neg (fun z => hpe.mp q (fsG_1.mp z))])
      · rw [if_neg q]
        refine nx 1 ?_
        unfold fsG
        rw [if_pos (fsG_1.mpr (Classical.byContradiction fun z => q (hpe.mpr z)))]
end Q
