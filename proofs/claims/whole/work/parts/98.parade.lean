/-! all keys of all sets, in order -/
def kk (hs : Nat → List Nat) (t j : Nat) : Nat := nth (hs t) j / 2
def PI (hs : Nat → List Nat) (hd : Nat → Nat) : Prop := (∀ t, t < 8 → hd t ≤ (hs t).length) ∧ ∀ t j t' j', t < 8 → t' < 8 → j < hd t → hd t' ≤ j' → j' < (hs t').length → kk hs t j < kk hs t' j' ∨ (kk hs t j = kk hs t' j' ∧ t < t')
/-- the set whose head is next -/
def Nx (hs : Nat → List Nat) (hd : Nat → Nat) (m σ : Nat) : Prop := σ < m ∧ hd σ < (hs σ).length ∧ ∀ u, u < m → hd u < (hs u).length → kk hs σ (hd σ) ≤ kk hs u (hd u) ∧ (kk hs σ (hd σ) = kk hs u (hd u) → σ ≤ u)
section P
variable {hs : Nat → List Nat} {hd : Nat → Nat}
theorem kk_mono (O : ∀ q, q < 8 → SOK (hs q)) {t i j : Nat} (ht : t < 8) (hij : i < j) (hj : j < (hs t).length) : kk hs t i < kk hs t j := (O t ht).inc hij hj
theorem kk_lt (O : ∀ q, q < 8 → SOK (hs q)) {t j : Nat} (ht : t < 8) (hj : j < (hs t).length) : kk hs t j < 10000 := by
  have := (O t ht).lt hj
  unfold kk; omega
theorem PI_step (O : ∀ q, q < 8 → SOK (hs q)) (P : PI hs hd) {σ : Nat} (h : Nx hs hd 8 σ) : PI hs (va_up hd σ (hd σ + 1)) := by
  obtain ⟨h1, h2, h3⟩ := h
  refine ⟨fun t ht => ?_, fun t j t' j' ht ht' hj hj' hl => ?_⟩
  · by_cases c : t = σ
    · subst c; rw [vu_eq]; omega
    · rw [vu_ne _ _ c]; exact P.1 t ht
  · have hj0 : hd t' ≤ j' := by
      by_cases c : t' = σ
      · subst c; rw [vu_eq] at hj'; omega
      · rw [vu_ne _ _ c] at hj'; exact hj'
    by_cases c : t = σ ∧ j = hd σ
    · obtain ⟨rfl, rfl⟩ := c
      by_cases c2 : t' = t
      · subst c2
        rw [vu_eq] at hj'
        exact Or.inl (kk_mono O ht (by omega) hl)
      · have h4 := h3 t' ht' (by omega)
        rcases Nat.lt_or_ge (hd t') j' with q | q
        · have := kk_mono O ht' q hl
          exact Or.inl (by omega)
        · have e : j' = hd t' := by omega
          rw [e]
          rcases Nat.lt_or_ge (kk hs t (hd t)) (kk hs t' (hd t')) with z | z
          · exact Or.inl z
          · have z2 := h4.2 (by omega)
            exact Or.inr ⟨by omega, by omega⟩
    · refine P.2 t j t' j' ht ht' ?_ hj0 hl
      by_cases c2 : t = σ
      · subst c2; rw [vu_eq] at hj; omega
      · rw [vu_ne _ _ c2] at hj; exact hj
/-- how many of a set are ahead of an element -/
def rkT (hs : Nat → List Nat) (s i t : Nat) : Nat := bel (hs t) (nI (kk hs s i)) + (if t < s ∧ ¬ plc (hs t) (nI (kk hs s i)) = -1 then 1 else 0)
theorem bel_lt {L : List Nat} (S : SOK L) {k j : Nat} (hk : k < 10000) (hj : j < L.length) : j < bel L (nI k) ↔ nth L j / 2 < k := by
  have := S.lt hj
  rw [bel_iff (nI k) L S j hj, nI_ltI (by omega) (by omega)]
theorem bel_own {L : List Nat} (S : SOK L) {j : Nat} (hj : j < L.length) : bel L (nI (nth L j / 2)) = j := by
  have hb := S.lt hj
  refine bel_eq S (by omega) (fun i hi => nI_lt (S.inc hi hj) (by omega)) (fun i h1 h2 h3 => ?_)
  have h4 := S.lt h2
  have h5 := (nI_ltI (by omega) (by omega)).mp h3
  rcases Nat.lt_or_ge j i with q | q
  · have := S.inc q h2; omega
  · rw [show i = j by omega] at h5; omega
/-- a key that is there is at its place -/
theorem at_bel {L : List Nat} (S : SOK L) {k : Nat} (hk : k < 10000) (h : ¬ plc L (nI k) = -1) : bel L (nI k) < L.length ∧ nth L (bel L (nI k)) / 2 = k := by
  obtain ⟨h1, -⟩ := plc_ne h
  have h2 := key_eq S h
  have h3 := S.lt h1
  exact ⟨h1, (nI_eq (by omega) (by omega)).mp h2⟩
theorem rk_ge (O : ∀ q, q < 8 → SOK (hs q)) (P : PI hs hd) {s i : Nat} (hs8 : s < 8) (hi : i < (hs s).length) (h : hd s ≤ i) {t : Nat} (ht : t < 8) : hd t ≤ rkT hs s i t := by
  have hk := kk_lt O hs8 hi
  have hl := P.1 t ht
  unfold rkT
  rcases Nat.eq_zero_or_pos (hd t) with q | q
  · omega
  · have h1 := P.2 t (hd t - 1) s i ht hs8 (by omega) h hi
    rcases h1 with h1 | ⟨h1, h2⟩
    · have := (bel_lt (O t ht) hk (show hd t - 1 < (hs t).length by omega)).mpr h1
      omega
    · have e : bel (hs t) (nI (kk hs s i)) = hd t - 1 := by rw [← h1]; exact bel_own (O t ht) (by omega)
      rw [if_pos ⟨h2, fun q2 => (plc_iff (O t ht) (by omega)).mp q2 _ (nth_mem (show hd t - 1 < (hs t).length by omega)) h1⟩]
      omega
theorem rk_le (O : ∀ q, q < 8 → SOK (hs q)) (P : PI hs hd) {s i : Nat} (hs8 : s < 8) (hi : i < hd s) {t : Nat} (ht : t < 8) : rkT hs s i t ≤ hd t := by
  have hl := P.1 t ht
  have hls := P.1 s hs8
  have hk := kk_lt O hs8 (show i < (hs s).length by omega)
  have hb := bel_le (hs t) (nI (kk hs s i))
  unfold rkT
  split
  · rename_i c
    obtain ⟨h1, h2⟩ := at_bel (O t ht) hk c.2
    rcases Nat.lt_or_ge (bel (hs t) (nI (kk hs s i))) (hd t) with q | q
    · omega
    · have h3 := P.2 s i t _ hs8 ht hi q h1
      have h4 : kk hs t (bel (hs t) (nI (kk hs s i))) = kk hs s i := h2
      omega
  · rcases Nat.lt_or_ge (hd t) (bel (hs t) (nI (kk hs s i))) with q | q
    · have h3 := P.2 s i t (hd t) hs8 ht hi (Nat.le_refl _) (by omega)
      have h4 := (bel_lt (O t ht) hk (show hd t < (hs t).length by omega)).mp q
      have h5 : kk hs t (hd t) < kk hs s i := h4
      omega
    · omega
theorem rk_eq (O : ∀ q, q < 8 → SOK (hs q)) (P : PI hs hd) {σ : Nat} (h : Nx hs hd 8 σ) {t : Nat} (ht : t < 8) : rkT hs σ (hd σ) t = hd t := by
  obtain ⟨h1, h2, h3⟩ := h
  have hge := rk_ge O P h1 h2 (Nat.le_refl _) ht
  have hk := kk_lt O h1 h2
  have hl := P.1 t ht
  have hb := bel_le (hs t) (nI (kk hs σ (hd σ)))
  have e1 : bel (hs t) (nI (kk hs σ (hd σ))) ≤ hd t := by
    rcases Nat.lt_or_ge (hd t) (bel (hs t) (nI (kk hs σ (hd σ)))) with q | q
    · have h4 : kk hs t (hd t) < kk hs σ (hd σ) := (bel_lt (O t ht) hk (show hd t < (hs t).length by omega)).mp q
      have := (h3 t ht (by omega)).1
      omega
    · exact q
  unfold rkT at hge ⊢
  split at hge
  · rename_i c
    rw [if_pos c]
    obtain ⟨q1, q2⟩ := at_bel (O t ht) hk c.2
    rcases Nat.lt_or_ge (bel (hs t) (nI (kk hs σ (hd σ)))) (hd t) with q | q
    · omega
    · have e2 : hd t = bel (hs t) (nI (kk hs σ (hd σ))) := by omega
      have q3 : kk hs t (hd t) = kk hs σ (hd σ) := by rw [e2]; exact q2
      have := (h3 t ht (by omega)).2 q3.symm
      omega
  · rename_i c
    rw [if_neg c]
    omega
theorem sum8_le {f g : Nat → Nat} (h : ∀ t, t < 8 → f t ≤ g t) : smF f 0 8 ≤ smF g 0 8 := by
  rw [smF8, smF8]
  have := h 0 (by omega); have := h 1 (by omega); have := h 2 (by omega); have := h 3 (by omega)
  have := h 4 (by omega); have := h 5 (by omega); have := h 6 (by omega); have := h 7 (by omega)
  omega
theorem sum8_lt {f g : Nat → Nat} (h : ∀ t, t < 8 → f t ≤ g t) {u : Nat} (hu : u < 8) (hlt : f u < g u) : smF f 0 8 < smF g 0 8 := by
  rw [smF8, smF8]
  have := h 0 (by omega); have := h 1 (by omega); have := h 2 (by omega); have := h 3 (by omega)
  have := h 4 (by omega); have := h 5 (by omega); have := h 6 (by omega); have := h 7 (by omega)
  have : u = 0 ∨ u = 1 ∨ u = 2 ∨ u = 3 ∨ u = 4 ∨ u = 5 ∨ u = 6 ∨ u = 7 := by omega
  rcases this with rfl | rfl | rfl | rfl | rfl | rfl | rfl | rfl <;> omega
theorem sum8_up (f : Nat → Nat) {u : Nat} (hu : u < 8) (x : Nat) : smF (va_up f u x) 0 8 + f u = smF f 0 8 + x := by
  rw [smF8, smF8]
  have : u = 0 ∨ u = 1 ∨ u = 2 ∨ u = 3 ∨ u = 4 ∨ u = 5 ∨ u = 6 ∨ u = 7 := by omega
  rcases this with rfl | rfl | rfl | rfl | rfl | rfl | rfl | rfl <;> simp [va_up] <;> omega
/-- who has the rank k has the key that comes then -/
theorem rk_u (O : ∀ q, q < 8 → SOK (hs q)) (P : PI hs hd) {σ : Nat} (h : Nx hs hd 8 σ) {s i : Nat} (hs8 : s < 8) (hi : i < (hs s).length) (he : smF (rkT hs s i) 0 8 = smF hd 0 8) : s = σ ∧ i = hd σ := by
  rcases Nat.lt_or_ge i (hd s) with c | c
  · have h1 : rkT hs s i s = i := by
      unfold rkT
      rw [if_neg (fun q => by omega)]
      show bel (hs s) (nI (kk hs s i)) + 0 = i
      unfold kk
      rw [bel_own (O s hs8) hi, Nat.add_zero]
    have := sum8_lt (f := rkT hs s i) (g := hd) (fun t ht => rk_le O P hs8 c ht) hs8 (by omega)
    omega
  · by_cases c2 : s = σ ∧ i = hd σ
    · exact c2
    · have P2 := PI_step O P h
      have hc : va_up hd σ (hd σ + 1) s ≤ i := by
        by_cases z : s = σ
        · subst z; rw [vu_eq]; omega
        · rw [vu_ne _ _ z]; exact c
      have h1 := sum8_le (f := va_up hd σ (hd σ + 1)) (g := rkT hs s i) (fun t ht => rk_ge O P2 hs8 hi hc ht)
      have h2 := sum8_up hd h.1 (hd σ + 1)
      omega
theorem rk_lt (O : ∀ q, q < 8 → SOK (hs q)) {s i : Nat} (hs8 : s < 8) (hi : i < (hs s).length) : smF (rkT hs s i) 0 8 < smF (fun t => (hs t).length) 0 8 := by
  have P : PI hs (fun t => (hs t).length) := ⟨fun t _ => Nat.le_refl _, fun t j t' j' _ _ _ h1 h2 => absurd h2 (Nat.not_lt.mpr h1)⟩
  have h1 : rkT hs s i s = i := by
    unfold rkT
    rw [if_neg (fun q => by omega)]
    show bel (hs s) (nI (kk hs s i)) + 0 = i
    unfold kk
    rw [bel_own (O s hs8) hi, Nat.add_zero]
  exact sum8_lt (fun t ht => rk_le O P hs8 hi ht) hs8 (by omega)
end P
/-- the heads' cells -/
def H30 (w : MW) (hd : Nat → Nat) : Prop := ∃ f, w[30]? = some (.inl (.int, 8, .inl f)) ∧ ∀ t, t < 8 → f t = nI (hd t)
section Q
variable {C : MW} {F : Nat → Int32} {v : Int64} {ar : Nat → Nat → Int32} {s : AS} {V : List AS} {n : Nat} {fu : Nat}
theorem begin_loop {w0 : MW} : ∀ N t w f, w[29]? = some (.inr (2, [.ref 2, .ref 30])) → w[30]? = some (.inl (.int, 8, .inl f)) → (∀ u, u < t → f u = nI 0) → t ≤ 8 → 8 - t < N → ∃ w', f_X2_begin_2 fu N w 29 (nI t) = some w' ∧ H30 w' (fun _ => 0) ∧ Chg [30] w w' := by
  intro N
  induction N with
  | zero => intro t w f _ _ _ _ hN; omega
  | succ N ih =>
    intro t w f h29 h30 hf ht hN
    rw [f_X2_begin_2]
    by_cases c : 8 ≤ t
    · rw [if_pos (show (8 : Int32) ≤ nI t from nI_le (a := 8) c (by omega))]
      exact ⟨w, rfl, ⟨f, h30, fun u hu => hf u (by omega)⟩, Chg.rf _ _⟩
    · have ch := Chg.st (ks := [30]) w (a := 30) (.inl (.int, 8, .inl (upd f t 0))) (by simp)
      obtain ⟨w', g1, g2, g3⟩ := ih (t + 1) (w.set 30 (.inl (.int, 8, .inl (upd f t 0)))) (upd f t 0) (ch.at (by simp) h29) (get_set_eq h30) (fun u hu => by
        by_cases q : u = t
        · subst q; rw [upd_eq]; rfl
        · rw [upd_ne _ _ q]; exact hf u (by omega)) (by omega) (by omega)
      rw [if_neg (show ¬ (8 : Int32) ≤ nI t from nI_ge (b := 8) (by omega) (by omega)), gR_ob h29 rfl, some_bind', sI_ar h30 (by omega) (by omega), some_bind', bnd_eq, nI_1, g1]
      exact ⟨w', rfl, g2, ch.tr g3⟩
theorem next_loop {w : MW} (h : CS w s.1 s.2) (Z : Sc w) (O : ∀ q, q < 8 → SOK (s.1 q)) {hd : Nat → Nat} (H : H30 w hd) (hb : ∀ t, t < 8 → hd t ≤ 60) : ∀ N t (b : Option Nat), t ≤ 8 → 8 - t < N → (b = none → ∀ u, u < t → (s.1 u).length ≤ hd u) → (∀ σ, b = some σ → Nx s.1 hd t σ) → ((∃ σ, Nx s.1 hd 8 σ ∧ f_X2_next_6 fu N w 29 (match b with | none => -1 | some σ => nI (kk s.1 σ (hd σ))) (match b with | none => -1 | some σ => nI σ) (nI t) = f_X2_next_66 fu w 29 (nI (kk s.1 σ (hd σ))) (nI σ)) ∨ (∀ u, u < 8 → (s.1 u).length ≤ hd u)) := by
  obtain ⟨f, h30, hf⟩ := H
  have h29 := Z.2.2.2.1
  intro N
  induction N with
  | zero => intro t b _ hN; omega
  | succ N ih =>
    intro t b ht hN hb1 hb2
    rw [f_X2_next_6]
    by_cases c : 8 ≤ t
    · have e8 : t = 8 := by omega
      subst e8
      rw [if_pos (show (8 : Int32) ≤ nI 8 by decide)]
      cases b with
      | none => exact Or.inr (hb1 rfl)
      | some σ => exact Or.inl ⟨σ, hb2 σ rfl, rfl⟩
    · have ht8 : t < 8 := by omega
      have S := O t ht8
      have l1 := S.len
      have hbt := hb t ht8
      obtain ⟨g, h2, h3⟩ := id h.2.1
      have hal : aL w (.object RX0) 2 = some (nI 8) := aL_ar h2
      have hka : f_X0_keyAt w (13 + 2 * t) (nI (hd t)) = some (if hd t < (s.1 t).length then nI (kk s.1 t (hd t)) else -1) := by
        by_cases q : hd t < (s.1 t).length
        · rw [if_pos q]; exact keyAt_in (h.ha ht8) S q
        · rw [if_neg q]; exact keyAt_out (h.ha ht8) (by omega) (by omega)
      rw [if_neg (show ¬ (8 : Int32) ≤ nI t from nI_ge (b := 8) ht8 (by omega)), gR_ob h29 rfl, some_bind', hal, some_bind', if_neg (nI_ge ht8 (by omega)), some_bind', h.heap ht8, some_bind', gR_ob h29 rfl, some_bind', aI_ar h30 ht8 (by omega), some_bind', hf t ht8, (h.ha ht8).cl, hka, some_bind', bnd_eq]
      -- the set is empty from here on
      by_cases q : hd t < (s.1 t).length
      · have hkb := kk_lt O ht8 q
        rw [if_pos q, if_neg (m1_ne _ (by omega))]
        cases b with
        | none =>
          dsimp only
          rw [if_pos rfl, f_X2_next_55, bnd_eq, bnd_eq, f_X2_next_60, bnd_eq, nI_1]
          refine ih (t + 1) (some t) (by omega) (by omega) (fun z => by simp at z) (fun σ hσ => ?_)
          simp at hσ; subst hσ
          refine ⟨by omega, q, fun u hu hul => ?_⟩
          rcases Nat.lt_or_ge u t with z | z
          · have := hb1 rfl u z; omega
          · rw [show u = t by omega]; exact ⟨Nat.le_refl _, fun _ => Nat.le_refl _⟩
        | some σ =>
          obtain ⟨n1, n2, n3⟩ := hb2 σ rfl
          have hkσ := kk_lt O (show σ < 8 by omega) n2
          dsimp only
          rw [if_neg (m1_ne _ (by omega))]
          by_cases z : kk s.1 σ (hd σ) ≤ kk s.1 t (hd t)
          · rw [if_pos (nI_le z (by omega)), f_X2_next_60, bnd_eq, nI_1]
            refine ih (t + 1) (some σ) (by omega) (by omega) (fun z => by simp at z) (fun σ' hσ => ?_)
            simp at hσ; subst hσ
            refine ⟨by omega, n2, fun u hu hul => ?_⟩
            rcases Nat.lt_or_ge u t with y | y
            · exact n3 u y hul
            · rw [show u = t by omega]; exact ⟨z, fun _ => by omega⟩
          · rw [if_neg (nI_ge (by omega) (by omega)), f_X2_next_55, bnd_eq, bnd_eq, f_X2_next_60, bnd_eq, nI_1]
            refine ih (t + 1) (some t) (by omega) (by omega) (fun z => by simp at z) (fun σ' hσ => ?_)
            simp at hσ; subst hσ
            refine ⟨by omega, q, fun u hu hul => ?_⟩
            rcases Nat.lt_or_ge u t with y | y
            · have := n3 u y hul; exact ⟨by omega, fun e => by omega⟩
            · rw [show u = t by omega]; exact ⟨Nat.le_refl _, fun _ => Nat.le_refl _⟩
      · rw [if_neg q, if_pos rfl, f_X2_next_60, bnd_eq, nI_1]
        refine ih (t + 1) b (by omega) (by omega) (fun z u hu => ?_) (fun σ hσ => ?_)
        · rcases Nat.lt_or_ge u t with y | y
          · exact hb1 z u y
          · rw [show u = t by omega]; omega
        · obtain ⟨n1, n2, n3⟩ := hb2 σ hσ
          refine ⟨by omega, n2, fun u hu hul => ?_⟩
          rcases Nat.lt_or_ge u t with y | y
          · exact n3 u y hul
          · rw [show u = t by omega] at hul; omega
theorem next_ok {w : MW} (h : CS w s.1 s.2) (Z : Sc w) (O : ∀ q, q < 8 → SOK (s.1 q)) {hd : Nat → Nat} (H : H30 w hd) (P : PI s.1 hd) (hfu : 100 ≤ fu) (hlt : smF hd 0 8 < smF (fun t => (s.1 t).length) 0 8) : ∃ σ w', Nx s.1 hd 8 σ ∧ f_X2_next fu w 29 = some (nI (kk s.1 σ (hd σ)), w') ∧ H30 w' (va_up hd σ (hd σ + 1)) ∧ CS w' s.1 s.2 ∧ Sc w' ∧ Chg [30] w w' := by
  have hl : ∀ t, t < 8 → hd t ≤ 60 := fun t ht => Nat.le_trans (P.1 t ht) (O t ht).len
  rcases next_loop (fu := fu) h Z O H hl fu 0 none (by omega) (by omega) (fun _ u hu => by omega) (fun σ hσ => by simp at hσ) with ⟨σ, g1, g2⟩ | g
  · obtain ⟨f, h30, hf⟩ := H
    have h29 := Z.2.2.2.1
    obtain ⟨n1, n2, n3⟩ := id g1
    have ch := Chg.st (ks := [30]) w (a := 30) (.inl (.int, 8, .inl (upd f σ (nI (hd σ + 1))))) (by simp)
    refine ⟨σ, _, g1, ?_, ⟨_, get_set_eq h30, fun t ht => ?_⟩, h.chg ch (fun k hk => by simp at hk; omega), ?_, ch⟩
    · rw [f_X2_next, bnd_eq, bnd_eq, bnd_eq]
      refine g2.trans ?_
      rw [f_X2_next_66, if_neg (m1_ne σ (by omega)), gR_ob h29 rfl, some_bind', aI_ar h30 n1 (by omega), some_bind', hf σ n1, nI_1, sI_ar h30 n1 (by omega), some_bind']
    · by_cases q : t = σ
      · subst q; rw [upd_eq, vu_eq]
      · rw [upd_ne _ _ q, vu_ne _ _ q]; exact hf t ht
    · obtain ⟨z1, ⟨a, b, c, d, e, z2⟩, ⟨f', z3⟩, z4, z5⟩ := Z
      exact ⟨z1.chg ch (fun k hk => by simp at hk; omega), ⟨a, b, c, d, e, ch.at (by simp) z2⟩, ⟨f', ch.at (by simp) z3⟩, ch.at (by simp) z4, ⟨_, get_set_eq h30⟩⟩
  · have := sum8_le g
    omega
theorem begin_ok {w : MW} (h : CS w s.1 s.2) (Z : Sc w) (hfu : 100 ≤ fu) : ∃ w', f_X2_begin fu w 29 = some w' ∧ H30 w' (fun _ => 0) ∧ CS w' s.1 s.2 ∧ Sc w' ∧ Chg [30] w w' := by
  obtain ⟨f, h30⟩ := Z.2.2.2.2
  obtain ⟨w', g1, g2, g3⟩ := begin_loop (fu := fu) (w0 := w) fu 0 w f Z.2.2.2.1 h30 (fun u hu => by omega) (by omega) (by omega)
  refine ⟨w', ?_, g2, h.chg g3 (fun k hk => by simp at hk; omega), ?_, g3⟩
  · rw [f_X2_begin, bnd_eq]; exact g1
  · obtain ⟨z1, ⟨a, b, c, d, e, z2⟩, ⟨f', z3⟩, z4, z5⟩ := Z
    obtain ⟨f2, q1, q2⟩ := g2
    exact ⟨z1.chg g3 (fun k hk => by simp at hk; omega), ⟨a, b, c, d, e, g3.at (by simp) z2⟩, ⟨f', g3.at (by simp) z3⟩, g3.at (by simp) z4, ⟨f2, q1⟩⟩
theorem CS.pd {w : MW} {hs : Nat → List Nat} {fg : Nat → Int32} (h : CS w hs fg) : gR w 7 1 3 = some 29 := by
  obtain ⟨a, b, c, h1⟩ := h.1
  exact gR_ob h1 rfl
theorem PI_0 (hs : Nat → List Nat) : PI hs (fun _ => 0) := ⟨fun _ _ => Nat.zero_le _, fun _ _ _ _ _ _ h _ _ => absurd h (Nat.not_lt_zero _)⟩
end Q
