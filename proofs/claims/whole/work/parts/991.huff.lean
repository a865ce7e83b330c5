/-! the order in which all would melt -/
def ltS (W : Nat → Nat) (but b : Int32) (t : Nat) : Int32 := if nI t = but then b else if W t = 0 then b else if b = -1 then nI t else if W b.toNatClampNeg ≤ W t then b else nI t
def ltF (W : Nat → Nat) (but : Int32) : Nat → Nat → Int32 → Int32
  | _, 0, b => b
  | t, n + 1, b => ltF W but (t + 1) n (ltS W but b t)
def ltR (W : Nat → Nat) (but : Int32) : Int32 := ltF W but 0 8 (-1)
def LB (W : Nat → Nat) (but : Int32) (t : Nat) (b : Int32) : Prop := (b = -1 ∧ ∀ u, u < t → nI u = but ∨ W u = 0) ∨ ∃ r, r < t ∧ b = nI r ∧ ¬ nI r = but ∧ 0 < W r
theorem LB_s {W : Nat → Nat} {but b : Int32} {t : Nat} (h : LB W but t b) : LB W but (t + 1) (ltS W but b t) := by
  unfold ltS
  by_cases c1 : nI t = but
  · rw [if_pos c1]
    rcases h with ⟨h1, h2⟩ | ⟨r, h1, h2, h3, h4⟩
    · refine Or.inl ⟨h1, fun u hu => ?_⟩
      rcases Nat.lt_or_ge u t with q | q
      · exact h2 u q
      · rw [show u = t by omega]; exact Or.inl c1
    · exact Or.inr ⟨r, by omega, h2, h3, h4⟩
  · rw [if_neg c1]
    by_cases c2 : W t = 0
    · rw [if_pos c2]
      rcases h with ⟨h1, h2⟩ | ⟨r, h1, h2, h3, h4⟩
      · refine Or.inl ⟨h1, fun u hu => ?_⟩
        rcases Nat.lt_or_ge u t with q | q
        · exact h2 u q
        · rw [show u = t by omega]; exact Or.inr c2
      · exact Or.inr ⟨r, by omega, h2, h3, h4⟩
    · rw [if_neg c2]
      by_cases c3 : b = -1
      · rw [if_pos c3]; exact Or.inr ⟨t, by omega, rfl, c1, by omega⟩
      · rw [if_neg c3]
        rcases h with ⟨h1, h2⟩ | ⟨r, h1, h2, h3, h4⟩
        · exact absurd h1 c3
        · split
          · exact Or.inr ⟨r, by omega, h2, h3, h4⟩
          · exact Or.inr ⟨t, by omega, rfl, c1, by omega⟩
theorem LB_f {W : Nat → Nat} {but : Int32} : ∀ n t b, LB W but t b → LB W but (t + n) (ltF W but t n b)
  | 0, _, _, h => h
  | n + 1, t, b, h => by
    have := LB_f n (t + 1) _ (LB_s h)
    rw [show t + (n + 1) = t + 1 + n by omega]
    exact this
theorem LB_r (W : Nat → Nat) (but : Int32) : LB W but 8 (ltR W but) := by
  have := LB_f (W := W) (but := but) 8 0 (-1) (Or.inl ⟨rfl, fun u hu => by omega⟩)
  exact this
/-- how many weights are above 0 -/
def pcW (W : Nat → Nat) : Nat := smF (fun t => if W t = 0 then 0 else 1) 0 8
theorem pc_0 {W : Nat → Nat} (h : ∀ t, t < 8 → W t = 0) : pcW W = 0 := smF_zero _ (fun j _ hj => by rw [if_pos (h j hj)])
theorem pc_ge1 {W : Nat → Nat} {r : Nat} (hr : r < 8) (h : 0 < W r) : 1 ≤ pcW W := by
  have := sum8_le (f := fun t => if t = r then 1 else 0) (g := fun t => if W t = 0 then 0 else 1) (fun t _ => by
    by_cases c : t = r
    · rw [if_pos c, if_neg (by rw [c]; omega)]; omega
    · rw [if_neg c]; omega)
  have e : smF (fun t => if t = r then 1 else 0) 0 8 = 1 := by
    rw [smF8]
    have : r = 0 ∨ r = 1 ∨ r = 2 ∨ r = 3 ∨ r = 4 ∨ r = 5 ∨ r = 6 ∨ r = 7 := by omega
    rcases this with rfl | rfl | rfl | rfl | rfl | rfl | rfl | rfl <;> rfl
  unfold pcW
  omega
theorem pc_up {W : Nat → Nat} {r : Nat} (hr : r < 8) (x : Nat) : pcW (va_up W r x) + (if W r = 0 then 0 else 1) = pcW W + (if x = 0 then 0 else 1) := by
  unfold pcW
  have e : (fun t => if va_up W r x t = 0 then 0 else 1) = va_up (fun t => if W t = 0 then 0 else 1) r (if x = 0 then 0 else 1) := by
    funext t
    by_cases c : t = r
    · subst c; rw [vu_eq, vu_eq]
    · rw [vu_ne _ _ c, vu_ne _ _ c]
  rw [e]
  have := sum8_up (fun t => if W t = 0 then 0 else 1) hr (if x = 0 then 0 else 1)
  exact this
def mgW (W : Nat → Nat) (a b : Nat) : Nat → Nat := va_up (va_up W (max a b) 0) (min a b) (W a + W b)
theorem pc_mg {W : Nat → Nat} {a b : Nat} (ha : a < 8) (hb : b < 8) (hab : a ≠ b) (h1 : 0 < W a) (h2 : 0 < W b) : pcW (mgW W a b) + 1 = pcW W := by
  unfold mgW
  have e1 := pc_up (W := W) (r := max a b) (by omega) 0
  have e2 := pc_up (W := va_up W (max a b) 0) (r := min a b) (by omega) (W a + W b)
  rw [vu_ne _ _ (by omega)] at e2
  have p1 : 0 < W (max a b) := by
    rcases Nat.le_total a b with q | q
    · rw [Nat.max_eq_right q]; exact h2
    · rw [Nat.max_eq_left q]; exact h1
  have p2 : 0 < W (min a b) := by
    rcases Nat.le_total a b with q | q
    · rw [Nat.min_eq_left q]; exact h1
    · rw [Nat.min_eq_right q]; exact h2
  rw [if_neg (by omega), if_pos rfl] at e1
  rw [if_neg (by omega), if_neg (by omega)] at e2
  omega
theorem sm_mg {W : Nat → Nat} {a b : Nat} (ha : a < 8) (hb : b < 8) (hab : a ≠ b) : smF (mgW W a b) 0 8 = smF W 0 8 := by
  unfold mgW
  have e1 := sum8_up W (show max a b < 8 by omega) 0
  have e2 := sum8_up (va_up W (max a b) 0) (show min a b < 8 by omega) (W a + W b)
  rw [vu_ne _ _ (by omega)] at e2
  have p : W (max a b) + W (min a b) = W a + W b := by
    rcases Nat.le_total a b with q | q
    · rw [Nat.max_eq_right q, Nat.min_eq_left q]; omega
    · rw [Nat.max_eq_left q, Nat.min_eq_right q]
  omega
theorem W_le {W : Nat → Nat} {r : Nat} (hr : r < 8) : W r ≤ smF W 0 8 := by
  rw [smF8]
  have : r = 0 ∨ r = 1 ∨ r = 2 ∨ r = 3 ∨ r = 4 ∨ r = 5 ∨ r = 6 ∨ r = 7 := by omega
  rcases this with rfl | rfl | rfl | rfl | rfl | rfl | rfl | rfl <;> omega
/-- the two lightest, if there are two -/
theorem two_l {W : Nat → Nat} (h : 2 ≤ pcW W) : ∃ a b, a < 8 ∧ b < 8 ∧ a ≠ b ∧ 0 < W a ∧ 0 < W b ∧ ltR W (-1) = nI a ∧ ltR W (nI a) = nI b := by
  rcases LB_r W (-1) with ⟨h1, h2⟩ | ⟨a, a1, a2, a3, a4⟩
  · have := pc_0 (W := W) (fun t ht => (h2 t ht).resolve_left (m1_ne t (by omega)))
    omega
  · rcases LB_r W (nI a) with ⟨h1, h2⟩ | ⟨b, b1, b2, b3, b4⟩
    · have e := pc_up (W := W) a1 0
      rw [if_neg (by omega), if_pos rfl] at e
      have := pc_0 (W := va_up W a 0) (fun t ht => by
        by_cases q : t = a
        · subst q; rw [vu_eq]
        · rw [vu_ne _ _ q]; exact (h2 t ht).resolve_left (fun z => q ((nI_eq (by omega) (by omega)).mp z)))
      omega
    · exact ⟨a, b, a1, b1, fun q => b3 (by rw [q]), a4, b4, a2, b2⟩
theorem one_l {W : Nat → Nat} (h : pcW W ≤ 1) : ltR W (-1) = -1 ∨ (∃ a, a < 8 ∧ ltR W (-1) = nI a) ∧ ltR W (ltR W (-1)) = -1 := by
  rcases LB_r W (-1) with ⟨h1, h2⟩ | ⟨a, a1, a2, a3, a4⟩
  · exact Or.inl h1
  · refine Or.inr ⟨⟨a, a1, a2⟩, ?_⟩
    rw [a2]
    rcases LB_r W (nI a) with ⟨h1, h2⟩ | ⟨b, b1, b2, b3, b4⟩
    · exact h1
    · exfalso
      have e := pc_up (W := W) a1 0
      rw [if_neg (by omega), if_pos rfl] at e
      have := pc_ge1 (W := va_up W a 0) b1 (by rw [vu_ne _ _ (fun q => b3 (by rw [q]))]; exact b4)
      omega
def hufV : Nat → (Nat → Nat) → Nat → Nat
  | 0, _, s => s
  | m + 1, W, s => hufV m (mgW W (ltR W (-1)).toNatClampNeg (ltR W (ltR W (-1))).toNatClampNeg) (s + (W (ltR W (-1)).toNatClampNeg + W (ltR W (ltR W (-1))).toNatClampNeg))
/-- weights' cells -/
def H12 (w : MW) (W : Nat → Nat) : Prop := ∃ f, w[12]? = some (.inl (.int, 8, .inl f)) ∧ ∀ t, t < 8 → f t = nI (W t)
section Q
variable {C : MW} {F : Nat → Int32} {v : Int64} {ar : Nat → Nat → Int32} {s : AS} {V : List AS} {n : Nat} {fu : Nat}
theorem CS.wt {w : MW} {hs : Nat → List Nat} {fg : Nat → Int32} (h : CS w hs fg) : gR w 7 1 4 = some 12 := by
  obtain ⟨a, b, c, h1⟩ := h.1
  exact gR_ob h1 rfl
theorem clight_loop {w : MW} {hs : Nat → List Nat} {fg : Nat → Int32} (h : CS w hs fg) {W : Nat → Nat} (H : H12 w W) (hW : ∀ t, t < 8 → W t ≤ 1000) (but : Int32) : ∀ N t b, t ≤ 8 → 8 - t < N → LB W but t b → f_X7_lightest_4 fu w N 1 but b (nI t) = some (ltF W but t (8 - t) b) := by
  obtain ⟨f, h12, hf⟩ := H
  intro N
  induction N with
  | zero => intro t b _ hN; omega
  | succ N ih =>
    intro t b ht hN hb
    rw [f_X7_lightest_4]
    by_cases c : 8 ≤ t
    · rw [if_pos (show (8 : Int32) ≤ nI t from nI_le (a := 8) c (by omega)), show 8 - t = 0 by omega]; rfl
    · have ht8 : t < 8 := by omega
      have hWt := hW t ht8
      have nx : ∀ b', b' = ltS W but b t → f_X7_lightest_46 fu w (f_X7_lightest_4 fu w N) 1 but b' (nI t) = some (ltF W but t (8 - t) b) := fun b' e => by
        rw [f_X7_lightest_46, bnd_eq, nI_1, ih (t + 1) b' (by omega) (by omega) (by rw [e]; exact LB_s hb), show 8 - t = (8 - (t + 1)) + 1 by omega, e]
        rfl
      rw [if_neg (show ¬ (8 : Int32) ≤ nI t from nI_ge (b := 8) ht8 (by omega))]
      unfold ltS at nx
      by_cases c1 : nI t = but
      · rw [if_pos c1] at nx ⊢; exact nx b rfl
      · rw [if_neg c1] at nx ⊢
        rw [h.wt, some_bind', aI_ar h12 ht8 (by omega), some_bind', hf t ht8]
        by_cases c2 : W t = 0
        · rw [if_pos c2] at nx
          rw [if_pos ((nI_le0 (by omega)).mpr c2)]; exact nx b rfl
        · rw [if_neg c2] at nx
          rw [if_neg (fun q => c2 ((nI_le0 (by omega)).mp q))]
          by_cases c3 : b = -1
          · rw [if_pos c3] at nx ⊢; rw [bnd_eq]; exact nx _ rfl
          · rw [if_neg c3] at nx ⊢
            rcases hb with ⟨h1, _⟩ | ⟨r, h1, h2, h3, h4⟩
            · exact absurd h1 c3
            · have er : b.toNatClampNeg = r := by rw [h2]; exact nI_clamp (by omega)
              have hWr := hW r (by omega)
              rw [er] at nx
              rw [some_bind', aI_ar h12 ht8 (by omega), some_bind', some_bind', h2, aI_ar h12 (show r < 8 by omega) (by omega), some_bind', hf t ht8, hf r (by omega)]
              by_cases c4 : W r ≤ W t
              · rw [if_pos c4] at nx
                rw [if_pos (nI_le c4 (by omega)), ← h2]; exact nx b rfl
              · rw [if_neg c4] at nx
                rw [if_neg (nI_ge (by omega) (by omega)), bnd_eq, ← h2]; exact nx _ rfl
theorem clight_ok {w : MW} {hs : Nat → List Nat} {fg : Nat → Int32} (h : CS w hs fg) {W : Nat → Nat} (H : H12 w W) (hW : ∀ t, t < 8 → W t ≤ 1000) (hfu : 100 ≤ fu) (but : Int32) : f_X7_lightest fu w 1 but = some (ltR W but) := by
  rw [f_X7_lightest, bnd_eq, bnd_eq]
  exact clight_loop h H hW but fu 0 (-1) (by omega) (by omega) (Or.inl ⟨rfl, fun u hu => by omega⟩)
def MH (ar : Nat → Nat → Int32) (W : Nat → Nat) : Prop := ∀ t, t < 8 → ar 5 t = nI (W t)
theorem mlight_loop (hC : C.length = 123) {W : Nat → Nat} (H : MH ar W) (hW : ∀ t, t < 8 → W t ≤ 1000) (but : Int32) : ∀ N t b, t ≤ 8 → 8 - t < N → LB W but t b → f_X11_fewest_4 fu (mW C F v ar) N 123 but b (nI t) = some (ltF W but t (8 - t) b) := by
  intro N
  induction N with
  | zero => intro t b _ hN; omega
  | succ N ih =>
    intro t b ht hN hb
    rw [f_X11_fewest_4]
    by_cases c : 8 ≤ t
    · rw [if_pos (show (8 : Int32) ≤ nI t from nI_le (a := 8) c (by omega)), show 8 - t = 0 by omega]; rfl
    · have ht8 : t < 8 := by omega
      have hWt := hW t ht8
      have nx : ∀ b', b' = ltS W but b t → f_X11_fewest_46 fu (mW C F v ar) (f_X11_fewest_4 fu (mW C F v ar) N) 123 but b' (nI t) = some (ltF W but t (8 - t) b) := fun b' e => by
        rw [f_X11_fewest_46, bnd_eq, nI_1, ih (t + 1) b' (by omega) (by omega) (by rw [e]; exact LB_s hb), show 8 - t = (8 - (t + 1)) + 1 by omega, e]
        rfl
      rw [if_neg (show ¬ (8 : Int32) ≤ nI t from nI_ge (b := 8) ht8 (by omega))]
      unfold ltS at nx
      by_cases c1 : nI t = but
      · rw [if_pos c1] at nx ⊢; exact nx b rfl
      · rw [if_neg c1] at nx ⊢
        rw [m_gR hC F v ar 21 rfl, some_bind', m_a5 hC F v ar ht8, some_bind', H t ht8]
        by_cases c2 : W t = 0
        · rw [if_pos c2] at nx
          rw [if_pos ((nI_le0 (by omega)).mpr c2)]; exact nx b rfl
        · rw [if_neg c2] at nx
          rw [if_neg (fun q => c2 ((nI_le0 (by omega)).mp q))]
          by_cases c3 : b = -1
          · rw [if_pos c3] at nx ⊢; rw [bnd_eq]; exact nx _ rfl
          · rw [if_neg c3] at nx ⊢
            rcases hb with ⟨h1, _⟩ | ⟨r, h1, h2, h3, h4⟩
            · exact absurd h1 c3
            · have er : b.toNatClampNeg = r := by rw [h2]; exact nI_clamp (by omega)
              have hWr := hW r (by omega)
              rw [er] at nx
              rw [some_bind', m_a5 hC F v ar ht8, some_bind', some_bind', h2, m_a5 hC F v ar (show r < 8 by omega), some_bind', H t ht8, H r (by omega)]
              by_cases c4 : W r ≤ W t
              · rw [if_pos c4] at nx
                rw [if_pos (nI_le c4 (by omega)), ← h2]; exact nx b rfl
              · rw [if_neg c4] at nx
                rw [if_neg (nI_ge (by omega) (by omega)), bnd_eq, ← h2]; exact nx _ rfl
theorem mlight_ok (hC : C.length = 123) {W : Nat → Nat} (H : MH ar W) (hW : ∀ t, t < 8 → W t ≤ 1000) (hfu : 100 ≤ fu) (but : Int32) : f_X11_fewest fu (mW C F v ar) 123 but = some (ltR W but) := by
  rw [f_X11_fewest, bnd_eq, bnd_eq]
  exact mlight_loop hC H hW but fu 0 (-1) (by omega) (by omega) (Or.inl ⟨rfl, fun u hu => by omega⟩)
theorem chuf_loop {hs : Nat → List Nat} {fg : Nat → Int32} (hfu : 100 ≤ fu) : ∀ N m W acc w, CS w hs fg → H12 w W → smF W 0 8 ≤ 240 → pcW W ≤ m + 1 → (pcW W = m + 1 ∨ (m = 0)) → m < N → ∃ w', f_X7_huffman_36 fu N w 1 (nI acc) (nI (pcW W)) = some (nI (hufV m W acc), w') ∧ CS w' hs fg ∧ (∃ W', H12 w' W') ∧ Chg [12] w w' := by
  intro N
  induction N with
  | zero => intro m W acc w _ _ _ _ _ hN; omega
  | succ N ih =>
    intro m W acc w h H hW hp hp2 hN
    have hWt : ∀ t, t < 8 → W t ≤ 1000 := fun t ht => by have := W_le (W := W) ht; omega
    rw [f_X7_huffman_36]
    rcases Nat.eq_zero_or_pos m with q | q
    · subst q
      rw [if_pos (show nI (pcW W) ≤ (1 : Int32) from nI_le (b := 1) (by omega) (by omega))]
      exact ⟨w, rfl, h, ⟨W, H⟩, Chg.rf _ _⟩
    · have hpc : pcW W = m + 1 := by omega
      have hpm : pcW W ≤ 8 := by
        have := sum8_le (f := fun t => if W t = 0 then 0 else 1) (g := fun _ => 1) (fun t _ => by split <;> omega)
        unfold pcW
        rw [smF8 (fun _ => 1)] at this
        omega
      obtain ⟨a, b, a1, b1, hab, a4, b4, a2, b2⟩ := two_l (show 2 ≤ pcW W by omega)
      obtain ⟨f, h12, hf⟩ := id H
      have c1 := Chg.st (ks := [12]) w (a := 12) (.inl (.int, 8, .inl (upd f (max a b) 0))) (by simp)
      have H1 := h.chg c1 (fun k hk => by simp at hk; omega)
      have h12' := get_set_eq (x := .inl (.int, 8, .inl (upd f (max a b) 0))) h12
      have c2 := Chg.st (ks := [12]) (w.set 12 (.inl (.int, 8, .inl (upd f (max a b) 0)))) (a := 12) (.inl (.int, 8, .inl (upd (upd f (max a b) 0) (min a b) (nI (W a + W b))))) (by simp)
      have H2 := H1.chg c2 (fun k hk => by simp at hk; omega)
      have hmg := pc_mg a1 b1 hab a4 b4
      obtain ⟨m', rfl⟩ : ∃ m', m = m' + 1 := ⟨m - 1, by omega⟩
      obtain ⟨w3, k1, k2, k3, k4⟩ := ih m' (mgW W a b) (acc + (W a + W b)) _ H2 ⟨_, get_set_eq h12', fun t ht => by
        unfold mgW
        by_cases z1 : t = min a b
        · subst z1; rw [upd_eq, vu_eq]
        · rw [upd_ne _ _ z1, vu_ne _ _ z1]
          by_cases z2 : t = max a b
          · subst z2; rw [upd_eq, vu_eq]; rfl
          · rw [upd_ne _ _ z2, vu_ne _ _ z2]; exact hf t ht⟩ (by rw [sm_mg a1 b1 hab]; exact hW) (by omega) (by omega) (by omega)
      have ea : (nI a).toNatClampNeg = a := nI_clamp (by omega)
      have eb : (nI b).toNatClampNeg = b := nI_clamp (by omega)
      have ehuf : hufV (m' + 1) W acc = hufV m' (mgW W a b) (acc + (W a + W b)) := by
        rw [hufV, a2, b2, ea, eb]
      rw [if_neg (show ¬ nI (pcW W) ≤ (1 : Int32) from nI_ge (a := 1) (by omega) (by omega)), h.cl, clight_ok h H hWt hfu, some_bind', bnd_eq, a2, h.cl, clight_ok h H hWt hfu, some_bind', bnd_eq, b2, if_neg (m1_ne a (by omega)), if_neg (m1_ne b (by omega)), h.wt, some_bind', aI_ar h12 a1 (by omega), some_bind', some_bind', aI_ar h12 b1 (by omega), some_bind', hf a a1, hf b b1, nI_add, bnd_eq, some_bind', imax_n (by omega) (by omega), imin_n (by omega) (by omega), sI_ar h12 (by omega) (by omega), some_bind', H1.wt, some_bind', sI_ar h12' (by omega) (by omega), some_bind', bnd_eq, bnd_eq, nI_add, nI_m1 (by omega), show pcW W - 1 = pcW (mgW W a b) by omega, k1, ehuf]
      exact ⟨w3, rfl, k2, k3, (c1.tr c2).tr k4⟩
theorem mhuf_loop (hC : C.length = 123) (hfu : 100 ≤ fu) : ∀ N m W acc ar, MH ar W → smF W 0 8 ≤ 240 → pcW W ≤ m + 1 → (pcW W = m + 1 ∨ m = 0) → m < N → ∃ g, f_X11_huffman_39 fu N (mW C F v ar) 123 (nI acc) (ltR W (-1)) (ltR W (ltR W (-1))) = some (nI (hufV m W acc), mW C F v (ua ar 5 g)) := by
  intro N
  induction N with
  | zero => intro m W acc ar _ _ _ _ hN; omega
  | succ N ih =>
    intro m W acc ar H hW hp hp2 hN
    have hWt : ∀ t, t < 8 → W t ≤ 1000 := fun t ht => by have := W_le (W := W) ht; omega
    rw [f_X11_huffman_39]
    rcases Nat.eq_zero_or_pos m with q | q
    · subst q
      rcases one_l (W := W) (by omega) with z | ⟨⟨a, a1, a2⟩, z⟩
      · rw [if_pos z]
        exact ⟨ar 5, by rw [ua_self]; rfl⟩
      · rw [z, a2, if_neg (m1_ne a (by omega)), if_pos rfl]
        exact ⟨ar 5, by rw [ua_self]; rfl⟩
    · obtain ⟨a, b, a1, b1, hab, a4, b4, a2, b2⟩ := two_l (show 2 ≤ pcW W by omega)
      have hmg := pc_mg a1 b1 hab a4 b4
      obtain ⟨m', rfl⟩ : ∃ m', m = m' + 1 := ⟨m - 1, by omega⟩
      have ea : (nI a).toNatClampNeg = a := nI_clamp (by omega)
      have eb : (nI b).toNatClampNeg = b := nI_clamp (by omega)
      have ehuf : hufV (m' + 1) W acc = hufV m' (mgW W a b) (acc + (W a + W b)) := by
        rw [hufV, a2, b2, ea, eb]
      have hmg1 : ∀ t, t < 8 → mgW W a b t ≤ 1000 := fun t ht => by
        have := W_le (W := mgW W a b) ht
        have := sm_mg (W := W) a1 b1 hab
        omega
      have fin : ∀ j, j = min a b → ∃ g, f_X11_huffman_92 fu (f_X11_huffman_39 fu N) (mW C F v (ua (ua ar 5 (upd (ar 5) a 0)) 5 (upd (upd (ar 5) a 0) b 0))) 123 (nI acc) (nI (W a + W b)) 129 (nI j) = some (nI (hufV (m' + 1) W acc), mW C F v (ua ar 5 g)) := by
        intro j hj
        have hMH : MH (ua ar 5 (upd (upd (upd (ar 5) a 0) b 0) j (nI (W a + W b)))) (mgW W a b) := fun t ht => by
          rw [ua_eq]
          unfold mgW
          by_cases z1 : t = min a b
          · subst z1; rw [hj, upd_eq, vu_eq]
          · rw [upd_ne _ _ (by omega), vu_ne _ _ z1]
            by_cases z2 : t = max a b
            · subst z2
              rw [vu_eq]
              rcases Nat.le_total a b with y | y
              · rw [Nat.max_eq_right y, upd_eq]; rfl
              · rw [Nat.max_eq_left y, upd_ne _ _ hab, upd_eq]; rfl
            · rw [vu_ne _ _ z2, upd_ne _ _ (by omega), upd_ne _ _ (by omega)]; exact H t ht
        obtain ⟨g, k1⟩ := ih m' (mgW W a b) (acc + (W a + W b)) _ hMH (by rw [sm_mg a1 b1 hab]; exact hW) (by omega) (by omega) (by omega)
        rw [f_X11_huffman_92, m_s5 hC F v _ _ (by omega), some_bind', bnd_eq, nI_add, ua_ua, ua_ua, ua_eq, m_cl hC, mlight_ok hC hMH hmg1 hfu, some_bind', bnd_eq, m_cl hC, mlight_ok hC hMH hmg1 hfu, some_bind', bnd_eq, k1, ua_ua, ehuf]
        exact ⟨g, rfl⟩
      rw [a2, b2, if_neg (m1_ne a (by omega)), if_neg (m1_ne b (by omega)), m_gR hC F v ar 21 rfl, some_bind', m_a5 hC F v ar a1, some_bind', some_bind', m_a5 hC F v ar b1, some_bind', H a a1, H b b1, nI_add, bnd_eq, some_bind', m_s5 hC F v ar _ a1, some_bind', m_gR hC F v _ 21 rfl, some_bind', m_s5 hC F v _ _ b1, some_bind', m_gR hC F v _ 21 rfl, some_bind', ua_eq]
      by_cases z : b ≤ a
      · rw [if_pos (nI_le z (by omega))]
        exact fin b (by omega)
      · rw [if_neg (nI_ge (by omega) (by omega))]
        exact fin a (by omega)
end Q
