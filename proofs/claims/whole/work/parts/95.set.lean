/-! SET -/
theorem chigh_loop {fu : Nat} {w : MW} {K : List Nat} (T : TOK w K) (O : KO K) : ∀ N x acc, acc ≤ 100 → x ≤ K.length → K.length - x < N → f_X8_high_4 fu w N 3 (nI acc) (nI x) = some (nI (hiF (pF K) K.length x acc)) := by
  have h61 := O.2.2
  obtain ⟨ar, rt, t, t1, t2, t3⟩ := T
  intro N
  induction N with
  | zero => intro x acc _ _ hN; omega
  | succ N ih =>
    intro x acc ha hx hN
    rw [f_X8_high_4, t.siz, some_bind']
    by_cases c : K.length ≤ x
    · rw [if_pos (nI_le c (by omega)), hiF_end _ _ c]
    · have hx' : x < K.length := by omega
      have hd := dep_lt (P := pF K) hx'
      rw [if_neg (nI_ge hx' (by omega)), t.r4, some_bind', t.a4 (by omega), some_bind', (t2 x hx').2.2.2.1, nI_1, imax_n (by omega) (by omega), bnd_eq, bnd_eq, nI_1, ih (x + 1) _ (by omega) (by omega) (by omega), hiF_s _ _ hx']
theorem chigh_ok {fu : Nat} (hfu : 100 ≤ fu) {w : MW} {K : List Nat} (T : TOK w K) (O : KO K) : f_X8_high fu w 3 = some (nI (hiF (pF K) K.length 0 0)) := by
  rw [f_X8_high, bnd_eq, bnd_eq]
  exact chigh_loop T O fu 0 0 (by omega) (by omega) (by have := O.2.2; omega)
theorem cdeps_loop {fu : Nat} {w : MW} {K : List Nat} (T : TOK w K) (O : KO K) : ∀ N x acc, x ≤ K.length → K.length - x < N → f_X8_allDepths_4 fu w N 3 (nI acc) (nI x) = some (nI (acc + smF (dep (pF K) K.length) x K.length)) := by
  have h61 := O.2.2
  obtain ⟨ar, rt, t, t1, t2, t3⟩ := T
  intro N
  induction N with
  | zero => intro x acc _ hN; omega
  | succ N ih =>
    intro x acc hx hN
    rw [f_X8_allDepths_4, t.siz, some_bind']
    by_cases c : K.length ≤ x
    · rw [if_pos (nI_le c (by omega)), smF_end _ c]; rfl
    · have hx' : x < K.length := by omega
      rw [if_neg (nI_ge hx' (by omega)), t.r4, some_bind', t.a4 (by omega), some_bind', (t2 x hx').2.2.2.1, bnd_eq, bnd_eq, nI_add, nI_1, ih (x + 1) _ (by omega) (by omega), smF_cons _ hx', Nat.add_assoc]
theorem cdeps_ok {fu : Nat} (hfu : 100 ≤ fu) {w : MW} {K : List Nat} (T : TOK w K) (O : KO K) : f_X8_allDepths fu w 3 = some (nI (smF (dep (pF K) K.length) 0 K.length)) := by
  have := cdeps_loop (fu := fu) T O fu 0 0 (by omega) (by have := O.2.2; omega)
  rw [Nat.zero_add] at this
  rw [f_X8_allDepths, bnd_eq, bnd_eq]
  exact this
theorem csum_loop {fu : Nat} {w : MW} {h e : Nat} {L : List Nat} {fg : Int32} (H : HA w h e L fg) (S : SOK L) : ∀ N x acc, x ≤ L.length → L.length - x < N → f_X0_sum_4 fu w N h (nI acc) (nI x) = some (nI (acc + smF (fun j => nth L j / 2) x L.length)) := by
  have l1 := S.len
  intro N
  induction N with
  | zero => intro x acc _ hN; omega
  | succ N ih =>
    intro x acc hx hN
    rw [f_X0_sum_4, gI_ob H.2.1 rfl, some_bind']
    by_cases c : L.length ≤ x
    · rw [if_pos (nI_le c (by omega)), smF_end _ c]; rfl
    · have hx' : x < L.length := by omega
      rw [if_neg (nI_ge hx' (by omega)), H.cl, keyAt_in H S hx', some_bind', bnd_eq, bnd_eq, nI_add, nI_1, ih (x + 1) _ (by omega) (by omega), smF_cons _ hx', Nat.add_assoc]
/-- a stretch begins -/
def stG (L : List Nat) (j : Nat) : Nat := if j = 0 then 1 else if nth L j / 2 - nth L (j - 1) / 2 = 1 then 0 else 1
theorem cstr_loop {fu : Nat} {w : MW} {h e : Nat} {L : List Nat} {fg : Int32} (H : HA w h e L fg) (S : SOK L) : ∀ N x acc, x ≤ L.length → L.length - x < N → f_X0_stretches_4 fu w N h (nI acc) (nI x) = some (nI (acc + smF (stG L) x L.length)) := by
  have l1 := S.len
  intro N
  induction N with
  | zero => intro x acc _ hN; omega
  | succ N ih =>
    intro x acc hx hN
    rw [f_X0_stretches_4, gI_ob H.2.1 rfl, some_bind']
    by_cases c : L.length ≤ x
    · rw [if_pos (nI_le c (by omega)), smF_end _ c]; rfl
    · have hx' : x < L.length := by omega
      rw [if_neg (nI_ge hx' (by omega)), smF_cons _ hx']
      by_cases c0 : x = 0
      · have e1 : stG L x = 1 := by unfold stG; rw [if_pos c0]
        rw [if_pos ((nI_eq0 (by omega)).mpr c0), f_X0_stretches_33, bnd_eq, f_X0_stretches_36, bnd_eq, nI_1, nI_1, ih (x + 1) _ (by omega) (by omega), e1, Nat.add_assoc]
      · have b1 := S.lt hx'
        have b2 := S.inc (i := x - 1) (j := x) (by omega) hx'
        rw [if_neg (fun q => c0 ((nI_eq0 (by omega)).mp q)), H.cl, keyAt_in H S hx', some_bind', show (1 : Int32) = nI 1 from rfl, nI_sub (by omega : 1 ≤ x), H.cl, keyAt_in H S (by omega), some_bind', nI_sub (by omega)]
        by_cases c1 : nth L x / 2 - nth L (x - 1) / 2 = 1
        · have e1 : stG L x = 0 := by unfold stG; rw [if_neg c0, if_pos c1]
          rw [c1, if_pos (Int32.le_refl _), f_X0_stretches_36, bnd_eq, nI_1, ih (x + 1) _ (by omega) (by omega), e1, Nat.zero_add]
        · have e1 : stG L x = 1 := by unfold stG; rw [if_neg c0, if_neg c1]
          rw [if_neg (nI_ge (by omega) (by omega)), f_X0_stretches_33, bnd_eq, f_X0_stretches_36, bnd_eq, nI_1, nI_1, ih (x + 1) _ (by omega) (by omega), e1, Nat.add_assoc]
/-- the least difference so far -/
def lsS (L : List Nat) (l : Int32) (j : Nat) : Int32 := if j = 0 then l else if l = -1 then nI (nth L j / 2 - nth L (j - 1) / 2) else imin l (nI (nth L j / 2 - nth L (j - 1) / 2))
def lsF (L : List Nat) (x : Nat) (l : Int32) : Int32 := (List.range' x (L.length - x)).foldl (lsS L) l
theorem lsF_end (L : List Nat) {x : Nat} (l : Int32) (h : L.length ≤ x) : lsF L x l = l := by
  unfold lsF; rw [show L.length - x = 0 by omega]; rfl
theorem lsF_s (L : List Nat) {x : Nat} (l : Int32) (h : x < L.length) : lsF L x l = lsF L (x + 1) (lsS L l x) := by
  unfold lsF
  rw [show L.length - x = (L.length - (x + 1)) + 1 by omega, List.range'_succ, List.foldl_cons]
theorem cls_loop {fu : Nat} {w : MW} {h e : Nat} {L : List Nat} {fg : Int32} (H : HA w h e L fg) (S : SOK L) : ∀ N x l, 1 ≤ x → x ≤ 61 → L.length - x < N → f_X0_leastDifference_4 fu w N h l (nI x) = some (lsF L x l) := by
  have l1 := S.len
  intro N
  induction N with
  | zero => intro x l _ _ hN; omega
  | succ N ih =>
    intro x l hx1 hx hN
    rw [f_X0_leastDifference_4, gI_ob H.2.1 rfl, some_bind']
    by_cases c : L.length ≤ x
    · rw [if_pos (nI_le c (by omega)), lsF_end _ _ c]
    · have hx' : x < L.length := by omega
      have b1 := S.lt hx'
      have b2 := S.inc (i := x - 1) (j := x) (by omega) hx'
      rw [if_neg (nI_ge hx' (by omega)), H.cl, keyAt_in H S hx', some_bind', show (1 : Int32) = nI 1 from rfl, nI_sub (by omega : 1 ≤ x), H.cl, keyAt_in H S (by omega), some_bind', nI_sub (by omega), bnd_eq, lsF_s _ _ hx']
      unfold lsS
      rw [if_neg (show ¬ x = 0 by omega)]
      by_cases q : l = -nI 1
      · rw [if_pos q, if_pos (show l = -1 from q), f_X0_leastDifference_40, bnd_eq, bnd_eq, nI_1, ih (x + 1) _ (by omega) (by omega) (by omega)]
      · rw [if_neg q, if_neg (show ¬ l = -1 from q), f_X0_leastDifference_40, bnd_eq, bnd_eq, nI_1, ih (x + 1) _ (by omega) (by omega) (by omega)]
section Q
variable {C : MW} {F : Nat → Int32} {v : Int64} {ar : Nat → Nat → Int32} {s : AS} {V : List AS} {n : Nat} {fu : Nat}
/-- what is summed up -/
def tmv (what : Int32) (L : List Nat) (j : Nat) : Nat := if what = 3 then nth L j % 2 else if what = 8 then dep (pF (kys L)) L.length j else if what = 9 then stG L j else nth L j / 2
theorem msum_loop {b : Nat} (hfu : 200 ≤ fu) {i : Nat} (hi : i < 8) (what : Int32) : ∀ N k acc l F, MB C F ar b s → F 11 = nI (s.1 i).length → RH ar (kys (s.1 i)) → k ≤ (s.1 i).length → (s.1 i).length - k < N → ∃ F', f_X11_summed_13 fu N (mW C F v ar) 123 (nI i) what (nI acc) l (nI k) = some (if what = 7 then lsF (s.1 i) k l else nI (acc + smF (tmv what (s.1 i)) k (s.1 i).length), mW C F' v ar) ∧ FWy F F' := by
  intro N
  induction N with
  | zero => intro k acc l F _ _ _ _ hN; omega
  | succ N ih =>
    intro k acc l F B h11 hK hk hN
    have S := B.2.2.2.2 i hi
    have l1 := S.len
    have hC := B.1
    have KK := kys_ok S
    have hkl := kys_len (s.1 i)
    rw [f_X11_summed_13, m_gI hC F v ar 11 rfl, some_bind', h11]
    by_cases c : (s.1 i).length ≤ k
    · rw [if_pos (nI_le c (by omega)), lsF_end _ _ c, smF_end _ c]
      refine ⟨F, ?_, fun _ _ => rfl⟩
      by_cases q : what = 7
      · rw [if_pos q, if_pos q]
      · rw [if_neg q, if_neg q]; rfl
    · have hk' : k < (s.1 i).length := by omega
      have b1 := S.lt hk'
      have hKk := hK k (by omega)
      rw [kys_nth hk'] at hKk
      -- the next one
      have nx : ∀ F1 l' z, FWy F F1 → z = tmv what (s.1 i) k → l' = lsS (s.1 i) l k → ∃ F', f_X11_summed_140 fu (f_X11_summed_13 fu N) (mW C F1 v ar) 123 (nI i) what l' (nI k) (nI acc) (nI z) = some (if what = 7 then lsF (s.1 i) k l else nI (acc + smF (tmv what (s.1 i)) k (s.1 i).length), mW C F' v ar) ∧ FWy F F' := by
        intro F1 l' z hF hz hl
        obtain ⟨F', g1, g2⟩ := ih (k + 1) (acc + z) l' F1 (B.F hC (hF 9 (by omega)) B.2.2.2.1 B.2.2.2.2) (by rw [hF 11 (by omega)]; exact h11) hK (by omega) (by omega)
        rw [f_X11_summed_140, bnd_eq, bnd_eq, nI_add, nI_1, g1, lsF_s _ _ hk', smF_cons _ hk', hl, hz, Nat.add_assoc]
        exact ⟨F', rfl, hF.tr g2⟩
      have s75 : ∀ l' off, l' = lsS (s.1 i) l k → (0 < k → off = nI (nth (s.1 i) k / 2 - nth (s.1 i) (k - 1) / 2)) → ∃ F', f_X11_summed_75 fu (f_X11_summed_13 fu N) (mW C F v ar) 123 (nI i) what (nI acc) (nI k) off l' = some (if what = 7 then lsF (s.1 i) k l else nI (acc + smF (tmv what (s.1 i)) k (s.1 i).length), mW C F' v ar) ∧ FWy F F' := by
        intro l' off hl hoff
        rw [f_X11_summed_75, bnd_eq]
        by_cases w3 : what = 3
        · rw [if_pos w3, B.cl, B.mark hi hk', some_bind']
          exact nx F l' _ (fun _ _ => rfl) (by unfold tmv; rw [if_pos w3]) hl
        · rw [if_neg w3]
          by_cases w8 : what = 8
          · obtain ⟨F1, g1, g2⟩ := mdepth_ok (v := v) (F := F) hC hfu KK hK (by rw [h11, hkl]) (x := k) (by omega)
            rw [if_pos w8, B.cl, g1, some_bind']
            exact nx F1 l' _ g2 (by unfold tmv; rw [if_neg w3, if_pos w8, hkl]) hl
          · rw [if_neg w8]
            by_cases w9 : what = 9
            · have et : tmv what (s.1 i) k = stG (s.1 i) k := by unfold tmv; rw [if_neg w3, if_neg w8, if_pos w9]
              rw [if_pos w9]
              by_cases k0 : k = 0
              · rw [if_pos ((nI_le0 (by omega)).mpr k0)]
                exact nx F l' 1 (fun _ _ => rfl) (by rw [et]; unfold stG; rw [if_pos k0]) hl
              · have b2 := S.inc (i := k - 1) (j := k) (by omega) hk'
                rw [if_neg (fun q => k0 ((nI_le0 (by omega)).mp q)), hoff (by omega)]
                by_cases q : nth (s.1 i) k / 2 - nth (s.1 i) (k - 1) / 2 = 1
                · rw [q, if_pos (by decide)]
                  exact nx F l' 0 (fun _ _ => rfl) (by rw [et]; unfold stG; rw [if_neg k0, if_pos q]) hl
                · rw [if_neg (show ¬ nI (nth (s.1 i) k / 2 - nth (s.1 i) (k - 1) / 2) = (1 : Int32) from fun z => q ((nI_eq (b := 1) (by omega) (by omega)).mp z))]
                  exact nx F l' 1 (fun _ _ => rfl) (by rw [et]; unfold stG; rw [if_neg k0, if_neg q]) hl
            · rw [if_neg w9, m_gR hC F v ar 10 rfl, some_bind', m_a4 hC F v ar (by omega), some_bind', hKk]
              exact nx F l' _ (fun _ _ => rfl) (by unfold tmv; rw [if_neg w3, if_neg w8, if_neg w9]) hl
      rw [if_neg (nI_ge hk' (by omega))]
      by_cases k0 : k = 0
      · rw [if_pos ((nI_le0 (by omega)).mpr k0), f_X11_summed_48, bnd_eq, if_pos ((nI_le0 (by omega)).mpr k0)]
        exact s75 l 0 (by unfold lsS; rw [if_pos k0]) (fun q => by omega)
      · have b2 := S.inc (i := k - 1) (j := k) (by omega) hk'
        have hKk1 := hK (k - 1) (by omega)
        rw [kys_nth (by omega)] at hKk1
        rw [if_neg (fun q => k0 ((nI_le0 (by omega)).mp q)), m_gR hC F v ar 10 rfl, some_bind', m_a4 hC F v ar (by omega), some_bind', some_bind', show (1 : Int32) = nI 1 from rfl, nI_sub (by omega : 1 ≤ k), m_a4 hC F v ar (by omega), some_bind', hKk, hKk1, nI_sub (by omega), f_X11_summed_48, bnd_eq, if_neg (fun q => k0 ((nI_le0 (by omega)).mp q))]
        have hls : lsS (s.1 i) l k = if l = -1 then nI (nth (s.1 i) k / 2 - nth (s.1 i) (k - 1) / 2) else imin l (nI (nth (s.1 i) k / 2 - nth (s.1 i) (k - 1) / 2)) := by unfold lsS; rw [if_neg k0]
        by_cases q : l = -1
        · rw [if_pos q]
          exact s75 _ _ (by rw [hls, if_pos q]) (fun _ => rfl)
        · rw [if_neg q]
          by_cases q2 : l ≤ nI (nth (s.1 i) k / 2 - nth (s.1 i) (k - 1) / 2)
          · rw [if_pos q2]
            exact s75 _ _ (by rw [hls, if_neg q]; unfold imin; rw [if_neg (Int32.not_lt.mpr q2)]) (fun _ => rfl)
          · rw [if_neg q2]
            exact s75 _ _ (by rw [hls, if_neg q]; unfold imin; rw [if_pos (Int32.not_le.mp q2)]) (fun _ => rfl)
theorem msum_ok {b : Nat} (hfu : 200 ≤ fu) {i : Nat} (hi : i < 8) (what : Int32) {F : Nat → Int32} {ar : Nat → Nat → Int32} (B : MB C F ar b s) : ∃ F' g, f_X11_summed fu (mW C F v ar) 123 (nI i) what = some (if what = 7 then lsF (s.1 i) 0 (-1) else nI (smF (tmv what (s.1 i)) 0 (s.1 i).length), mW C F' v (ua ar 4 g)) ∧ (∀ k, k < 11 ∨ 15 < k → F' k = F k) := by
  have l1 := (B.2.2.2.2 i hi).len
  obtain ⟨g, k1, k2, k3⟩ := laysRow_ok (v := v) hi (show 100 ≤ fu by omega) B
  obtain ⟨F', m1, m2⟩ := msum_loop (v := v) hfu hi what fu 0 0 (-1) _ k3 (upd_eq _ _ _) k2 (by omega) (by omega)
  rw [Nat.zero_add] at m1
  refine ⟨F', g, ?_, fun k hk => by rw [m2 k (by omega), upd_ne _ _ (by omega)]⟩
  rw [f_X11_summed, B.cl, k1, some_bind', bnd_eq, bnd_eq, bnd_eq]
  exact m1
theorem set_res (G : Good C F v ar s V n) (hfu : 20000 ≤ fu) (a c : Int32) : Res C F ar s V (f_X10_set fu (mW C F v ar) 0 a c) (fun w => f_X11_set fu w 123 a c) := by
  have h := G.1.2.2.1
  have B := G.1.mb
  have O := G.1.2.2.2.1
  have hfu2 : 100 ≤ fu := by omega
  have hfu3 : 200 ≤ fu := by omega
  rcases set_cases a with ⟨i, hi, rfl⟩ | ha
  · have S := O.1 i hi
    have H := h.ha hi
    have l1 := S.len
    have KK := kys_ok S
    have hkl := kys_len (s.1 i)
    have hinj : ∀ p q, p < (kys (s.1 i)).length → q < (kys (s.1 i)).length → pF (kys (s.1 i)) p = pF (kys (s.1 i)) q → p = q := fun p q hp hq e => KK.inj hp hq e
    -- the model, over any class's cells
    have mp : ∀ C1, Good C1 F v ar s V n → ∃ g F1, RH (ua ar 4 g) (kys (s.1 i)) ∧ F1 11 = nI (s.1 i).length ∧ (∀ k, k < 11 ∨ 11 < k → F1 k = F k) ∧ MB C1 F1 (ua ar 4 g) 0 s ∧ f_X11_laysRow fu (mW C1 F v ar) 123 (nI i) = some (mW C1 F1 v (ua ar 4 g)) := by
      intro C1 G1
      obtain ⟨g, k1, k2, k3⟩ := laysRow_ok (v := v) hi hfu2 G1.1.mb
      exact ⟨g, _, k2, upd_eq _ _ _, fun k hk => upd_ne _ _ (by omega), k3, k1⟩
    have cp : cl (mW C F v ar) 7 1 (f_X7_heapAt (mW C F v ar) 1 (nI i)) = some (some (13 + 2 * i)) := by rw [h.cl, heapAt_in h hi]
    -- a plain answer
    have plain : ∀ x, f_X10_set fu (mW C F v ar) 0 (nI i) c = some (x, mW C F v ar) → (∀ g F1, RH (ua ar 4 g) (kys (s.1 i)) → F1 11 = nI (s.1 i).length → (∀ k, k < 11 ∨ 11 < k → F1 k = F k) → MB C F1 (ua ar 4 g) 0 s → f_X11_laysRow fu (mW C F v ar) 123 (nI i) = some (mW C F1 v (ua ar 4 g)) → ∃ F2 ar2, f_X11_set fu (mW C F v ar) 123 (nI i) c = some (x, mW C F2 v ar2) ∧ (∀ k, k < 11 ∨ 22 < k → F2 k = F k) ∧ (∀ k, k < 4 → ar2 k = ar k)) → Res C F ar s V (f_X10_set fu (mW C F v ar) 0 (nI i) c) (fun w => f_X11_set fu w 123 (nI i) c) := by
      intro x hx hm
      obtain ⟨g, F1, r1, r2, r3, r4, r5⟩ := mp C G
      obtain ⟨F2, ar2, q1, q2, q3⟩ := hm g F1 r1 r2 r3 r4 r5
      exact q_res G (fun _ _ => rfl) hx q1 q2 q3
    have ua4 : ∀ g k, k < 4 → ua ar 4 g k = ar k := fun g k hk => ua_ne _ _ (by omega)
    -- summed ones
    have summed : ∀ x, f_X10_set fu (mW C F v ar) 0 (nI i) c = some (x, mW C F v ar) → x = (if c = 7 then lsF (s.1 i) 0 (-1) else nI (smF (tmv c (s.1 i)) 0 (s.1 i).length)) → (c = 3 ∨ c = 7 ∨ c = 9 ∨ c = 10) → Res C F ar s V (f_X10_set fu (mW C F v ar) 0 (nI i) c) (fun w => f_X11_set fu w 123 (nI i) c) := by
      intro x hx hx2 hc
      refine plain x hx (fun g F1 r1 r2 r3 r4 r5 => ?_)
      obtain ⟨F2, g2, q1, q2⟩ := msum_ok (v := v) hfu3 hi c r4
      refine ⟨F2, ua (ua ar 4 g) 4 g2, ?_, fun k hk => by rw [q2 k (by omega), r3 k (by omega)], fun k hk => by rw [ua_ne _ _ (by omega), ua_ne _ _ (by omega)]⟩
      rw [f_X11_set, mSet_in hi, if_neg (by decide), B.cl, r5, some_bind']
      rcases hc with e | e | e | e <;> subst e <;> simp only [show ((3 : Int32) = 0) = False by decide, show ((3 : Int32) = 1) = False by decide, show ((3 : Int32) = 2) = False by decide, show ((7 : Int32) = 0) = False by decide, show ((7 : Int32) = 1) = False by decide, show ((7 : Int32) = 2) = False by decide, show ((7 : Int32) = 3) = False by decide, show ((7 : Int32) = 4) = False by decide, show ((7 : Int32) = 5) = False by decide, show ((7 : Int32) = 6) = False by decide, show ((9 : Int32) = 0) = False by decide, show ((9 : Int32) = 1) = False by decide, show ((9 : Int32) = 2) = False by decide, show ((9 : Int32) = 3) = False by decide, show ((9 : Int32) = 4) = False by decide, show ((9 : Int32) = 5) = False by decide, show ((9 : Int32) = 6) = False by decide, show ((9 : Int32) = 7) = False by decide, show ((9 : Int32) = 8) = False by decide, show ((10 : Int32) = 0) = False by decide, show ((10 : Int32) = 1) = False by decide, show ((10 : Int32) = 2) = False by decide, show ((10 : Int32) = 3) = False by decide, show ((10 : Int32) = 4) = False by decide, show ((10 : Int32) = 5) = False by decide, show ((10 : Int32) = 6) = False by decide, show ((10 : Int32) = 7) = False by decide, show ((10 : Int32) = 8) = False by decide, show ((10 : Int32) = 9) = False by decide, if_true, if_false] at q1 hx2 ⊢ <;> rw [r4.cl, q1, some_bind', hx2]
    by_cases d0 : c = 0
    · refine plain (nI (s.1 i).length) (by rw [f_X10_set, G.st, some_bind', cp, some_bind']; dsimp only; rw [if_pos d0, gI_ob H.2.1 rfl, some_bind']) (fun g F1 r1 r2 r3 r4 r5 => ⟨F1, ua ar 4 g, ?_, fun k hk => r3 k (by omega), ua4 g⟩)
      rw [f_X11_set, mSet_in hi, if_neg (by decide), B.cl, r5, some_bind', if_pos d0, m_gI r4.1 F1 v _ 11 rfl, some_bind', r2]
    by_cases d1 : c = 1
    · by_cases e0 : (s.1 i).length = 0
      · refine plain (-1) (by rw [f_X10_set, G.st, some_bind', cp, some_bind']; dsimp only; rw [if_neg d0, if_pos d1, H.cl, show (0 : Int32) = nI 0 from rfl, keyAt_out H (by omega) (by omega), some_bind']) (fun g F1 r1 r2 r3 r4 r5 => ⟨F1, ua ar 4 g, ?_, fun k hk => r3 k (by omega), ua4 g⟩)
        rw [f_X11_set, mSet_in hi, if_neg (by decide), B.cl, r5, some_bind', if_neg d0, if_pos d1, m_gI r4.1 F1 v _ 11 rfl, some_bind', r2, if_pos ((nI_eq0 (by omega)).mpr e0)]
      · refine plain (nI (nth (s.1 i) 0 / 2)) (by rw [f_X10_set, G.st, some_bind', cp, some_bind']; dsimp only; rw [if_neg d0, if_pos d1, H.cl, keyAt_0 H S (by omega), some_bind']) (fun g F1 r1 r2 r3 r4 r5 => ⟨F1, ua ar 4 g, ?_, fun k hk => r3 k (by omega), ua4 g⟩)
        have hr := r1 0 (by omega)
        rw [kys_nth (by omega)] at hr
        rw [f_X11_set, mSet_in hi, if_neg (by decide), B.cl, r5, some_bind', if_neg d0, if_pos d1, m_gI r4.1 F1 v _ 11 rfl, some_bind', r2, if_neg (fun q => e0 ((nI_eq0 (by omega)).mp q)), m_gR r4.1 F1 v _ 10 rfl, some_bind', show (0 : Int32) = nI 0 from rfl, m_a4 r4.1 F1 v _ (by omega), some_bind', hr]
    by_cases d2 : c = 2
    · by_cases e0 : (s.1 i).length = 0
      · refine plain (-1) (by rw [f_X10_set, G.st, some_bind', cp, some_bind']; dsimp only; rw [if_neg d0, if_neg d1, if_pos d2, gI_ob H.2.1 rfl, some_bind', H.cl, e0, show nI 0 - 1 = (-1 : Int32) from rfl, keyAt_m1, some_bind']) (fun g F1 r1 r2 r3 r4 r5 => ⟨F1, ua ar 4 g, ?_, fun k hk => r3 k (by omega), ua4 g⟩)
        rw [f_X11_set, mSet_in hi, if_neg (by decide), B.cl, r5, some_bind', if_neg d0, if_neg d1, if_pos d2, m_gI r4.1 F1 v _ 11 rfl, some_bind', r2, if_pos ((nI_eq0 (by omega)).mpr e0)]
      · refine plain (nI (nth (s.1 i) ((s.1 i).length - 1) / 2)) (by rw [f_X10_set, G.st, some_bind', cp, some_bind']; dsimp only; rw [if_neg d0, if_neg d1, if_pos d2, gI_ob H.2.1 rfl, some_bind', H.cl, show (1 : Int32) = nI 1 from rfl, nI_sub (by omega), keyAt_in H S (by omega), some_bind']) (fun g F1 r1 r2 r3 r4 r5 => ⟨F1, ua ar 4 g, ?_, fun k hk => r3 k (by omega), ua4 g⟩)
        have hr := r1 ((s.1 i).length - 1) (by omega)
        rw [kys_nth (by omega)] at hr
        rw [f_X11_set, mSet_in hi, if_neg (by decide), B.cl, r5, some_bind', if_neg d0, if_neg d1, if_pos d2, m_gI r4.1 F1 v _ 11 rfl, some_bind', r2, if_neg (fun q => e0 ((nI_eq0 (by omega)).mp q)), m_gR r4.1 F1 v _ 10 rfl, some_bind', some_bind', show (1 : Int32) = nI 1 from rfl, nI_sub (by omega), m_a4 r4.1 F1 v _ (by omega), some_bind', hr]
    by_cases d3 : c = 3
    · refine summed _ (by rw [f_X10_set, G.st, some_bind', cp, some_bind']; dsimp only; rw [if_neg d0, if_neg d1, if_neg d2, if_pos d3, H.cl, marked_ok H S hfu2, some_bind']) ?_ (Or.inl d3)
      rw [if_neg (by rw [d3]; decide)]
      unfold mkb
      rw [show (0 : Int32) = nI 0 from rfl, show (9999 : Int32) = nI 9999 from rfl, bel_zero S, nab_all S]
      congr 1
      refine smF_congr (fun j _ _ => ?_)
      unfold tmv
      rw [if_pos d3]
    by_cases d4 : c = 4
    · obtain ⟨C1, t1, t2, G1, t4⟩ := g_tree G hfu2 hi
      obtain ⟨arT, rt, tw, tk, tx, tr⟩ := id t2
      obtain ⟨g, F1, r1, r2, r3, r4, r5⟩ := mp C1 G1
      obtain ⟨x, hx1, hx2⟩ : ∃ x, f_X8_rootKey (mW C1 F v ar) 3 = some x ∧ f_X11_set fu (mW C1 F v ar) 123 (nI i) c = some (x, mW C1 F1 v (ua ar 4 g)) := by
        rcases tr with ⟨e0, er⟩ | ⟨r, e1, er, e2⟩
        · refine ⟨-1, ?_, ?_⟩
          · rw [f_X8_rootKey, tw.roo, some_bind', er, t2.cl, ckeyOf t2 (by omega) (Or.inl ⟨rfl, rfl⟩), some_bind']
          · rw [f_X11_set, mSet_in hi, if_neg (by decide), G1.1.mb.cl, r5, some_bind', if_neg d0, if_neg d1, if_neg d2, if_neg d3, if_pos d4, m_gI r4.1 F1 v _ 11 rfl, some_bind', r2, if_pos ((nI_eq0 (by omega)).mpr (by omega))]
        · have hr := r1 r e1
          obtain ⟨m, m1, m2⟩ := ahead_in (v := v) (F := F1) r4.1 hfu3 KK r1 (f := 0) (e := (s.1 i).length) (by omega) (by omega)
          have em : m = r := argm_u hinj (by omega) m2 ⟨by omega, by omega, fun z _ hz => e2 z (by omega)⟩
          subst em
          refine ⟨nI (nth (kys (s.1 i)) m), ?_, ?_⟩
          · rw [f_X8_rootKey, tw.roo, some_bind', er, t2.cl, ckeyOf t2 (by omega) (Or.inr ⟨m, e1, rfl, rfl⟩), some_bind']
          · rw [f_X11_set, mSet_in hi, if_neg (by decide), G1.1.mb.cl, r5, some_bind', if_neg d0, if_neg d1, if_neg d2, if_neg d3, if_pos d4, m_gI r4.1 F1 v _ 11 rfl, some_bind', r2, if_neg (fun q => by have := (nI_eq0 (by omega)).mp q; omega), m_gR r4.1 F1 v _ 10 rfl, some_bind', some_bind', mI_sub, r4.cl, show (0 : Int32) = nI 0 from rfl, m1, some_bind', m_a4 r4.1 F1 v _ (by omega), some_bind', hr]
      refine q_res G1 t4 ?_ hx2 (fun k hk => r3 k (by omega)) (ua4 g)
      rw [f_X10_set, G.st, some_bind', cp, some_bind']
      dsimp only
      rw [if_neg d0, if_neg d1, if_neg d2, if_neg d3, if_pos d4, some_bind', h.cl, t1, some_bind', t2.cl, hx1, some_bind']
    by_cases d5 : c = 5
    · obtain ⟨C1, t1, t2, G1, t4⟩ := g_tree G hfu2 hi
      obtain ⟨g, F1, r1, r2, r3, r4, r5⟩ := mp C1 G1
      obtain ⟨F2, m1, m2⟩ := mhigh_ok (v := v) (F := F1) r4.1 hfu3 KK r1 (by rw [r2, hkl])
      refine q_res G1 t4 (x := nI (hiF (pF (kys (s.1 i))) (kys (s.1 i)).length 0 0)) ?_ (F' := F2) (v' := v) (ar' := ua ar 4 g) ?_ (fun k hk => by rw [m2 k (by omega), r3 k (by omega)]) (ua4 g)
      · rw [f_X10_set, G.st, some_bind', cp, some_bind']
        dsimp only
        rw [if_neg d0, if_neg d1, if_neg d2, if_neg d3, if_neg d4, if_pos d5, some_bind', h.cl, t1, some_bind', t2.cl, chigh_ok hfu2 t2 KK, some_bind']
      · rw [f_X11_set, mSet_in hi, if_neg (by decide), G1.1.mb.cl, r5, some_bind', if_neg d0, if_neg d1, if_neg d2, if_neg d3, if_neg d4, if_pos d5, r4.cl, m1, some_bind']
    by_cases d6 : c = 6
    · refine plain (s.2 i) (by rw [f_X10_set, G.st, some_bind', cp, some_bind']; dsimp only; rw [if_neg d0, if_neg d1, if_neg d2, if_neg d3, if_neg d4, if_neg d5, if_pos d6, gI_ob H.2.1 rfl, some_bind']) (fun g F1 r1 r2 r3 r4 r5 => ⟨F1, ua ar 4 g, ?_, fun k hk => r3 k (by omega), ua4 g⟩)
      rw [f_X11_set, mSet_in hi, if_neg (by decide), B.cl, r5, some_bind', if_neg d0, if_neg d1, if_neg d2, if_neg d3, if_neg d4, if_neg d5, if_pos d6, r4.cl, r4.finger hi, some_bind']
    by_cases d7 : c = 7
    · refine summed (lsF (s.1 i) 1 (-1)) (by rw [f_X10_set, G.st, some_bind', cp, some_bind']; dsimp only; rw [if_neg d0, if_neg d1, if_neg d2, if_neg d3, if_neg d4, if_neg d5, if_neg d6, if_pos d7, H.cl, f_X0_leastDifference, bnd_eq, bnd_eq, show (1 : Int32) = nI 1 from rfl, cls_loop H S fu 1 _ (by omega) (by omega) (by omega), some_bind']) ?_ (Or.inr (Or.inl d7))
      rw [if_pos d7]
      rcases Nat.eq_zero_or_pos (s.1 i).length with q | q
      · rw [lsF_end _ _ (by omega), lsF_end _ _ (by omega)]
      · rw [lsF_s _ _ q]; rfl
    by_cases d8 : c = 8
    · obtain ⟨C1, t1, t2, G1, t4⟩ := g_tree G hfu2 hi
      obtain ⟨g, F1, r1, r2, r3, r4, r5⟩ := mp C1 G1
      obtain ⟨F2, g2, q1, q2⟩ := msum_ok (v := v) hfu3 hi c r4
      refine q_res G1 t4 (x := nI (smF (dep (pF (kys (s.1 i))) (kys (s.1 i)).length) 0 (kys (s.1 i)).length)) ?_ (F' := F2) (v' := v) (ar' := ua (ua ar 4 g) 4 g2) ?_ (fun k hk => by rw [q2 k (by omega), r3 k (by omega)]) (fun k hk => by rw [ua_ne _ _ (by omega), ua_ne _ _ (by omega)])
      · rw [f_X10_set, G.st, some_bind', cp, some_bind']
        dsimp only
        rw [if_neg d0, if_neg d1, if_neg d2, if_neg d3, if_neg d4, if_neg d5, if_neg d6, if_neg d7, if_pos d8, some_bind', h.cl, t1, some_bind', t2.cl, cdeps_ok hfu2 t2 KK, some_bind']
      · rw [if_neg d7] at q1
        rw [f_X11_set, mSet_in hi, if_neg (by decide), G1.1.mb.cl, r5, some_bind', if_neg d0, if_neg d1, if_neg d2, if_neg d3, if_neg d4, if_neg d5, if_neg d6, if_neg d7, if_pos d8, r4.cl, q1, some_bind', hkl]
        have e9 : smF (tmv c (s.1 i)) 0 (s.1 i).length = smF (dep (pF (kys (s.1 i))) (s.1 i).length) 0 (s.1 i).length := by
          refine smF_congr (fun j _ _ => ?_)
          unfold tmv
          rw [if_neg d3, if_pos d8]
        rw [← e9]
    by_cases d9 : c = 9
    · have hl := cstr_loop (fu := fu) H S fu 0 0 (by omega) (by omega)
      rw [Nat.zero_add] at hl
      refine summed (nI (smF (stG (s.1 i)) 0 (s.1 i).length)) (by rw [f_X10_set, G.st, some_bind', cp, some_bind']; dsimp only; rw [if_neg d0, if_neg d1, if_neg d2, if_neg d3, if_neg d4, if_neg d5, if_neg d6, if_neg d7, if_neg d8, if_pos d9, H.cl, f_X0_stretches, bnd_eq, bnd_eq, show (0 : Int32) = nI 0 from rfl, hl, some_bind']) ?_ (Or.inr (Or.inr (Or.inl d9)))
      rw [if_neg d7]
      congr 1
      refine smF_congr (fun j _ _ => ?_)
      unfold tmv
      rw [if_neg d3, if_neg d8, if_pos d9]
    by_cases d10 : c = 10
    · have hl := csum_loop (fu := fu) H S fu 0 0 (by omega) (by omega)
      rw [Nat.zero_add] at hl
      refine summed (nI (smF (fun j => nth (s.1 i) j / 2) 0 (s.1 i).length)) (by rw [f_X10_set, G.st, some_bind', cp, some_bind']; dsimp only; rw [if_neg d0, if_neg d1, if_neg d2, if_neg d3, if_neg d4, if_neg d5, if_neg d6, if_neg d7, if_neg d8, if_neg d9, if_pos d10, H.cl, f_X0_sum, bnd_eq, bnd_eq, show (0 : Int32) = nI 0 from rfl, hl, some_bind']) ?_ (Or.inr (Or.inr (Or.inr d10)))
      rw [if_neg d7]
      congr 1
      refine smF_congr (fun j _ _ => ?_)
      unfold tmv
      rw [if_neg d3, if_neg d8, if_neg d9]
    refine plain (-1) (by rw [f_X10_set, G.st, some_bind', cp, some_bind']; dsimp only; rw [if_neg d0, if_neg d1, if_neg d2, if_neg d3, if_neg d4, if_neg d5, if_neg d6, if_neg d7, if_neg d8, if_neg d9, if_neg d10]) (fun g F1 r1 r2 r3 r4 r5 => ⟨F1, ua ar 4 g, ?_, fun k hk => r3 k (by omega), ua4 g⟩)
    rw [f_X11_set, mSet_in hi, if_neg (by decide), B.cl, r5, some_bind', if_neg d0, if_neg d1, if_neg d2, if_neg d3, if_neg d4, if_neg d5, if_neg d6, if_neg d7, if_neg d8, if_neg d9, if_neg d10]
  · refine q_res G (fun _ _ => rfl) (x := -1) ?_ (F' := F) (v' := v) (ar' := ar) ?_ (fun _ _ => rfl) (fun _ _ => rfl)
    · rw [f_X10_set, G.st, some_bind', h.cl, heapAt_out ha, some_bind']
    · rw [f_X11_set, mSet_out ha, if_pos rfl]
end Q
