/-! MARK -/
theorem nth_ext {L M : List Nat} (hl : L.length = M.length) (h : ∀ j, j < L.length → nth L j = nth M j) : L = M := by
  refine List.ext_getElem hl (fun j h1 h2 => ?_)
  have := h j h1
  rw [nth_get h1, nth_get h2] at this
  exact this
theorem nth_map {L : List Nat} {f : Nat → Nat} {j : Nat} (h : j < L.length) : nth (L.map f) j = f (nth L j) := by
  have h2 : j < (L.map f).length := by rw [List.length_map]; exact h
  rw [nth_get h, nth_get h2, List.getElem_map]
theorem smF_split (f : Nat → Nat) {i m : Nat} (h1 : i ≤ m) : ∀ e, m ≤ e → smF f i e = smF f i m + smF f m e := by
  intro e
  induction e with
  | zero => intro h; rw [show m = 0 by omega]; rw [smF_end f (Nat.le_refl 0)]; rfl
  | succ e ih =>
    intro h
    rcases Nat.lt_or_ge e m with q | q
    · rw [show m = e + 1 by omega, smF_end f (Nat.le_refl (e + 1))]; rfl
    · rw [smF_snoc f e i (by omega), smF_snoc f e m q, ih q]; omega
theorem smF_zero (f : Nat → Nat) {i : Nat} : ∀ {e : Nat}, (∀ j, i ≤ j → j < e → f j = 0) → smF f i e = 0
  | 0, _ => smF_end f (by omega)
  | e + 1, h => by
    rcases Nat.lt_or_ge e i with q | q
    · exact smF_end f (by omega)
    · rw [smF_snoc f e i q, smF_zero f (fun j h1 h2 => h j h1 (by omega)), h e q (by omega)]
theorem smF_le (f : Nat → Nat) (h : ∀ j, f j ≤ 1) : ∀ e i, i ≤ e → smF f i e ≤ e - i := by
  intro e
  induction e with
  | zero => intro i _; rw [smF_end f (by omega)]; omega
  | succ e ih =>
    intro i hi
    rcases Nat.lt_or_ge e i with q | q
    · rw [smF_end f (by omega)]; omega
    · rw [smF_snoc f e i q]
      have := ih i q
      have := h e
      omega
/-- marks of keys from x to y become m -/
def mkF (x y : Int32) (m e : Nat) : Nat := if x ≤ nI (e / 2) ∧ nI (e / 2) ≤ y then 2 * (e / 2) + m else e
def mkG (x y : Int32) (m : Nat) (L : List Nat) (j : Nat) : Nat := if (x ≤ nI (nth L j / 2) ∧ nI (nth L j / 2) ≤ y) ∧ nth L j % 2 ≠ m then 1 else 0
/-- how many change -/
def mkN (x y : Int32) (m : Nat) (L : List Nat) : Nat := smF (mkG x y m L) 0 L.length
theorem mkG_le (x y : Int32) (m : Nat) (L : List Nat) (j : Nat) : mkG x y m L j ≤ 1 := by
  unfold mkG; split <;> omega
theorem mkN_le (x y : Int32) (m : Nat) (L : List Nat) : mkN x y m L ≤ L.length := smF_le _ (mkG_le x y m L) _ _ (Nat.zero_le _)
theorem mkF_key (x y : Int32) {m : Nat} (hm : m ≤ 1) (e : Nat) : mkF x y m e / 2 = e / 2 := by
  unfold mkF; split <;> omega
theorem nI_xor {e : Nat} (h : e < 20000) : nI e ^^^ (1 : Int32) = nI (2 * (e / 2) + (1 - e % 2)) := by
  apply Int32.toBitVec_inj.mp
  apply BitVec.eq_of_toNat_eq
  show (BitVec.ofNat 32 e ^^^ 1#32).toNat = (BitVec.ofNat 32 (2 * (e / 2) + (1 - e % 2))).toNat
  rw [BitVec.toNat_xor, BitVec.toNat_ofNat, BitVec.toNat_ofNat, BitVec.toNat_ofNat, Nat.mod_eq_of_lt (show e < 2 ^ 32 by omega), Nat.mod_eq_of_lt (show 2 * (e / 2) + (1 - e % 2) < 2 ^ 32 by omega)]
  show e ^^^ 1 = 2 * (e / 2) + (1 - e % 2)
  apply Nat.eq_of_testBit_eq
  intro i
  rw [Nat.testBit_xor]
  cases i with
  | zero =>
    rw [Nat.testBit_zero, Nat.testBit_zero, Nat.testBit_zero]
    have h2 : e % 2 = 0 ∨ e % 2 = 1 := by omega
    rcases h2 with q | q
    · have q2 : (2 * (e / 2) + (1 - e % 2)) % 2 = 1 := by omega
      rw [q2, q]; rfl
    · have q2 : (2 * (e / 2) + (1 - e % 2)) % 2 = 0 := by omega
      rw [q2, q]; rfl
  | succ i =>
    rw [Nat.testBit_succ, Nat.testBit_succ, Nat.testBit_succ, show (2 * (e / 2) + (1 - e % 2)) / 2 = e / 2 by omega, show 1 / 2 = 0 by omega, Nat.zero_testBit, Bool.xor_false]
theorem in_range {L : List Nat} (S : SOK L) (x y : Int32) {j : Nat} (hj : j < L.length) : (x ≤ nI (nth L j / 2) ∧ nI (nth L j / 2) ≤ y) ↔ (bel L x ≤ j ∧ j < nab L y) := by
  have h1 := bel_iff x L S j hj
  have h2 := nab_iff y L S j hj
  rw [h2]
  refine and_congr_left' ?_
  rw [← Int32.not_lt, ← h1]
  omega
theorem cmark_loop {x y : Int32} {m : Nat} (hm : m ≤ 1) {h e : Nat} {L : List Nat} {fg : Int32} (S : SOK L) (fu : Nat) : ∀ N r acc w, HA w h e (pm (mkF x y m) r L) fg → bel L x ≤ r → r ≤ 60 → nab L y - r < N → ∃ w', f_X0_markBetween_17 fu N w h (nI m) (nI (nab L y)) (nI acc) (nI r) = some (nI (acc + smF (mkG x y m L) r (nab L y)), w') ∧ HA w' h e (pm (mkF x y m) (max r (nab L y)) L) fg ∧ Chg [e] w w' := by
  have hl := S.len
  have hn := nab_le L y
  intro N
  induction N with
  | zero => intro r acc w _ _ _ hN; omega
  | succ N ih =>
    intro r acc w H hr h60 hN
    rw [f_X0_markBetween_17]
    by_cases c : nab L y ≤ r
    · rw [if_pos (nI_le c (by omega)), smF_end _ c, Nat.max_eq_left c]
      exact ⟨w, rfl, H, Chg.rf _ _⟩
    · have hr' : r < L.length := by omega
      have he := pm_nth (mkF x y m) (r := r) hr'
      rw [if_neg (by omega)] at he
      have hlt := S.lt hr'
      have hin := (in_range S x y hr').mpr ⟨hr, by omega⟩
      have hf : mkF x y m (nth L r) = 2 * (nth L r / 2) + m := by unfold mkF; rw [if_pos hin]
      have hps := pm_s (mkF x y m) hr'
      rw [if_neg (nI_ge (by omega) (by omega)), gR_ob H.2.1 rfl, some_bind', H.ent (by rw [pm_len]; exact hl) (by rw [pm_len]; exact hr'), some_bind', he, nI_odd (by omega), smF_cons _ (by omega : r < nab L y)]
      by_cases c2 : nth L r % 2 = m
      · have hg : mkG x y m L r = 0 := by unfold mkG; rw [if_neg (fun q => q.2 c2)]
        have hs : pm (mkF x y m) (r + 1) L = pm (mkF x y m) r L := by
          rw [hps, hf, show 2 * (nth L r / 2) + m = nth (pm (mkF x y m) r L) r by rw [he]; omega]
          exact set_same (by rw [pm_len]; exact hr')
        obtain ⟨w2, k1, k2, k3⟩ := ih (r + 1) acc w (by rw [hs]; exact H) (by omega) (by omega) (by omega)
        rw [if_pos (by rw [c2]), f_X0_markBetween_51, bnd_eq, nI_1, k1, hg, Nat.zero_add]
        refine ⟨w2, rfl, ?_, k3⟩
        rw [show max r (nab L y) = max (r + 1) (nab L y) by omega]; exact k2
      · have hg : mkG x y m L r = 1 := by unfold mkG; rw [if_pos ⟨hin, c2⟩]
        have hx : nI (nth L r) ^^^ (1 : Int32) = nI (mkF x y m (nth L r)) := by
          rw [nI_xor hlt, hf]; congr 1; omega
        obtain ⟨w1, g1, g2, g3⟩ := HA_set H (by rw [pm_len]; exact hl) (r := r) (x := mkF x y m (nth L r)) (by rw [pm_len]; exact hr')
        rw [← hps] at g2
        obtain ⟨w2, k1, k2, k3⟩ := ih (r + 1) (acc + 1) w1 g2 (by omega) (by omega) (by omega)
        rw [if_neg (fun q => c2 ((nI_eq (by omega) (by omega)).mp q)), some_bind', H.ent (by rw [pm_len]; exact hl) (by rw [pm_len]; exact hr'), some_bind', he, hx, g1, some_bind', bnd_eq, nI_1, f_X0_markBetween_51, bnd_eq, nI_1, k1, hg]
        refine ⟨w2, by rw [Nat.add_assoc], ?_, g3.tr k3⟩
        rw [show max r (nab L y) = max (r + 1) (nab L y) by omega]; exact k2
theorem mkG_0 {x y : Int32} {m : Nat} {L : List Nat} (S : SOK L) {j : Nat} (hj : j < L.length) (h : ¬ (bel L x ≤ j ∧ j < nab L y)) : mkG x y m L j = 0 := by
  unfold mkG
  rw [if_neg (fun q => h ((in_range S x y hj).mp q.1))]
theorem mkF_0 {x y : Int32} {m : Nat} {L : List Nat} (S : SOK L) {j : Nat} (hj : j < L.length) (h : ¬ (bel L x ≤ j ∧ j < nab L y)) : mkF x y m (nth L j) = nth L j := by
  unfold mkF
  rw [if_neg (fun q => h ((in_range S x y hj).mp q))]
theorem mkN_eq {x y : Int32} {m : Nat} {L : List Nat} (S : SOK L) : smF (mkG x y m L) (bel L x) (nab L y) = mkN x y m L := by
  have h1 := bel_le L x
  have h2 := nab_le L y
  unfold mkN
  rcases Nat.lt_or_ge (nab L y) (bel L x) with c | c
  · rw [smF_end _ (by omega), smF_zero _ (fun j _ hj => mkG_0 S hj (by omega))]
  · rw [smF_split _ (Nat.zero_le (bel L x)) _ h1, smF_split _ c _ h2, smF_zero _ (i := 0) (fun j _ hj => mkG_0 S (by omega) (by omega)), smF_zero _ (i := nab L y) (fun j _ hj => mkG_0 S (by omega) (by omega))]
    omega
theorem pm_begin {f : Nat → Nat} {r : Nat} {L : List Nat} (h : ∀ j, j < r → j < L.length → f (nth L j) = nth L j) : pm f r L = L := by
  refine nth_ext (pm_len _ _ _) (fun j hj => ?_)
  rw [pm_len] at hj
  rw [pm_nth f hj]
  split
  · exact h j (by assumption) hj
  · rfl
theorem pm_end {f : Nat → Nat} {r : Nat} {L : List Nat} (h : ∀ j, r ≤ j → j < L.length → f (nth L j) = nth L j) : pm f r L = L.map f := by
  refine nth_ext (by rw [pm_len, List.length_map]) (fun j hj => ?_)
  rw [pm_len] at hj
  rw [pm_nth f hj, nth_map hj]
  split
  · rfl
  · exact (h j (by omega) hj).symm
theorem cmark_ok {x y : Int32} {m : Nat} (hm : m ≤ 1) {h e : Nat} {L : List Nat} {fg : Int32} (S : SOK L) {fu : Nat} (hfu : 100 ≤ fu) {w : MW} (H : HA w h e L fg) : ∃ w', f_X0_markBetween fu w h x y (nI m) = some (nI (mkN x y m L), w') ∧ HA w' h e (L.map (mkF x y m)) fg ∧ Chg [e] w w' := by
  have h1 := bel_le L x
  have h2 := nab_le L y
  have hl := S.len
  obtain ⟨w', g1, g2, g3⟩ := cmark_loop (x := x) (y := y) hm S fu fu (bel L x) 0 w (by rw [pm_begin (fun j hj hj2 => mkF_0 S hj2 (by omega))]; exact H) (Nat.le_refl _) (by omega) (by omega)
  rw [mkN_eq S, Nat.zero_add] at g1
  rw [pm_end (fun j hj hj2 => mkF_0 S hj2 (by omega))] at g2
  refine ⟨w', ?_, g2, g3⟩
  rw [f_X0_markBetween, H.cl, notAbove_ok H S hfu, some_bind', bnd_eq, bnd_eq, H.cl, below_ok H S hfu, some_bind', bnd_eq, show (0 : Int32) = nI 0 from rfl, g1]
section M
variable {C : MW} {F : Nat → Int32} {v : Int64} {ar : Nat → Nat → Int32} {b : Nat} {s : AS} {fu : Nat}
theorem mmark_loop0 (B : MB C F ar b s) {i : Nat} (hi : i < 8) {x y : Int32} {m : Nat} (hm : m ≤ 1) : ∀ N r acc, r ≤ (s.1 i).length → (s.1 i).length - r < N → f_X11_marked_6 fu N (mW C F v ar) 123 (nI i) x y (nI m) 0 (nI acc) (nI r) = some (nI (acc + smF (mkG x y m (s.1 i)) r (s.1 i).length), mW C F v ar) := by
  have S := B.2.2.2.2 i hi
  have hl := S.len
  intro N
  induction N with
  | zero => intro r acc _ hN; omega
  | succ N ih =>
    intro r acc hr hN
    rw [f_X11_marked_6, B.cl, B.many hi, some_bind']
    by_cases c : (s.1 i).length ≤ r
    · rw [if_pos (nI_le c (by omega)), smF_end _ c]; rfl
    · have hr' : r < (s.1 i).length := by omega
      rw [if_neg (nI_ge hr' (by omega)), B.cl, B.key hi hr', some_bind', smF_cons _ hr']
      by_cases c2 : x ≤ nI (nth (s.1 i) r / 2) ∧ nI (nth (s.1 i) r / 2) ≤ y
      · rw [if_neg (fun q => (isIn_0 _ _ _).mp q c2), B.cl, B.mark hi hr', some_bind']
        by_cases c3 : nth (s.1 i) r % 2 = m
        · have hg : mkG x y m (s.1 i) r = 0 := by unfold mkG; rw [if_neg (fun q => q.2 c3)]
          rw [if_pos (by rw [c3]), f_X11_marked_76, bnd_eq, nI_1, ih (r + 1) _ hr' (by omega), hg, Nat.zero_add]
        · have hg : mkG x y m (s.1 i) r = 1 := by unfold mkG; rw [if_pos ⟨c2, c3⟩]
          rw [if_neg (fun q => c3 ((nI_eq (by omega) (by omega)).mp q)), bnd_eq, nI_1, if_pos rfl, f_X11_marked_76, bnd_eq, nI_1, ih (r + 1) _ hr' (by omega), hg, Nat.add_assoc]
      · have hg : mkG x y m (s.1 i) r = 0 := by unfold mkG; rw [if_neg (fun q => c2 q.1)]
        rw [if_pos ((isIn_0 _ _ _).mpr c2), f_X11_marked_76, bnd_eq, nI_1, ih (r + 1) _ hr' (by omega), hg, Nat.zero_add]
theorem mmark_0 (B : MB C F ar b s) (hfu : 100 ≤ fu) {i : Nat} (hi : i < 8) {x y : Int32} {m : Nat} (hm : m ≤ 1) : f_X11_marked fu (mW C F v ar) 123 (nI i) x y (nI m) 0 = some (nI (mkN x y m (s.1 i)), mW C F v ar) := by
  rw [f_X11_marked, bnd_eq, bnd_eq]
  have := mmark_loop0 (v := v) (fu := fu) B hi (x := x) (y := y) hm fu 0 0 (by omega) (by have := (B.2.2.2.2 i hi).len; omega)
  rw [Nat.zero_add] at this
  exact this
theorem mmark_loop1 (hC : C.length = 123) (hb : F 9 = nI b) (hb2 : b ≤ 976) {i : Nat} (hi : i < 8) {L : List Nat} {fg : Int32} (S : SOK L) {x y : Int32} {m : Nat} (hm : m ≤ 1) : ∀ N r acc ar, MA (ar 0) (b + 122 * i) (pm (mkF x y m) r L) fg → SOK (pm (mkF x y m) r L) → r ≤ L.length → L.length - r < N → ∃ al, f_X11_marked_6 fu N (mW C F v ar) 123 (nI i) x y (nI m) 1 (nI acc) (nI r) = some (nI (acc + smF (mkG x y m L) r L.length), mW C F v (ua ar 0 al)) ∧ MA al (b + 122 * i) (L.map (mkF x y m)) fg ∧ ∀ q, q < b + 122 * i ∨ b + 122 * i + 122 ≤ q → al q = ar 0 q := by
  have hl := S.len
  intro N
  induction N with
  | zero => intro r acc ar _ _ _ hN; omega
  | succ N ih =>
    intro r acc ar M S1 hr hN
    rw [f_X11_marked_6, m_cl hC, many_ok hC hb hb2 hi M, some_bind', pm_len]
    by_cases c : L.length ≤ r
    · have er : r = L.length := by omega
      subst er
      rw [pm_all] at M
      rw [if_pos (nI_le c (by omega)), smF_end _ c]
      exact ⟨ar 0, by rw [ua_self]; rfl, M, fun _ _ => rfl⟩
    · have hr' : r < L.length := by omega
      have hr2 : r < (pm (mkF x y m) r L).length := by rw [pm_len]; exact hr'
      have he := pm_nth (mkF x y m) (r := r) hr'
      rw [if_neg (by omega)] at he
      have hlt := S.lt hr'
      have hps := pm_s (mkF x y m) hr'
      have hS2 : SOK (pm (mkF x y m) (r + 1) L) := by
        rw [hps]; exact SOK_set S1 hr2 (by rw [mkF_key _ _ hm, he])
      rw [if_neg (nI_ge hr' (by omega)), m_cl hC, mkeyAt_ok hC hb hb2 hi M S1 hr2, some_bind', he, smF_cons _ hr']
      by_cases c2 : x ≤ nI (nth L r / 2) ∧ nI (nth L r / 2) ≤ y
      · have hf : mkF x y m (nth L r) = 2 * (nth L r / 2) + m := by unfold mkF; rw [if_pos c2]
        rw [if_neg (fun q => (isIn_0 _ _ _).mp q c2), m_cl hC, mmarkAt_ok hC hb hb2 hi M S1 hr2, some_bind', he]
        by_cases c3 : nth L r % 2 = m
        · have hg : mkG x y m L r = 0 := by unfold mkG; rw [if_neg (fun q => q.2 c3)]
          have hs : pm (mkF x y m) (r + 1) L = pm (mkF x y m) r L := by
            rw [hps, hf, show 2 * (nth L r / 2) + m = nth (pm (mkF x y m) r L) r by rw [he]; omega]
            exact set_same hr2
          obtain ⟨al, k1, k2, k3⟩ := ih (r + 1) acc ar (by rw [hs]; exact M) hS2 hr' (by omega)
          rw [if_pos (by rw [c3]), f_X11_marked_76, bnd_eq, nI_1, k1, hg, Nat.zero_add]
          exact ⟨al, rfl, k2, k3⟩
        · have hg : mkG x y m L r = 1 := by unfold mkG; rw [if_pos ⟨c2, c3⟩]
          have hM := MA_mark M (by rw [pm_len]; exact hl) (p := r) (x := mkF x y m (nth L r)) hr2 (by rw [mkF_key _ _ hm, he])
          rw [← hps, hf, show (2 * (nth L r / 2) + m) % 2 = m by omega] at hM
          obtain ⟨al, k1, k2, k3⟩ := ih (r + 1) (acc + 1) (ua ar 0 (upd (ar 0) (b + 122 * i + 62 + r) (nI m))) (by rw [ua_eq]; exact hM) hS2 hr' (by omega)
          rw [if_neg (fun q => c3 ((nI_eq (by omega) (by omega)).mp q)), bnd_eq, nI_1, if_neg (by decide), m_gR hC F v ar 0 rfl, some_bind', m_gI hC F v ar 9 rfl, some_bind', hb, mo, show (62 : Int32) = nI 62 from rfl, nI_add, nI_add, m_s0 hC F v ar _ (by omega), some_bind', f_X11_marked_76, bnd_eq, nI_1, k1, hg, Nat.add_assoc, ua_ua]
          exact ⟨al, rfl, k2, fun q hq => by rw [k3 q hq, ua_eq, upd_ne _ _ (by omega)]⟩
      · have hf : mkF x y m (nth L r) = nth L r := by unfold mkF; rw [if_neg c2]
        have hg : mkG x y m L r = 0 := by unfold mkG; rw [if_neg (fun q => c2 q.1)]
        have hs : pm (mkF x y m) (r + 1) L = pm (mkF x y m) r L := by
          rw [hps, hf]
          have := set_same hr2
          rw [he] at this
          exact this
        obtain ⟨al, k1, k2, k3⟩ := ih (r + 1) acc ar (by rw [hs]; exact M) hS2 hr' (by omega)
        rw [if_pos ((isIn_0 _ _ _).mpr c2), f_X11_marked_76, bnd_eq, nI_1, k1, hg, Nat.zero_add]
        exact ⟨al, rfl, k2, k3⟩
def xMark (s : AS) (i a b m : Nat) : Int32 × AS := if mkN (nI a) (nI b) m (s.1 i) = 0 then (-2, s) else (nI (mkN (nI a) (nI b) m (s.1 i)), (va_up s.1 i ((s.1 i).map (mkF (nI a) (nI b) m)), s.2))
theorem SOK_mk {L : List Nat} (S : SOK L) {x y : Int32} {m : Nat} (hm : m ≤ 1) : SOK (L.map (mkF x y m)) := by
  refine SOK_map S (fun a b _ _ q => ?_) (fun a ha => ?_)
  · rw [mkF_key _ _ hm, mkF_key _ _ hm]; exact q
  · have h1 := mkF_key x y hm a
    have h2 := S.2.1 a ha
    omega
theorem xMark_rz (O : AOK s.1) {i a b m : Nat} (hi : i < 8) (hm : m ≤ 1) : RZ s (xMark s i a b m) ∧ AOK (xMark s i a b m).2.1 ∧ (FOK s → FOK (xMark s i a b m).2) := by
  have hl := (O.1 i hi).len
  have hn := mkN_le (nI a) (nI b) m (s.1 i)
  have ht := O.2
  unfold xMark
  split
  · exact ⟨fun _ => ⟨rfl, by simp⟩, O, id⟩
  · refine ⟨fun q => absurd q (nI_pos (by omega)), AOK_up O hi (SOK_mk (O.1 i hi) hm) (by rw [List.length_map]; omega), fun hF j hj => ?_⟩
    by_cases c : j = i
    · subst c
      simp only [vu_eq]
      rcases hF j hj with q | ⟨e, he, q⟩
      · exact Or.inl q
      · exact Or.inr ⟨mkF (nI a) (nI b) m e, List.mem_map_of_mem he, by rw [mkF_key _ _ hm]; exact q⟩
    · simp only [vu_ne _ _ c]; exact hF j hj
theorem cmarkS_ok {w : MW} (h : CS w s.1 s.2) (O : AOK s.1) (hfu : 100 ≤ fu) {i a c m : Nat} (hi : i < 8) (ha : a < 10000) (hc : c < 10000) (hm : m ≤ 1) : ∃ w', f_X7_markStretch fu w 1 (nI i) (nI a) (nI c) (nI m) = some ((xMark s i a c m).1, w') ∧ CS w' (xMark s i a c m).2.1 (xMark s i a c m).2.2 ∧ Chg hpl w w' := by
  have S := O.1 i hi
  have H := h.ha hi
  have hl := S.len
  have hn := mkN_le (nI a) (nI c) m (s.1 i)
  obtain ⟨w', g1, g2, g3⟩ := cmark_ok (x := nI a) (y := nI c) hm S hfu H
  have g3' : Chg [13 + 2 * i, 14 + 2 * i] w w' := g3.mono (by simp)
  have C1 : CS w' (va_up s.1 i ((s.1 i).map (mkF (nI a) (nI c) m))) s.2 := by
    have := h.put hi g2 g3'
    refine this.ext (fun t ht => ⟨rfl, ?_⟩)
    by_cases q : t = i
    · rw [q, vu_eq]
    · rw [vu_ne _ _ q]
  have key : f_X7_markStretch fu w 1 (nI i) (nI a) (nI c) (nI m) = f_X7_markStretch_42 fu w (13 + 2 * i) (nI a) (nI c) (nI m) := by
    rw [f_X7_markStretch, h.cl, heapAt_in h hi, some_bind']
    dsimp only
    rw [isKey_in ha, isKey_in hc, if_neg (by decide), if_neg (by decide)]
    have : m = 0 ∨ m = 1 := by omega
    rcases this with rfl | rfl
    · rw [if_pos (by decide)]; rfl
    · rw [if_neg (by decide)]; rfl
  rw [key, f_X7_markStretch_42, H.cl, g1, some_bind', bnd_eq]
  unfold xMark
  by_cases c0 : mkN (nI a) (nI c) m (s.1 i) = 0
  · rw [if_pos ((nI_eq0 (by omega)).mpr c0), if_pos c0]
    have e : (s.1 i).map (mkF (nI a) (nI c) m) = s.1 i := by
      rw [← pm_end (r := 0) (f := mkF (nI a) (nI c) m) (fun j _ hj => ?_), pm_0]
      unfold mkN at c0
      have h1 : mkG (nI a) (nI c) m (s.1 i) j = 0 := by
        rw [smF_split _ (Nat.zero_le j) _ (Nat.le_of_lt hj), smF_cons _ hj] at c0
        omega
      unfold mkG at h1
      unfold mkF
      split
      · rename_i q
        have : nth (s.1 i) j % 2 = m := by
          refine Decidable.byContradiction fun q2 => ?_
          rw [if_pos ⟨q, q2⟩] at h1
          omega
        omega
      · rfl
    rw [e] at C1
    refine ⟨w', rfl, C1.ext (fun t ht => ⟨?_, rfl⟩), g3'.mono (hpl_in hi)⟩
    by_cases q : t = i
    · rw [q, vu_eq]
    · rw [vu_ne _ _ q]
  · rw [if_neg (fun q => c0 ((nI_eq0 (by omega)).mp q)), if_neg c0]
    exact ⟨w', rfl, C1, g3'.mono (hpl_in hi)⟩
theorem mrMark (B : MB C F ar b s) (hfu : 100 ≤ fu) {i a c m : Nat} (hi : i < 8) (ha : a < 10000) (hc : c < 10000) (hm : m ≤ 1) : f_X11_refusesMark fu (mW C F v ar) 123 (nI i) (nI a) (nI c) (nI m) = some (wOf (xMark s i a c m).1, mW C F v ar) := by
  have hl := (B.2.2.2.2 i hi).len
  have hn := mkN_le (nI a) (nI c) m (s.1 i)
  rw [f_X11_refusesMark, mSet_in hi, mKey_in ha, mKey_in hc, if_neg (by decide), if_neg (by decide), if_neg (by decide), B.cl, mmark_0 B hfu hi hm, some_bind']
  unfold xMark
  by_cases c0 : mkN (nI a) (nI c) m (s.1 i) = 0
  · rw [if_pos ((nI_eq0 (by omega)).mpr c0), if_pos c0, wOf_2]
  · rw [if_neg (fun q => c0 ((nI_eq0 (by omega)).mp q)), if_neg c0, wOf_n (by omega)]
theorem mmark_do (B : MB C F ar b s) (hfu : 100 ≤ fu) {i a c m : Nat} (hi : i < 8) (hm : m ≤ 1) (hx : ¬ (xMark s i a c m).1 < 0) : ∃ al, f_X11_marked fu (mW C F v ar) 123 (nI i) (nI a) (nI c) (nI m) 1 = some ((xMark s i a c m).1, mW C F v (ua ar 0 al)) ∧ M8 al b (xMark s i a c m).2 ∧ ∀ q, q < b ∨ b + 976 ≤ q → al q = ar 0 q := by
  have S := B.2.2.2.2 i hi
  have hl := S.len
  unfold xMark at hx ⊢
  split at hx
  · exact absurd (show (-2 : Int32) < 0 by decide) hx
  · rename_i c0
    rw [if_neg c0]
    obtain ⟨al, k1, k2, k3⟩ := mmark_loop1 (v := v) (fu := fu) B.1 B.2.1 B.2.2.1 hi S (x := nI a) (y := nI c) hm fu 0 0 ar (by rw [pm_0]; exact B.2.2.2.1 i hi) (by rw [pm_0]; exact S) (by omega) (by omega)
    rw [Nat.zero_add] at k1
    refine ⟨al, ?_, ?_, fun q hq => k3 q (by omega)⟩
    · rw [f_X11_marked, bnd_eq, bnd_eq]; exact k1
    · have := B.2.2.2.1.put B.2.2.2.2 hi k2 k3
      have e : va_up s.2 i (s.2 i) = s.2 := by
        funext t; by_cases q : t = i
        · rw [q, vu_eq]
        · rw [vu_ne _ _ q]
      rw [e] at this
      exact this
end M
section R
variable {C : MW} {F : Nat → Int32} {v : Int64} {ar : Nat → Nat → Int32} {s : AS} {V : List AS} {n : Nat} {fu : Nat}
theorem mark_bad {u : MW} (hu : CS u s.1 s.2) {a b c d : Int32} (h : (a < 0 ∨ 8 ≤ a) ∨ (b < 0 ∨ 9999 < b) ∨ (c < 0 ∨ 9999 < c)) : f_X7_markStretch fu u 1 a b c d = some (-1, u) := by
  rw [f_X7_markStretch, hu.cl]
  rcases set_cases a with ⟨i, hi, rfl⟩ | ha
  · rw [heapAt_in hu hi, some_bind']
    dsimp only
    by_cases e2 : f_X10_isKey b = 0
    · rw [if_pos e2]
    · rw [if_neg e2, isKey_out, if_pos rfl]
      rcases h with h | h | h
      · exact absurd ⟨(in_set hi).1, (in_set hi).2, trivial⟩ (out_not (P := True) h)
      · exact absurd (isKey_out h) e2
      · exact h
  · rw [heapAt_out ha, some_bind']
theorem mmark_bad {w : MW} {a b c d : Int32} (h : (a < 0 ∨ 8 ≤ a) ∨ (b < 0 ∨ 9999 < b) ∨ (c < 0 ∨ 9999 < c)) : f_X11_refusesMark fu w 123 a b c d = some (1, w) := by
  rw [f_X11_refusesMark]
  by_cases e1 : f_X11_isSet a = 0
  · rw [if_pos e1]
  · rw [if_neg e1]
    by_cases e2 : f_X11_isKey b = 0
    · rw [if_pos e2]
    · rw [if_neg e2, if_pos]
      rcases h with h | h | h
      · exact absurd (mSet_out h) e1
      · exact absurd (mKey_out h) e2
      · exact mKey_out h
theorem mark_res (G : Good C F v ar s V n) (hfu : 20000 ≤ fu) (a b c d : Int32) : ∃ s' V', Res C F ar s' V' (f_X10_mark fu (mW C F v ar) 0 a b c d) (fun w => f_X11_mark fu w 123 a b c d) := by
  obtain ⟨m, hm, e1, e2⟩ : ∃ m, m ≤ 1 ∧ f_X10_mark fu (mW C F v ar) 0 a b c d = actOf (fun w p => f_X7_markStretch fu w p a b c (nI m)) fu (mW C F v ar) ∧ ∀ w, f_X11_mark fu w 123 a b c d = (cl w 11 123 (f_X11_refusesMark fu w 123 a b c (nI m))).bind fun q1 => (cl q1.2 11 123 (f_X11_begins fu q1.2 123 q1.1)).bind fun q4 => bnd q4.1 fun x7 => if x7 ≤ 0 then f_X11_mark_48 fu q4.2 123 a b c (nI m) else some ((-x7), q4.2) := by
    by_cases hd : d = 0
    · refine ⟨1, by omega, ?_, fun w => ?_⟩
      · unfold f_X10_mark
        simp only [if_pos hd]; rfl
      · unfold f_X11_mark f_X11_mark_15
        simp only [if_pos hd]; rfl
    · refine ⟨0, by omega, ?_, fun w => ?_⟩
      · unfold f_X10_mark
        simp only [if_neg hd]; rfl
      · unfold f_X11_mark f_X11_mark_15
        simp only [if_neg hd]; rfl
  rw [e1]
  have B := G.1.mb
  have O := G.1.2.2.2.1
  have hfu2 : 100 ≤ fu := by omega
  by_cases hbad : (a < 0 ∨ 8 ≤ a) ∨ (b < 0 ∨ 9999 < b) ∨ (c < 0 ∨ 9999 < c)
  · have hx0 : ¬ ¬ (-1 : Int32) < 0 := by decide
    have := act_resq (x := -1) (ks := []) (R := fun _ => some 1) (D := fun _ => none) (Q := fun w => f_X11_mark fu w 123 a b c d) G hfu O id (by simp) (f := fun w p => f_X7_markStretch fu w p a b c (nI m)) (fun u h1 h2 => ⟨u, mark_bad h1 hbad, h1, h2, Chg.rf _ _⟩) (fun _ => ⟨rfl, Or.inl rfl⟩) (fun C' hC' => by rw [if_pos (by decide)]; rfl) (fun c => absurd c hx0) (fun C' hC' => by
      simp only [e2, mactOf, m_cl hC', mmark_bad hbad, some_bind', mbegins_no hC' (show ¬ (1 : Int32) = 0 by decide), bnd_eq]
      rw [if_neg (by decide), if_neg (by decide)])
    exact ⟨_, _, this⟩
  · rcases set_cases a with ⟨i, hi, rfl⟩ | h
    · rcases key_cases b with ⟨k, hk, rfl⟩ | h
      · rcases key_cases c with ⟨l, hl, rfl⟩ | h
        · obtain ⟨z1, z2, z3⟩ := xMark_rz (a := k) (b := l) O hi hm
          refine ⟨_, _, act_resq (R := fun _ => some (wOf (xMark s i k l m).1)) (D := fun w => f_X11_mark_48 fu w 123 (nI i) (nI k) (nI l) (nI m)) G hfu z2 z3 hpl_31 (fun u hu hz => ?_) z1 (fun C' hC' => rfl) (fun hx C' F' al hC' hF hM => ?_) (fun C' hC' => ?_)⟩
          · obtain ⟨u', g1, g2, g3⟩ := cmarkS_ok hu O hfu2 hi hk hl hm
            exact ⟨u', g1, g2, hz.hp g3, g3⟩
          · have B1 : MB C' F' (ua ar 0 al) 0 s := B.F hC' (hF 9 (by omega)) (by rw [ua_eq]; exact hM) O.1
            obtain ⟨al2, g1, g2, g4⟩ := mmark_do (v := v) B1 hfu2 hi hm hx
            refine ⟨F', v, ua (ua ar 0 al) 0 al2, ?_, by rw [ua_eq]; exact g2, fun q hq => by rw [ua_eq, g4 q (by omega), ua_eq], fun _ _ => rfl, fun k h1 h2 => by rw [ua_ne _ _ (by omega), ua_ne _ _ (by omega)]⟩
            rw [f_X11_mark_48, B1.cl, g1, some_bind']
          · have B1 : MB C' F ar 0 s := B.F hC' rfl B.2.2.2.1 O.1
            simp only [e2, mactOf, m_cl hC', mrMark B1 hfu2 hi hk hl hm, some_bind']
        · exact absurd (Or.inr (Or.inr h)) hbad
      · exact absurd (Or.inr (Or.inl h)) hbad
    · exact absurd (Or.inl h) hbad
end R
