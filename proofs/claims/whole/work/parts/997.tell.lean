/-! TELL -/
theorem nI_dv {a b : Nat} (ha : a < 2 ^ 31) (hb2 : b < 2 ^ 31) : nI a / nI b = nI (a / b) := by
  have hq : a / b ≤ a := Nat.div_le_self a b
  apply Int32.toInt_inj.mp
  rw [Int32.toInt_div, nI_toInt ha, nI_toInt hb2, nI_toInt (by omega)]
  rw [← Int.ofNat_tdiv]
  generalize a / b = q at *
  exact Int.bmod_eq_of_le (by omega) (by omega)
theorem dv_nI {a b : Nat} (ha : a < 2 ^ 31) (hb : 0 < b) (hb2 : b < 2 ^ 31) : dv (nI a) (nI b) = some (nI (a / b)) := by
  unfold dv
  rw [if_neg (nI_ne0 hb hb2), nI_dv ha hb2]
theorem nI_m10 {a : Nat} (ha : a < 2 ^ 31) : nI a - nI a / (10 : Int32) * (10 : Int32) = nI (a % 10) := by
  rw [show (10 : Int32) = nI 10 from rfl, nI_dv ha (by omega), nI_mul, nI_sub (by omega)]
  congr 1
  omega
theorem low8_nI {a : Nat} (h : a < 256) : low8 (nI a) = a := by
  unfold low8 nI
  show (BitVec.ofNat 32 a).toNat % 256 = a
  rw [BitVec.toNat_ofNat]
  omega
/-- a number's bytes -/
def dg (k : Nat) : List Nat := if k < 10 then [48 + k / 1 % 10] else if k < 100 then [48 + k / 10 % 10, 48 + k / 1 % 10] else if k < 1000 then [48 + k / 100 % 10, 48 + k / 10 % 10, 48 + k / 1 % 10] else [48 + k / 1000 % 10, 48 + k / 100 % 10, 48 + k / 10 % 10, 48 + k / 1 % 10]
theorem dg_len (k : Nat) : (dg k).length ≤ 4 ∧ 1 ≤ (dg k).length := by
  unfold dg
  split
  · simp
  · split
    · simp
    · split
      · simp
      · simp
theorem num_skip {fu n : Nat} {w : MW} {p k d : Nat} (hk : k < 2 ^ 31) (hd : 1 < d) (hd2 : d < 2 ^ 31) (hq : k / d % 10 = 0) : f_X4_addNumber_6 fu (n + 1) w p (nI k) 0 (nI d) = f_X4_addNumber_6 fu n w p (nI k) 0 (nI (d / 10)) := by
  have h1 : k / d ≤ k := Nat.div_le_self k d
  rw [f_X4_addNumber_6, if_neg (nI_nle (by omega) hd2), dv_nI hk (by omega) hd2, some_bind', bnd_eq, nI_m10 (by omega), if_pos rfl, hq, if_neg (by decide), if_neg (show ¬ nI d = (1 : Int32) from fun e => by have := (nI_eq (b := 1) hd2 (by omega)).mp e; omega), f_X4_addNumber_37, bnd_eq, if_pos rfl, f_X4_addNumber_51, bnd_eq, show (10 : Int32) = nI 10 from rfl, nI_dv hd2 (by omega)]
theorem num_add {fu n : Nat} {w : MW} {p cap k d st : Nat} {T : List Nat} (h : RW w p cap T) (hc : cap ≤ 1000) (hl : T.length < cap) (hk : k < 2 ^ 31) (hd : 0 < d) (hd2 : d < 2 ^ 31) (hst : st ≤ 1) (hq : st = 1 ∨ 0 < k / d % 10 ∨ d = 1) : ∃ w', f_X4_addNumber_6 fu (n + 1) w p (nI k) (nI st) (nI d) = f_X4_addNumber_6 fu n w' p (nI k) (nI 1) (nI (d / 10)) ∧ RW w' p cap (T ++ [48 + k / d % 10]) ∧ Chg [p, p + 1] w w' := by
  have h1 : k / d ≤ k := Nat.div_le_self k d
  obtain ⟨w', a1, a2, a3⟩ := radd_ok h hc hl (nI (48 + k / d % 10))
  rw [low8_nI (by omega)] at a2
  refine ⟨w', ?_, a2, a3⟩
  have key : f_X4_addNumber_37 fu (f_X4_addNumber_6 fu n) w p (nI k) (nI d) (nI (k / d % 10)) (1 : Int32) = f_X4_addNumber_6 fu n w' p (nI k) (nI 1) (nI (d / 10)) := by
    rw [f_X4_addNumber_37, bnd_eq, if_neg (by decide), h.cl, show (48 : Int32) = nI 48 from rfl, nI_add, a1, some_bind', f_X4_addNumber_51, bnd_eq, show (10 : Int32) = nI 10 from rfl, nI_dv hd2 (by omega)]
    rfl
  rw [f_X4_addNumber_6, if_neg (nI_nle (by omega) hd2), dv_nI hk (by omega) hd2, some_bind', bnd_eq, nI_m10 (by omega)]
  by_cases c0 : st = 0
  · subst c0
    rw [if_pos (show nI 0 = 0 from rfl)]
    by_cases c1 : 0 < k / d % 10
    · rw [if_pos (show (0 : Int32) < nI (k / d % 10) from nI_lt (a := 0) c1 (by omega))]; exact key
    · rw [if_neg (show ¬ (0 : Int32) < nI (k / d % 10) from nI_nlt (b := k / d % 10) (a := 0) (by omega) (by omega))]
      have : d = 1 := by omega
      subst this
      rw [if_pos (show nI 1 = (1 : Int32) from rfl)]; exact key
  · rw [if_neg (fun e => c0 ((nI_eq0 (by omega)).mp e))]; exact key
theorem num_ok {fu N : Nat} {w : MW} {p cap k : Nat} {T : List Nat} (hN : 10 ≤ N) (h : RW w p cap T) (hc : cap ≤ 1000) (hl : T.length + (dg k).length ≤ cap) (hk : k < 10000) : ∃ w', f_X4_addNumber_6 fu N w p (nI k) 0 1000 = some w' ∧ RW w' p cap (T ++ dg k) ∧ Chg [p, p + 1] w w' := by
  obtain ⟨n, rfl⟩ : ∃ n, N = n + 1 + 1 + 1 + 1 + 1 := ⟨N - 5, by omega⟩
  have fin : ∀ w, f_X4_addNumber_6 fu (n + 1) w p (nI k) (nI 1) (nI (1 / 10)) = some w := by
    intro w
    rw [f_X4_addNumber_6, if_pos (by decide)]
  rw [show (1000 : Int32) = nI 1000 from rfl]
  unfold dg at hl ⊢
  by_cases k1 : k < 10
  · rw [if_pos k1] at hl ⊢
    obtain ⟨w1, a1, a2, a3⟩ := num_add (fu := fu) (n := n + 1) (k := k) (d := 1) (st := 0) h hc (by simp at hl; omega) (by omega) (by omega) (by omega) (by omega) (by omega)
    rw [num_skip (by omega) (by omega) (by omega) (by omega), num_skip (by omega) (by omega) (by omega) (by omega), num_skip (by omega) (by omega) (by omega) (by omega)]
    exact ⟨w1, by rw [show (1000 / 10 / 10 / 10) = 1 from rfl]; exact a1.trans (fin _), a2, a3⟩
  · rw [if_neg k1] at hl ⊢
    by_cases k2 : k < 100
    · rw [if_pos k2] at hl ⊢
      obtain ⟨w1, a1, a2, a3⟩ := num_add (fu := fu) (n := n + 1 + 1) (k := k) (d := 10) (st := 0) h hc (by simp at hl; omega) (by omega) (by omega) (by omega) (by omega) (by omega)
      obtain ⟨w2, b1, b2, b3⟩ := num_add (fu := fu) (n := n + 1) (k := k) (d := 10 / 10) (st := 1) a2 hc (by simp at hl ⊢; omega) (by omega) (by omega) (by omega) (by omega) (by omega)
      rw [num_skip (by omega) (by omega) (by omega) (by omega), num_skip (by omega) (by omega) (by omega) (by omega)]
      exact ⟨w2, by rw [show (1000 / 10 / 10) = 10 from rfl]; exact (a1.trans b1).trans (fin _), by rw [List.append_assoc] at b2; exact b2, a3.tr b3⟩
    · rw [if_neg k2] at hl ⊢
      by_cases k3 : k < 1000
      · rw [if_pos k3] at hl ⊢
        obtain ⟨w1, a1, a2, a3⟩ := num_add (fu := fu) (n := n + 1 + 1 + 1) (k := k) (d := 100) (st := 0) h hc (by simp at hl; omega) (by omega) (by omega) (by omega) (by omega) (by omega)
        obtain ⟨w2, b1, b2, b3⟩ := num_add (fu := fu) (n := n + 1 + 1) (k := k) (d := 100 / 10) (st := 1) a2 hc (by simp at hl ⊢; omega) (by omega) (by omega) (by omega) (by omega) (by omega)
        obtain ⟨w3, c1, c2, c3⟩ := num_add (fu := fu) (n := n + 1) (k := k) (d := 100 / 10 / 10) (st := 1) b2 hc (by simp at hl ⊢; omega) (by omega) (by omega) (by omega) (by omega) (by omega)
        rw [num_skip (by omega) (by omega) (by omega) (by omega)]
        exact ⟨w3, by rw [show (1000 / 10) = 100 from rfl]; exact ((a1.trans b1).trans c1).trans (fin _), by rw [List.append_assoc, List.append_assoc] at c2; exact c2, (a3.tr b3).tr c3⟩
      · rw [if_neg k3] at hl ⊢
        obtain ⟨w1, a1, a2, a3⟩ := num_add (fu := fu) (n := n + 1 + 1 + 1 + 1) (k := k) (d := 1000) (st := 0) h hc (by simp at hl; omega) (by omega) (by omega) (by omega) (by omega) (by omega)
        obtain ⟨w2, b1, b2, b3⟩ := num_add (fu := fu) (n := n + 1 + 1 + 1) (k := k) (d := 1000 / 10) (st := 1) a2 hc (by simp at hl ⊢; omega) (by omega) (by omega) (by omega) (by omega) (by omega)
        obtain ⟨w3, c1, c2, c3⟩ := num_add (fu := fu) (n := n + 1 + 1) (k := k) (d := 1000 / 10 / 10) (st := 1) b2 hc (by simp at hl ⊢; omega) (by omega) (by omega) (by omega) (by omega) (by omega)
        obtain ⟨w4, d1, d2, d3⟩ := num_add (fu := fu) (n := n + 1) (k := k) (d := 1000 / 10 / 10 / 10) (st := 1) c2 hc (by simp at hl ⊢; omega) (by omega) (by omega) (by omega) (by omega) (by omega)
        exact ⟨w4, (((a1.trans b1).trans c1).trans d1).trans (fin _), by rw [List.append_assoc, List.append_assoc, List.append_assoc] at d2; exact d2, ((a3.tr b3).tr c3).tr d3⟩
/-- where a run that begins at a place ends -/
def extE (L : List Nat) : Nat → Nat → Nat
  | 0, x => x
  | m + 1, x => if nth L (x + 1) = nth L x + 2 then extE L m (x + 1) else x
theorem extE_b (L : List Nat) : ∀ m x, x ≤ extE L m x ∧ extE L m x ≤ x + m := by
  intro m
  induction m with
  | zero => intro x; exact ⟨Nat.le_refl _, Nat.le_refl _⟩
  | succ m ih =>
    intro x
    rw [extE]
    split
    · have := ih (x + 1); omega
    · omega
def lsT (L : List Nat) (i : Nat) : Nat := if 2 ≤ extE L (L.length - i - 1) i - i then extE L (L.length - i - 1) i else i
theorem lsT_b {L : List Nat} {i : Nat} (h : i < L.length) : i ≤ lsT L i ∧ lsT L i < L.length ∧ (lsT L i = i ∨ i + 2 ≤ lsT L i) := by
  have := extE_b L (L.length - i - 1) i
  unfold lsT
  split <;> omega
def pcA (L : List Nat) (i : Nat) : List Nat := if i = 0 then [] else [32]
def pcB (L : List Nat) (i : Nat) : List Nat := if lsT L i ≤ i then [] else 45 :: dg (nth L (lsT L i) / 2)
def pcC (L : List Nat) (i : Nat) : List Nat := if nth L i % 2 = 1 then [42] else []
def tel (L : List Nat) : Nat → Nat → List Nat → List Nat
  | 0, _, T => T
  | m + 1, i, T => if L.length ≤ i then T else tel L m (lsT L i + 1) (T ++ pcA L i ++ dg (nth L i / 2) ++ pcB L i ++ pcC L i)
theorem ext_ok {w : MW} {h e : Nat} {L : List Nat} {fg : Int32} (H : HA w h e L fg) (S : SOK L) {fu i : Nat} : ∀ m x N, L.length = x + 1 + m → m < N → f_X0_lastToldWith_6 fu w N h (nI i) (nI x) = f_X0_lastToldWith_41 fu w (nI i) (nI (extE L m x)) := by
  obtain ⟨hne, h1, xs, h2, h3⟩ := H
  have hl := S.len
  intro m
  induction m with
  | zero =>
    intro x N hx hN
    obtain ⟨N, rfl⟩ : ∃ k, N = k + 1 := ⟨N - 1, by omega⟩
    rw [f_X0_lastToldWith_6, gI_ob h1 rfl, some_bind', nI_1, if_pos (nI_le (by omega) (by omega))]
    rfl
  | succ m ih =>
    intro x N hx hN
    obtain ⟨N, rfl⟩ : ∃ k, N = k + 1 := ⟨N - 1, by omega⟩
    have a1 := S.lt (j := x) (by omega)
    have a2 := S.lt (j := x + 1) (by omega)
    have a3 := S.inc (i := x) (j := x + 1) (by omega) (by omega)
    rw [f_X0_lastToldWith_6, gI_ob h1 rfl, some_bind', nI_1, if_neg (nI_ge (by omega) (by omega)), gR_ob h1 rfl, some_bind', aI_ar h2 (by omega) (by omega), some_bind', some_bind', aI_ar h2 (by omega) (by omega), some_bind', h3 _ (by omega), h3 _ (by omega), nI_sub (by omega), extE]
    by_cases c : nth L (x + 1) = nth L x + 2
    · rw [if_pos (show nI (nth L (x + 1) - nth L x) = (2 : Int32) by rw [show nth L (x + 1) - nth L x = 2 by omega]; rfl), if_pos c, bnd_eq]
      exact ih (x + 1) N (by omega) (by omega)
    · rw [if_neg (show ¬ nI (nth L (x + 1) - nth L x) = (2 : Int32) from fun q => by have := (nI_eq (b := 2) (by omega) (by omega)).mp q; omega), if_neg c]
theorem lsT_ok {w : MW} {h e : Nat} {L : List Nat} {fg : Int32} (H : HA w h e L fg) (S : SOK L) {fu i : Nat} (hfu : 100 ≤ fu) (hi : i < L.length) : f_X0_lastToldWith fu w h (nI i) = some (nI (lsT L i)) := by
  have hl := S.len
  have b := extE_b L (L.length - i - 1) i
  rw [f_X0_lastToldWith, bnd_eq, imax, if_neg (nI_pos (by omega)), ext_ok H S (L.length - i - 1) i fu (by omega) (by omega), f_X0_lastToldWith_41, nI_sub b.1, lsT]
  by_cases c : 2 ≤ extE L (L.length - i - 1) i - i
  · rw [if_pos (show (2 : Int32) ≤ nI _ from nI_le (a := 2) c (by omega)), if_pos c]
  · rw [if_neg (show ¬ (2 : Int32) ≤ nI _ from nI_ge (b := 2) (by omega) (by omega)), if_neg c]
def C10 (w : MW) : Prop := ∃ a b, w[0]? = some (.inr (10, [.ref 1, .ref 31, .ref 85, .ref 87, .ref 89, .ref 91, .ref 95, .int a, .int b]))
theorem pc_len {L : List Nat} {i : Nat} {T : List Nat} (h : i < L.length) (hT : T.length + 6 * (L.length - i) ≤ 360) : T.length + (pcA L i).length + (dg (nth L i / 2)).length + (pcB L i).length + (pcC L i).length + 6 * (L.length - (lsT L i + 1)) ≤ 360 := by
  have b := lsT_b h
  have d1 := dg_len (nth L i / 2)
  have d2 := dg_len (nth L (lsT L i) / 2)
  have e1 : (pcA L i).length ≤ 1 := by unfold pcA; split <;> simp
  have e2 : (pcC L i).length ≤ 1 := by unfold pcC; split <;> simp
  by_cases c : lsT L i ≤ i
  · have e3 : (pcB L i).length = 0 := by unfold pcB; rw [if_pos c]; rfl
    omega
  · have e3 : (pcB L i).length ≤ 5 := by unfold pcB; rw [if_neg c]; simp; omega
    omega
theorem C10.chg {ks : List Nat} {w w' : MW} (h : C10 w) (Q : Chg ks w w') (h0 : 0 ∉ ks) : C10 w' := by
  obtain ⟨a, b, h⟩ := h
  exact ⟨a, b, Q.at h0 h⟩
theorem ctell_loop {h e : Nat} {L : List Nat} {fg : Int32} (S : SOK L) {fu : Nat} (hfu : 100 ≤ fu) (hh : h ∉ [87, 88]) (he : e ∉ [87, 88]) : ∀ m i N w T, HA w h e L fg → C10 w → RW w 87 360 T → i ≤ L.length → L.length ≤ i + m → m < N → T.length + 6 * (L.length - i) ≤ 360 → ∃ w', f_X10_tell_25 fu N w 0 h (nI i) = some (nI (tel L m i T).length, w') ∧ RW w' 87 360 (tel L m i T) ∧ Chg [87, 88] w w' := by
  have hl := S.len
  have stop : ∀ i N w T, HA w h e L fg → C10 w → RW w 87 360 T → i = L.length → f_X10_tell_25 fu (N + 1) w 0 h (nI i) = some (nI T.length, w) := by
    intro i N w T H ⟨a, b, h0⟩ hT hi
    rw [f_X10_tell_25, gI_ob H.2.1 rfl, some_bind', if_pos (nI_le (by omega) (by omega)), gR_ob h0 rfl, some_bind', gI_ob hT.1 rfl, some_bind']
  intro m
  induction m with
  | zero =>
    intro i N w T H q0 hT hi0 hi hN hb
    obtain ⟨N, rfl⟩ : ∃ k, N = k + 1 := ⟨N - 1, by omega⟩
    exact ⟨w, stop i N w T H q0 hT (by omega), hT, Chg.rf _ _⟩
  | succ m ih =>
    intro i N w T H q0 hT hi0 hi hN hb
    obtain ⟨N, rfl⟩ : ∃ k, N = k + 1 := ⟨N - 1, by omega⟩
    rw [tel]
    by_cases c : L.length ≤ i
    · rw [if_pos c]
      exact ⟨w, stop i N w T H q0 hT (by omega), hT, Chg.rf _ _⟩
    · have hi' : i < L.length := by omega
      have hb2 := lsT_b hi'
      have hpl := pc_len hi' hb
      have x1 := S.lt hi'
      have x2 := S.lt hb2.2.1
      have z0 : (0 : Nat) ∉ [87, 88] := by simp
      rw [if_neg c]
      -- the space
      have s1 : ∃ w1, RW w1 87 360 (T ++ pcA L i) ∧ Chg [87, 88] w w1 ∧ f_X10_tell_25 fu (N + 1) w 0 h (nI i) = f_X10_tell_53 fu (f_X10_tell_25 fu N) w1 0 h (nI i) (nI (lsT L i)) := by
        obtain ⟨a, b, h0⟩ := q0
        by_cases z : i = 0
        · refine ⟨w, ?_, Chg.rf _ _, ?_⟩
          · unfold pcA; rw [if_pos z, List.append_nil]; exact hT
          · rw [f_X10_tell_25, gI_ob H.2.1 rfl, some_bind', if_neg (nI_ge hi' (by omega)), H.cl, lsT_ok H S hfu hi', some_bind', bnd_eq, if_pos (show nI i ≤ 0 by rw [z]; decide)]
        · obtain ⟨w1, r1, r2, r3⟩ := radd_ok hT (by omega) (by have := dg_len (nth L i / 2); omega) (nI 32)
          rw [low8_nI (by omega)] at r2
          refine ⟨w1, ?_, r3, ?_⟩
          · unfold pcA; rw [if_neg z]; exact r2
          · rw [f_X10_tell_25, gI_ob H.2.1 rfl, some_bind', if_neg (nI_ge hi' (by omega)), H.cl, lsT_ok H S hfu hi', some_bind', bnd_eq, if_neg (nI_nle (by omega) (by omega)), gR_ob h0 rfl, some_bind', hT.cl, show (32 : Int32) = nI 32 from rfl, r1, some_bind']
      obtain ⟨w1, r1, r2, r3⟩ := s1
      have H1 := H.chg r2 hh he
      have q1 := q0.chg r2 z0
      -- the key
      obtain ⟨w2, u1, u2, u3⟩ := num_ok (fu := fu) (N := fu) (k := nth L i / 2) (by omega) r1 (by omega) (by simp; omega) (by omega)
      have H2 := H1.chg u3 hh he
      have q2 := q1.chg u3 z0
      -- the end of the run
      have s3 : ∃ w3, RW w3 87 360 (T ++ pcA L i ++ dg (nth L i / 2) ++ pcB L i) ∧ Chg [87, 88] w2 w3 ∧ f_X10_tell_53 fu (f_X10_tell_25 fu N) w1 0 h (nI i) (nI (lsT L i)) = f_X10_tell_93 fu (f_X10_tell_25 fu N) w3 0 h (nI i) (nI (lsT L i)) := by
        obtain ⟨a, b, h0⟩ := q1
        obtain ⟨a', b', h0'⟩ := id q2
        by_cases z : lsT L i ≤ i
        · refine ⟨w2, ?_, Chg.rf _ _, ?_⟩
          · unfold pcB; rw [if_pos z, List.append_nil]; exact u2
          · rw [f_X10_tell_53, gR_ob h0 rfl, some_bind', H1.cl, keyAt_in H1 S hi', some_bind', r1.cl, f_X4_addNumber, bnd_eq, bnd_eq, u1, some_bind', if_pos (nI_le z (by omega))]
        · have hpB : (pcB L i).length = (dg (nth L (lsT L i) / 2)).length + 1 := by unfold pcB; rw [if_neg z]; simp
          obtain ⟨w3, g1, g2, g3⟩ := radd_ok u2 (by omega) (by simp; omega) (nI 45)
          rw [low8_nI (by omega)] at g2
          have H3 := H2.chg g3 hh he
          obtain ⟨a3, b3, h3⟩ := q2.chg g3 z0
          obtain ⟨w4, k1, k2, k3⟩ := num_ok (fu := fu) (N := fu) (k := nth L (lsT L i) / 2) (by omega) g2 (by omega) (by simp; omega) (by omega)
          refine ⟨w4, ?_, g3.tr k3, ?_⟩
          · unfold pcB; rw [if_neg z]; rw [List.append_assoc _ [45]] at k2; exact k2
          · rw [f_X10_tell_53, gR_ob h0 rfl, some_bind', H1.cl, keyAt_in H1 S hi', some_bind', r1.cl, f_X4_addNumber, bnd_eq, bnd_eq, u1, some_bind', if_neg (nI_ge (by omega) (by omega)), gR_ob h0' rfl, some_bind', u2.cl, show (45 : Int32) = nI 45 from rfl, g1, some_bind', gR_ob h3 rfl, some_bind', H3.cl, keyAt_in H3 S hb2.2.1, some_bind', g2.cl, f_X4_addNumber, bnd_eq, bnd_eq, k1, some_bind']
      obtain ⟨w3, g1, g2, g3⟩ := s3
      have H3 := H2.chg g2 hh he
      have q3 := q2.chg g2 z0
      -- the mark
      have s4 : ∃ w4, RW w4 87 360 (T ++ pcA L i ++ dg (nth L i / 2) ++ pcB L i ++ pcC L i) ∧ Chg [87, 88] w3 w4 ∧ f_X10_tell_93 fu (f_X10_tell_25 fu N) w3 0 h (nI i) (nI (lsT L i)) = f_X10_tell_111 fu (f_X10_tell_25 fu N) w4 0 h (nI i) (nI (lsT L i)) := by
        obtain ⟨a, b, h0⟩ := q3
        by_cases z : nth L i % 2 = 1
        · have hpC : (pcC L i).length = 1 := by unfold pcC; rw [if_pos z]; rfl
          obtain ⟨w4, k1, k2, k3⟩ := radd_ok g1 (by omega) (by simp; omega) (nI 42)
          rw [low8_nI (by omega)] at k2
          refine ⟨w4, ?_, k3, ?_⟩
          · unfold pcC; rw [if_pos z]; exact k2
          · rw [f_X10_tell_93, H3.cl, markAt_in H3 S hi', some_bind', z, if_pos (by decide), gR_ob h0 rfl, some_bind', g1.cl, show (42 : Int32) = nI 42 from rfl, k1, some_bind']
        · refine ⟨w3, ?_, Chg.rf _ _, ?_⟩
          · unfold pcC; rw [if_neg z, List.append_nil]; exact g1
          · rw [f_X10_tell_93, H3.cl, markAt_in H3 S hi', some_bind', show nth L i % 2 = 0 by omega, if_neg (by decide)]
      obtain ⟨w4, k1, k2, k3⟩ := s4
      obtain ⟨w5, j1, j2, j3⟩ := ih (lsT L i + 1) N w4 _ (H3.chg k2 hh he) (q3.chg k2 z0) k1 (by omega) (by omega) (by omega) (by simp; omega)
      refine ⟨w5, ?_, j2, (((r2.tr u3).tr g2).tr k2).tr j3⟩
      rw [r3, g3, k3, f_X10_tell_111, imax]
      by_cases z : i < lsT L i
      · rw [if_pos (nI_lt z (by omega)), bnd_eq, nI_1, j1]
      · rw [if_neg (nI_nlt (by omega) (by omega)), bnd_eq, nI_1, show i + 1 = lsT L i + 1 by omega, j1]
