/-! THE PURE PART: numbers, cells -/
theorem cN : (0 : Int32) = nI 0 ∧ (1 : Int32) = nI 1 ∧ (2 : Int32) = nI 2 ∧ (3 : Int32) = nI 3 ∧ (4 : Int32) = nI 4 ∧ (5 : Int32) = nI 5 ∧ (6 : Int32) = nI 6 ∧ (7 : Int32) = nI 7 ∧ (8 : Int32) = nI 8 ∧ (9 : Int32) = nI 9 ∧ (10 : Int32) = nI 10 ∧ (11 : Int32) = nI 11 ∧ (12 : Int32) = nI 12 ∧ (13 : Int32) = nI 13 ∧ (20 : Int32) = nI 20 ∧ (60 : Int32) = nI 60 ∧ (61 : Int32) = nI 61 ∧ (62 : Int32) = nI 62 ∧ (122 : Int32) = nI 122 ∧ (240 : Int32) = nI 240 ∧ (800 : Int32) = nI 800 ∧ (9999 : Int32) = nI 9999 ∧ (10000 : Int32) = nI 10000 ∧ (976 : Int32) = nI 976 ∧ (1000 : Int32) = nI 1000 := by decide +kernel
theorem nI_mul (a b : Nat) : nI a * nI b = nI (a * b) := by
  unfold nI; rw [← Int32.ofNat_mul]
theorem nI_sub {a b : Nat} (h : b ≤ a) : nI a - nI b = nI (a - b) := by
  have e : nI a = nI (a - b) + nI b := by rw [nI_add]; congr 1; omega
  rw [e, Int32.add_sub_cancel]
theorem nI_half {n : Nat} (h : n < 2 ^ 31) : nI n >>> ((1 : Int32) &&& 31) = nI (n / 2) := pk_shrN h _ 1 (by decide)
theorem nI_odd {n : Nat} (h : n < 2 ^ 31) : nI n &&& (1 : Int32) = nI (n % 2) := by
  apply Int32.toBitVec_inj.mp
  apply BitVec.eq_of_toNat_eq
  show (BitVec.ofNat 32 n &&& 1#32).toNat = (BitVec.ofNat 32 (n % 2)).toNat
  rw [BitVec.toNat_and, BitVec.toNat_ofNat]
  show n % 2 ^ 32 &&& 1 = _
  rw [Nat.and_one_is_mod]
  show n % 2 ^ 32 % 2 = n % 2 % 2 ^ 32
  omega
theorem m1_lt (n : Nat) (h : n < 2 ^ 31) : (-1 : Int32) < nI n := by
  rw [Int32.lt_iff_toInt_lt, nI_toInt h]
  show (-1 : Int) < n
  omega
theorem m1_ne (n : Nat) (h : n < 2 ^ 31) : ¬ nI n = -1 := by
  intro e
  have h1 := m1_lt n h
  rw [e] at h1
  exact absurd h1 (by decide)
theorem m1_ne' (n : Nat) (h : n < 2 ^ 31) : ¬ (-1 : Int32) = nI n := fun e => m1_ne n h e.symm
theorem nI_nneg {n : Nat} (h : n < 2 ^ 31) : ¬ nI n < nI 0 := nI_pos h
theorem some_bind' {α β : Type} (x : α) (k : α → Option β) : (some x).bind k = k x := rfl
theorem gI_ob {w : MW} {c h k : Nat} {fs : List Value} {x : Int32} (hw : w[h]? = some (.inr (c, fs))) (hk : fs[k]? = some (.int x)) : gI w c h k = some x := by
  simp [gI, hw, hk]
theorem gJ_ob {w : MW} {c h k : Nat} {fs : List Value} {x : Int64} (hw : w[h]? = some (.inr (c, fs))) (hk : fs[k]? = some (.long x)) : gJ w c h k = some x := by
  simp [gJ, hw, hk]
theorem gR_ob {w : MW} {c h k : Nat} {fs : List Value} {x : Nat} (hw : w[h]? = some (.inr (c, fs))) (hk : fs[k]? = some (.ref x)) : gR w c h k = some x := by
  simp [gR, hw, hk]
theorem pV_ob {w : MW} {c h k : Nat} {fs : List Value} {v : Value} (hw : w[h]? = some (.inr (c, fs))) (hk : k < fs.length) : pV w c h k v = some (w.set h (.inr (c, fs.set k v))) := by
  simp [pV, hw, hk]
theorem cl_ob {α : Type} {w : MW} {c h : Nat} {fs : List Value} (hw : w[h]? = some (.inr (c, fs))) (x : Option α) : cl w c h x = x := by
  simp [cl, hw]
theorem aI_ar {w : MW} {ty : FieldType} {a n j : Nat} {f : Nat → Int32} (hw : w[a]? = some (.inl (ty, n, .inl f))) (hj : j < n) (hn : n < 2 ^ 31) : aI w ty a (nI j) = some (f j) := by
  have h1 : (nI j).toNatClampNeg = j := nI_clamp (by omega)
  have h2 : (0 : Int32) ≤ nI j := nI_pos' (by omega)
  simp [aI, hw, h1, h2, hj]
theorem sI_ar {w : MW} {ty : FieldType} {a n j : Nat} {f : Nat → Int32} {x : Int32} (hw : w[a]? = some (.inl (ty, n, .inl f))) (hj : j < n) (hn : n < 2 ^ 31) : sI w ty a (nI j) x = some (w.set a (.inl (ty, n, .inl (upd f j x)))) := by
  have h1 : (nI j).toNatClampNeg = j := nI_clamp (by omega)
  have h2 : (0 : Int32) ≤ nI j := nI_pos' (by omega)
  simp [sI, hw, h1, h2, hj]
theorem aRn_ar {w : MW} {ty : FieldType} {a n j x : Nat} {f : Nat → Option Nat} (hw : w[a]? = some (.inl (ty, n, .inr (.inr (.inr (.inr f)))))) (hf : f j = some x) (hj : j < n) (hn : n < 2 ^ 31) : aRn w ty a (nI j) = some x := by
  have h1 : (nI j).toNatClampNeg = j := nI_clamp (by omega)
  have h2 : (0 : Int32) ≤ nI j := nI_pos' (by omega)
  simp [aRn, aR, hw, h1, h2, hj, hf]
theorem aL_ar {w : MW} {ty : FieldType} {a : Nat} {y : vp_A} (hw : w[a]? = some (.inl (ty, y))) : aL w ty a = some (nI y.1) := by
  simp [aL, hw, nI]
theorem get_set_ne {w : MW} {a b : Nat} {x : MC} (h : a ≠ b) : (w.set a x)[b]? = w[b]? := List.getElem?_set_ne h
theorem get_set_eq {w : MW} {a : Nat} {x y : MC} (h : w[a]? = some y) : (w.set a x)[a]? = some x := by
  have : a < w.length := (List.getElem?_eq_some_iff.mp h).1
  simp [this]
theorem upd_eq (f : Nat → Int32) (j : Nat) (x : Int32) : upd f j x j = x := by simp [upd]
theorem upd_ne (f : Nat → Int32) {j k : Nat} (x : Int32) (h : k ≠ j) : upd f j x k = f k := by simp [upd, h]
/-- the j-th of a list of numbers -/
def nth (L : List Nat) (j : Nat) : Nat := L.getD j 0
theorem bnd_eq {α β : Type} (x : α) (k : α → β) : bnd x k = k x := rfl
/-- an entry of a set: twice the key, and 1 if it is marked -/
def SOK (L : List Nat) : Prop := L.Pairwise (fun a b => a / 2 < b / 2) ∧ (∀ e ∈ L, e < 20000) ∧ L.length ≤ 60
/-- how many keys are below a number; not above it -/
def bel (L : List Nat) (x : Int32) : Nat := (L.takeWhile (fun e => decide (nI (e / 2) < x))).length
def nab (L : List Nat) (x : Int32) : Nat := (L.takeWhile (fun e => decide (nI (e / 2) ≤ x))).length
/-- a key's place, or -1 -/
def plc (L : List Nat) (x : Int32) : Int32 := if bel L x < L.length ∧ nI (nth L (bel L x) / 2) = x then nI (bel L x) else -1
theorem SOK.lt {L : List Nat} (h : SOK L) {j : Nat} (hj : j < L.length) : nth L j < 20000 := by
  unfold nth
  rw [List.getD_eq_getElem?_getD, List.getElem?_eq_getElem hj]
  exact h.2.1 _ (List.getElem_mem hj)
theorem SOK.len {L : List Nat} (h : SOK L) : L.length ≤ 60 := h.2.2
/-- a heap of the class -/
def HA (w : MW) (h e : Nat) (L : List Nat) (fg : Int32) : Prop := h ≠ e ∧ w[h]? = some (.inr (0, [.ref e, .int (nI L.length), .int fg])) ∧ ∃ xs, w[e]? = some (.inl (.int, 60, .inl xs)) ∧ ∀ j, j < L.length → xs j = nI (nth L j)
theorem drop_cons {L : List Nat} {i : Nat} (h : i < L.length) : L.drop i = nth L i :: L.drop (i + 1) := by
  unfold nth
  rw [List.drop_eq_getElem_cons h, List.getD_eq_getElem?_getD, List.getElem?_eq_getElem h]; rfl
theorem below_loop {w : MW} {h e : Nat} {L : List Nat} {fg : Int32} (H : HA w h e L fg) (S : SOK L) (fu : Nat) (x : Int32) : ∀ n i, i ≤ L.length → L.length - i < n → f_X0_below_2 fu w n h x (nI i) = some (nI (i + ((L.drop i).takeWhile (fun e => decide (nI (e / 2) < x))).length)) := by
  obtain ⟨hne, h1, xs, h2, h3⟩ := H
  have hl := S.len
  intro n
  induction n with
  | zero => intro i _ hn; omega
  | succ n ih =>
    intro i hi hn
    rw [f_X0_below_2, gI_ob h1 rfl, some_bind']
    by_cases hlt : i = L.length
    · rw [if_pos (nI_le (by omega) (by omega))]
      subst hlt
      simp
    · have hi' : i < L.length := by omega
      rw [if_neg (nI_ge hi' (by omega)), gR_ob h1 rfl, some_bind', aI_ar h2 (by omega) (by omega), some_bind', h3 i hi']
      have he := S.lt hi'
      rw [nI_half (by omega), drop_cons hi', List.takeWhile_cons]
      by_cases hx : nI (nth L i / 2) < x
      · rw [if_neg (Int32.not_le.mpr hx)]
        rw [bnd_eq, nI_1, ih (i + 1) (by omega) (by omega), if_pos (decide_eq_true hx), List.length_cons]
        congr 2
        omega
      · rw [if_pos (Int32.not_lt.mp hx), if_neg (by simp [hx])]
        rfl
theorem below_ok {w : MW} {h e : Nat} {L : List Nat} {fg : Int32} (H : HA w h e L fg) (S : SOK L) {fu : Nat} (hfu : 100 ≤ fu) (x : Int32) : f_X0_below fu w h x = some (nI (bel L x)) := by
  rw [f_X0_below, bnd_eq]
  have := below_loop H S fu x fu 0 (by omega) (by have := S.len; omega)
  rw [show (0 : Int32) = nI 0 from rfl, this]
  simp [bel]
