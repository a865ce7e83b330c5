/-! THE READER: words -/
def wLL : List (List Nat) := [[115, 101, 116], [109, 97, 114, 107], [99, 117, 116], [106, 111, 105, 110], [109, 101, 108, 116], [115, 104, 105, 102, 116], [109, 111, 118, 101], [115], [115, 107, 107], [115, 107, 115], [115, 98], [115, 107, 107, 115], [115, 115]]
def wL (k : Nat) : List Nat := wLL.getD k []
def wH (k : Nat) : Nat := hsR (wL k) 0 (wL k).length
theorem wL_len : ∀ k, k < 13 → stL (10000 + k) = some (nI (wL k).length) ∧ (wL k).length ≤ 5 ∧ 1 ≤ (wL k).length := by decide
theorem wL_by5 : ∀ k, k < 13 → ∀ j, j < 5 → j < (wL k).length → stC (10000 + k) (nI j) = some (nI (nth (wL k) j)) := by decide +kernel
theorem wL_by {k j : Nat} (hk : k < 13) (hj : j < (wL k).length) : stC (10000 + k) (nI j) = some (nI (nth (wL k) j)) := wL_by5 k hk j (by have := wL_len k hk; omega) hj
theorem wL_let5 : ∀ k, k < 13 → ∀ j, j < 5 → j < (wL k).length → 97 ≤ nth (wL k) j ∧ nth (wL k) j ≤ 122 := by decide
theorem wL_let {k j : Nat} (hk : k < 13) (hj : j < (wL k).length) : 97 ≤ nth (wL k) j ∧ nth (wL k) j ≤ 122 := wL_let5 k hk j (by have := wL_len k hk; omega) hj
def eqF (T : List Nat) (z : Nat) (W : List Nat) : Nat → Nat → Bool
  | 0, _ => true
  | m + 1, j => decide (nth T (z + j) = nth W j) && eqF T z W m (j + 1)
theorem eqF_i {T : List Nat} {z : Nat} {W : List Nat} : ∀ m j, eqF T z W m j = true ↔ ∀ i, j ≤ i → i < j + m → nth T (z + i) = nth W i := by
  intro m
  induction m with
  | zero => intro j; rw [eqF]; simp; intro i h1 h2; omega
  | succ m ih =>
    intro j
    rw [eqF, Bool.and_eq_true, decide_eq_true_iff, ih (j + 1)]
    constructor
    · rintro ⟨a, b⟩ i h1 h2
      by_cases e : i = j
      · rw [e]; exact a
      · exact b i (by omega) (by omega)
    · intro a
      exact ⟨a j (by omega) (by omega), fun i h1 h2 => a i (by omega) (by omega)⟩
/-- the bytes from z to e are the k-th word -/
def spl (T : List Nat) (z e k : Nat) : Bool := decide (e - z = (wL k).length) && eqF T z (wL k) (wL k).length 0
theorem zr_b (x : Int32) (h : x = 0 ∨ x = 1) : zr .boolean x = some x := by
  rcases h with rfl | rfl <;> decide
section Q
variable {w : MW} {T : List Nat} {pos kk num fc fp : Int32} {fu : Nat}
theorem spells_0 {k : Nat} (hk : k < 13) {j N : Nat} (hj : j < 2 ^ 31) : f_X5_spells_24 fu w (N + 1) 89 (10000 + k) 0 (nI j) = some 0 := by
  rw [f_X5_spells_24, (wL_len k hk).1, some_bind', if_pos rfl, zr_b 0 (Or.inl rfl), some_bind']
  split <;> rfl
theorem spells_1 {k z : Nat} (hk : k < 13) (h : SK w T pos kk (nI z) num fc fp) (hz : z + (wL k).length ≤ T.length) : ∀ m j N, (wL k).length = j + m → m + 1 < N → f_X5_spells_24 fu w N 89 (10000 + k) 1 (nI j) = some (if eqF T z (wL k) m j = true then 1 else 0) := by
  have hl := h.2.2.1
  obtain ⟨w1, w2, w3⟩ := wL_len k hk
  obtain ⟨g3, g4, g5, g6, g7, g8, r0, r1, r2⟩ := h.g
  intro m
  induction m with
  | zero =>
    intro j N hj hN
    obtain ⟨N, rfl⟩ : ∃ q, N = q + 1 := ⟨N - 1, by omega⟩
    rw [f_X5_spells_24, w1, some_bind', if_pos (nI_le (by omega) (by omega)), zr_b 1 (Or.inr rfl), some_bind', eqF, if_pos rfl]
  | succ m ih =>
    intro j N hj hN
    obtain ⟨N, rfl⟩ : ∃ q, N = q + 1 := ⟨N - 1, by omega⟩
    have hj2 : j < (wL k).length := by omega
    have b1 := h.lt (j := z + j) (by omega)
    have b2 := wL_let hk hj2
    rw [f_X5_spells_24, w1, some_bind', if_neg (nI_ge hj2 (by omega)), if_neg (by decide), r0, some_bind', g5, some_bind', nI_add, sk_by h (j := z + j) (by omega), some_bind', wL_by hk hj2, some_bind', eqF]
    by_cases c : nth T (z + j) = nth (wL k) j
    · rw [c, if_pos rfl, f_X5_spells_62, bnd_eq, bnd_eq, nI_1, ih (j + 1) N (by omega) (by omega)]
      simp
    · rw [if_neg (show ¬ nI _ = nI _ from fun e => c ((nI_eq (by omega) (by omega)).mp e)), f_X5_spells_62, bnd_eq, bnd_eq, nI_1]
      obtain ⟨N, rfl⟩ : ∃ q, N = q + 1 := ⟨N - 1, by omega⟩
      rw [spells_0 hk (by omega)]
      simp [c]
theorem spells_ok (hfu : 100 ≤ fu) {k z e : Nat} (hk : k < 13) (h : SK w T (nI e) kk (nI z) num fc fp) (h1 : z ≤ e) (h2 : e ≤ T.length) : f_X5_spells fu w 89 (10000 + k) = some (if spl T z e k = true then 1 else 0) := by
  have hl := h.2.2.1
  obtain ⟨w1, w2, w3⟩ := wL_len k hk
  obtain ⟨g3, g4, g5, g6, g7, g8, r0, r1, r2⟩ := h.g
  rw [f_X5_spells, g3, some_bind', g5, some_bind', w1, some_bind', nI_sub h1]
  unfold spl
  by_cases c : e - z = (wL k).length
  · rw [c, if_pos rfl, bnd_eq, bnd_eq]
    have := spells_1 (fu := fu) hk h (by omega) (wL k).length 0 fu (by omega) (by omega)
    have t2 : f_X5_spells_24 fu w fu 89 (10000 + k) 1 0 = some (if eqF T z (wL k) (wL k).length 0 = true then 1 else 0) := this
    rw [t2]
    simp
  · rw [if_neg (show ¬ nI _ = nI _ from fun q => c ((nI_eq (by omega) (by omega)).mp q)), bnd_eq, bnd_eq]
    obtain ⟨N, hN⟩ : ∃ q, fu = q + 1 := ⟨fu - 1, by omega⟩
    have := spells_0 (fu := fu) (w := w) (N := N) hk (j := 0) (by omega)
    rw [← hN] at this
    rw [show (0 : Int32) = nI 0 from rfl, show nI 0 = (0 : Int32) from rfl] at *
    have t2 : f_X5_spells_24 fu w fu 89 (10000 + k) 0 0 = some 0 := this
    rw [t2]
    simp [c]
/-- the word that stands there -/
def wI (T : List Nat) (z e : Nat) : Int32 := if spl T z e 0 = true then 0 else if spl T z e 1 = true then 1 else if spl T z e 2 = true then 2 else if spl T z e 3 = true then 3 else if spl T z e 4 = true then 4 else if spl T z e 5 = true then 5 else if spl T z e 6 = true then 6 else -1
theorem lineHere_ok (hfu : 100 ≤ fu) {z e : Nat} (h : SK w T (nI e) kk (nI z) num fc fp) (h1 : z ≤ e) (h2 : e ≤ T.length) : f_X5_lineHere fu w 89 = some (wI T z e) := by
  have st : ∀ k, k < 13 → cl w 5 89 (f_X5_spells fu w 89 (10000 + k)) = some (if spl T z e k = true then 1 else 0) := fun k hk => by rw [h.cl, spells_ok hfu hk h h1 h2]
  have sp : ∀ (b : Bool) (x y : Option Int32), (some (if b = true then (1 : Int32) else 0)).bind (fun q => if q = 0 then x else y) = if b = true then y else x := by
    intro b x y
    cases b <;> rfl
  unfold f_X5_lineHere wI
  rw [st 0 (by omega), sp, st 1 (by omega), sp, st 2 (by omega), sp, st 3 (by omega), sp, st 4 (by omega), sp, st 5 (by omega), sp, st 6 (by omega), sp]
  cases spl T z e 0 <;> cases spl T z e 1 <;> cases spl T z e 2 <;> cases spl T z e 3 <;> cases spl T z e 4 <;> cases spl T z e 5 <;> cases spl T z e 6 <;> rfl
end Q
/-! words and their numbers -/
theorem hsR_inj {T : List Nat} {z : Nat} {W : List Nat} {y : Nat} : ∀ n m, (∀ j, j < n → 97 ≤ nth T (z + j) ∧ nth T (z + j) ≤ 122) → (∀ j, j < m → 97 ≤ nth W (y + j) ∧ nth W (y + j) ≤ 122) → hsR T z n = hsR W y m → n = m ∧ ∀ j, j < n → nth T (z + j) = nth W (y + j) := by
  intro n
  induction n with
  | zero =>
    intro m _ hW h
    cases m with
    | zero => exact ⟨rfl, fun j hj => by omega⟩
    | succ m =>
      have := hW m (by omega)
      rw [hsR, hsR] at h
      omega
  | succ n ih =>
    intro m hT hW h
    cases m with
    | zero =>
      have := hT n (by omega)
      rw [hsR, hsR] at h
      omega
    | succ m =>
      have a := hT n (by omega)
      have b := hW m (by omega)
      rw [hsR, hsR] at h
      obtain ⟨e1, e2⟩ := ih m (fun j hj => hT j (by omega)) (fun j hj => hW j (by omega)) (by omega)
      subst e1
      refine ⟨rfl, fun j hj => ?_⟩
      by_cases c : j = n
      · subst c; omega
      · exact e2 j (by omega)
theorem hsR_lt {T : List Nat} {z : Nat} : ∀ n, (∀ j, j < n → nth T (z + j) ≤ 122) → hsR T z n < 27 ^ n := by
  intro n
  induction n with
  | zero => intro _; rw [hsR]; simp
  | succ n ih =>
    intro h
    have a := ih (fun j hj => h j (by omega))
    have b := h n (by omega)
    rw [hsR, Nat.pow_succ]
    omega
theorem hsR_eq {T : List Nat} {z : Nat} {W : List Nat} {y : Nat} : ∀ n, (∀ j, j < n → nth T (z + j) = nth W (y + j)) → hsR T z n = hsR W y n := by
  intro n
  induction n with
  | zero => intro _; rfl
  | succ n ih =>
    intro h
    rw [hsR, hsR, ih (fun j hj => h j (by omega)), h n (by omega)]
theorem word_iff {T : List Nat} {z e k : Nat} (hk : k < 7) (h1 : z ≤ e) (hT : ∀ j, z ≤ j → j < e → isLt (nth T j) = true) : hV T z (e - z) = lN (wH k) ↔ spl T z e k = true := by
  have w2 := wL_len k (by omega)
  have hT' : ∀ j, j < e - z → 97 ≤ nth T (z + j) ∧ nth T (z + j) ≤ 122 := fun j hj => isLt_i.mp (hT (z + j) (by omega) (by omega))
  have hW : ∀ j, j < (wL k).length → 97 ≤ nth (wL k) (0 + j) ∧ nth (wL k) (0 + j) ≤ 122 := fun j hj => by rw [Nat.zero_add]; exact wL_let (by omega) hj
  have hH : wH k < 27 ^ 9 := Nat.lt_of_lt_of_le (hsR_lt _ (fun j hj => (hW j hj).2)) (Nat.pow_le_pow_right (by omega) (by omega))
  have h27 : (27 : Nat) ^ 9 < 2 ^ 63 := by decide
  unfold spl
  rw [Bool.and_eq_true, decide_eq_true_iff, eqF_i]
  unfold hV
  by_cases c : e - z ≤ 9
  · have hX : hsR T z (e - z) < 27 ^ 9 := Nat.lt_of_lt_of_le (hsR_lt _ (fun j hj => (hT' j hj).2)) (Nat.pow_le_pow_right (by omega) c)
    rw [if_pos c, ← Int64.toInt_inj, show (lN (hsR T z (e - z))).toInt = _ from lg_ofNat_toInt (by omega), show (lN (wH k)).toInt = _ from lg_ofNat_toInt (by omega)]
    constructor
    · intro q
      obtain ⟨a, b⟩ := hsR_inj (e - z) (wL k).length hT' hW (by unfold wH at q; omega)
      exact ⟨a, fun i _ hi => by have := b i (by omega); rw [Nat.zero_add] at this; exact this⟩
    · rintro ⟨a, b⟩
      rw [a]
      unfold wH
      rw [hsR_eq (W := wL k) (y := 0) _ (fun j hj => by rw [Nat.zero_add]; exact b j (by omega) (by omega))]
  · rw [if_neg c]
    constructor
    · intro q
      have q2 := congrArg Int64.toInt q
      rw [show (lN (wH k)).toInt = _ from lg_ofNat_toInt (by omega)] at q2
      have q3 : ((-1 : Int64)).toInt = -1 := by decide
      omega
    · rintro ⟨a, b⟩
      omega
theorem wH_v : lN (wH 0) = 14006 ∧ lN (wH 1) = 257105 ∧ lN (wH 2) = 2774 ∧ lN (wH 3) = 208022 ∧ lN (wH 4) = 259868 ∧ lN (wH 5) = 10261586 ∧ lN (wH 6) = 267413 := by decide +kernel
