/-! THE READER: tokens -/
def isBl (c : Nat) : Bool := decide (c = 32) || decide (c = 10)
def isLt (c : Nat) : Bool := decide (97 ≤ c) && decide (c ≤ 122)
def isDg (c : Nat) : Bool := decide (48 ≤ c) && decide (c ≤ 57)
theorem isBl_i {c : Nat} : isBl c = true ↔ c = 32 ∨ c = 10 := by unfold isBl; simp
theorem isLt_i {c : Nat} : isLt c = true ↔ 97 ≤ c ∧ c ≤ 122 := by unfold isLt; simp
theorem isDg_i {c : Nat} : isDg c = true ↔ 48 ≤ c ∧ c ≤ 57 := by unfold isDg; simp
def runB (T : List Nat) (q : Nat → Bool) : Nat → Nat → Nat
  | 0, p => p
  | m + 1, p => if q (nth T p) = true then runB T q m (p + 1) else p
/-- where a run of bytes of a kind ends -/
def rB (T : List Nat) (q : Nat → Bool) (p : Nat) : Nat := runB T q (T.length - p) p
theorem rB_go {T : List Nat} {q : Nat → Bool} {p : Nat} (h : p < T.length) (hq : q (nth T p) = true) : rB T q p = rB T q (p + 1) := by
  unfold rB
  rw [show T.length - p = (T.length - (p + 1)) + 1 by omega, runB, if_pos hq]
theorem rB_no {T : List Nat} {q : Nat → Bool} {p : Nat} (h : p < T.length) (hq : ¬ q (nth T p) = true) : rB T q p = p := by
  unfold rB
  rw [show T.length - p = (T.length - (p + 1)) + 1 by omega, runB, if_neg hq]
theorem rB_end {T : List Nat} {q : Nat → Bool} {p : Nat} (h : T.length ≤ p) : rB T q p = p := by
  unfold rB
  rw [show T.length - p = 0 by omega, runB]
theorem runB_b {T : List Nat} {q : Nat → Bool} : ∀ m p, p ≤ runB T q m p ∧ runB T q m p ≤ p + m ∧ ∀ j, p ≤ j → j < runB T q m p → q (nth T j) = true := by
  intro m
  induction m with
  | zero => intro p; exact ⟨Nat.le_refl _, Nat.le_refl _, fun j h1 h2 => by rw [runB] at h2; omega⟩
  | succ m ih =>
    intro p
    rw [runB]
    by_cases c : q (nth T p) = true
    · rw [if_pos c]
      obtain ⟨a, b, d⟩ := ih (p + 1)
      refine ⟨by omega, by omega, fun j h1 h2 => ?_⟩
      by_cases e : j = p
      · rw [e]; exact c
      · exact d j (by omega) h2
    · rw [if_neg c]
      exact ⟨by omega, by omega, fun j h1 h2 => by omega⟩
theorem rB_b {T : List Nat} {q : Nat → Bool} {p : Nat} (h : p ≤ T.length) : p ≤ rB T q p ∧ rB T q p ≤ T.length ∧ ∀ j, p ≤ j → j < rB T q p → q (nth T j) = true := by
  obtain ⟨a, b, d⟩ := runB_b (T := T) (q := q) (T.length - p) p
  exact ⟨a, by unfold rB; omega, d⟩
/-- a numeral's worth -/
def nvR (T : List Nat) (st : Nat) : Nat → Nat
  | 0 => 0
  | j + 1 => nvR T st j * 10 + nth T (st + j) - 48
/-- a word's number -/
def hsR (T : List Nat) (st : Nat) : Nat → Nat
  | 0 => 0
  | j + 1 => 27 * hsR T st j + (nth T (st + j) - 96)
def tS (T : List Nat) (p : Nat) : Nat := rB T isBl p
def tE (T : List Nat) (st : Nat) : Nat := if T.length ≤ st then st else if isLt (nth T st) = true then rB T isLt st else if isDg (nth T st) = true then rB T isDg st else st + 1
def tK (T : List Nat) (st : Nat) : Int32 := if T.length ≤ st then 0 else if isLt (nth T st) = true then 2 else if isDg (nth T st) = true then (if tE T st - st ≤ 4 then 3 else 1) else if nth T st = 45 then 45 else if nth T st = 59 then 59 else 1
def tM (T : List Nat) (st : Nat) : Int32 := if T.length ≤ st then 0 else if isLt (nth T st) = true then 1 else if isDg (nth T st) = true then (if tE T st - st ≤ 4 then 2 else 4) else if nth T st = 59 then 3 else if nth T st = 45 then 3 else 4
theorem tE_b {T : List Nat} {st : Nat} (h : st ≤ T.length) : st ≤ tE T st ∧ tE T st ≤ T.length := by
  unfold tE
  split
  · omega
  · split
    · have := rB_b (q := isLt) h; omega
    · split
      · have := rB_b (q := isDg) h; omega
      · omega
/-! the class's reader -/
def sk (pos k st num fc fp : Int32) : MC := .inr (5, [.ref 85, .ref 1, .ref 90, .int pos, .int k, .int st, .int num, .int fc, .int fp])
def SK (w : MW) (T : List Nat) (pos k st num fc fp : Int32) : Prop := w[89]? = some (sk pos k st num fc fp) ∧ RW w 85 800 T
section Q
variable {w : MW} {T : List Nat} {pos k st num fc fp : Int32} {fu : Nat}
theorem SK.cl {α : Type} (h : SK w T pos k st num fc fp) (x : Option α) : cl w 5 89 x = x := cl_ob h.1 x
theorem SK.g (h : SK w T pos k st num fc fp) : gI w 5 89 3 = some pos ∧ gI w 5 89 4 = some k ∧ gI w 5 89 5 = some st ∧ gI w 5 89 6 = some num ∧ gI w 5 89 7 = some fc ∧ gI w 5 89 8 = some fp ∧ gR w 5 89 0 = some 85 ∧ gR w 5 89 1 = some 1 ∧ gR w 5 89 2 = some 90 := ⟨gI_ob h.1 rfl, gI_ob h.1 rfl, gI_ob h.1 rfl, gI_ob h.1 rfl, gI_ob h.1 rfl, gI_ob h.1 rfl, gR_ob h.1 rfl, gR_ob h.1 rfl, gR_ob h.1 rfl⟩
theorem SK.to (h : SK w T pos k st num fc fp) (pos' k' st' num' fc' fp' : Int32) : SK (w.set 89 (sk pos' k' st' num' fc' fp')) T pos' k' st' num' fc' fp' ∧ Chg [89] w (w.set 89 (sk pos' k' st' num' fc' fp')) := by
  have c := Chg.st (ks := [89]) w (a := 89) (sk pos' k' st' num' fc' fp') (by simp)
  exact ⟨⟨get_set_eq h.1, h.2.chg c (by simp) (by simp)⟩, c⟩
theorem SK.p3 (h : SK w T pos k st num fc fp) (x : Int32) : pV w 5 89 3 (.int x) = some (w.set 89 (sk x k st num fc fp)) := pV_ob h.1 (by simp)
theorem SK.p4 (h : SK w T pos k st num fc fp) (x : Int32) : pV w 5 89 4 (.int x) = some (w.set 89 (sk pos x st num fc fp)) := pV_ob h.1 (by simp)
theorem SK.p5 (h : SK w T pos k st num fc fp) (x : Int32) : pV w 5 89 5 (.int x) = some (w.set 89 (sk pos k x num fc fp)) := pV_ob h.1 (by simp)
theorem SK.p6 (h : SK w T pos k st num fc fp) (x : Int32) : pV w 5 89 6 (.int x) = some (w.set 89 (sk pos k st x fc fp)) := pV_ob h.1 (by simp)
theorem SK.p7 (h : SK w T pos k st num fc fp) (x : Int32) : pV w 5 89 7 (.int x) = some (w.set 89 (sk pos k st num x fp)) := pV_ob h.1 (by simp)
theorem SK.p8 (h : SK w T pos k st num fc fp) (x : Int32) : pV w 5 89 8 (.int x) = some (w.set 89 (sk pos k st num fc x)) := pV_ob h.1 (by simp)
theorem SK.sz (h : SK w T pos k st num fc fp) : gI w 4 85 1 = some (nI T.length) := gI_ob h.2.1 rfl
theorem sk_by (h : SK w T pos k st num fc fp) {j : Nat} (hj : j < T.length) : cl w 4 85 (f_X4_byteAt w 85 (nI j)) = some (nI (nth T j)) := by
  rw [h.2.cl, rbyte_in h.2 (by omega) hj]
theorem SK.lt (h : SK w T pos k st num fc fp) {j : Nat} (hj : j < T.length) : nth T j < 256 := h.2.2.2.1 _ (nth_mem hj)
theorem cBl {c : Nat} (hc : c < 256) : f_X5_isBlank (nI c) = if isBl c = true then 1 else 0 := by
  unfold f_X5_isBlank
  by_cases c1 : c = 32
  · subst c1; rfl
  · rw [if_neg (show ¬ nI c = (32 : Int32) from fun e => c1 ((nI_eq (b := 32) (by omega) (by omega)).mp e))]
    by_cases c2 : c = 10
    · subst c2; rfl
    · rw [if_neg (show ¬ nI c = (10 : Int32) from fun e => c2 ((nI_eq (b := 10) (by omega) (by omega)).mp e)), if_neg (by rw [isBl_i]; omega)]
theorem inR {c a b : Nat} (hc : c < 256) (ha : a < 256) (hb : b < 256) : (if nI c < nI a then (0 : Int32) else if nI b < nI c then 0 else 1) = if a ≤ c ∧ c ≤ b then 1 else 0 := by
  by_cases c1 : c < a
  · rw [if_pos (nI_lt c1 (by omega)), if_neg (by omega)]
  · rw [if_neg (nI_nlt (by omega) (by omega))]
    by_cases c2 : b < c
    · rw [if_pos (nI_lt c2 (by omega)), if_neg (by omega)]
    · rw [if_neg (nI_nlt (by omega) (by omega)), if_pos (by omega)]
theorem cLt {c : Nat} (hc : c < 256) : f_X5_isLetter (nI c) = if isLt c = true then 1 else 0 := by
  simp only [isLt_i]
  exact inR (a := 97) (b := 122) hc (by omega) (by omega)
theorem cDg {c : Nat} (hc : c < 256) : f_X5_isDigit (nI c) = if isDg c = true then 1 else 0 := by
  simp only [isDg_i]
  exact inR (a := 48) (b := 57) hc (by omega) (by omega)
theorem c_blank : ∀ N p w, SK w T (nI p) k st num fc fp → p ≤ T.length → T.length - p < N → ∃ w', f_X5_advance_0 fu N w 89 = f_X5_advance_44 fu w' 89 ∧ SK w' T (nI (tS T p)) k st num fc fp ∧ Chg [89] w w' := by
  intro N
  induction N with
  | zero => intro p w _ _ h; omega
  | succ N ih =>
    intro p w h hp hN
    have hl := h.2.2.1
    obtain ⟨g3, g4, g5, g6, g7, g8, r0, r1, r2⟩ := h.g
    rw [f_X5_advance_0, g3, some_bind', r0, some_bind', h.sz, some_bind']
    by_cases c : T.length ≤ p
    · rw [if_pos (nI_le c (by omega))]
      exact ⟨w, rfl, by unfold tS; rw [rB_end c]; exact h, Chg.rf _ _⟩
    · rw [if_neg (nI_ge (by omega) (by omega)), some_bind', some_bind', sk_by h (j := p) (by omega), some_bind', cBl (h.lt (j := p) (by omega))]
      by_cases c2 : isBl (nth T p) = true
      · rw [if_pos c2, if_neg (by decide), some_bind', nI_1, h.p3, some_bind']
        obtain ⟨h', c'⟩ := h.to (nI (p + 1)) k st num fc fp
        obtain ⟨w', e1, e2, e3⟩ := ih (p + 1) _ h' (by omega) (by omega)
        exact ⟨w', e1, by unfold tS at e2 ⊢; rw [rB_go (by omega) c2]; exact e2, c'.tr e3⟩
      · rw [if_neg c2, if_pos rfl]
        exact ⟨w, rfl, by unfold tS; rw [rB_no (by omega) c2]; exact h, Chg.rf _ _⟩
theorem c_word : ∀ N p w, SK w T (nI p) k st num fc fp → p ≤ T.length → T.length - p < N → ∃ w', f_X5_readWord_5 fu N w 89 = some w' ∧ SK w' T (nI (rB T isLt p)) k st num fc fp ∧ Chg [89] w w' := by
  intro N
  induction N with
  | zero => intro p w _ _ h; omega
  | succ N ih =>
    intro p w h hp hN
    have hl := h.2.2.1
    obtain ⟨g3, g4, g5, g6, g7, g8, r0, r1, r2⟩ := h.g
    rw [f_X5_readWord_5, g3, some_bind', r0, some_bind', h.sz, some_bind']
    by_cases c : T.length ≤ p
    · rw [if_pos (nI_le c (by omega))]
      exact ⟨w, rfl, by rw [rB_end c]; exact h, Chg.rf _ _⟩
    · rw [if_neg (nI_ge (by omega) (by omega)), some_bind', some_bind', sk_by h (j := p) (by omega), some_bind', cLt (h.lt (j := p) (by omega))]
      by_cases c2 : isLt (nth T p) = true
      · rw [if_pos c2, if_neg (by decide), some_bind', nI_1, h.p3, some_bind']
        obtain ⟨h', c'⟩ := h.to (nI (p + 1)) k st num fc fp
        obtain ⟨w', e1, e2, e3⟩ := ih (p + 1) _ h' (by omega) (by omega)
        exact ⟨w', e1, by rw [rB_go (by omega) c2]; exact e2, c'.tr e3⟩
      · rw [if_neg c2, if_pos rfl]
        exact ⟨w, rfl, by rw [rB_no (by omega) c2]; exact h, Chg.rf _ _⟩
theorem c_num {z : Nat} : ∀ N p w, SK w T (nI p) k st (nI (nvR T z (p - z))) fc fp → z ≤ p → p ≤ T.length → T.length - p < N → ∃ w', f_X5_readNumber_5 fu N w 89 = f_X5_readNumber_75 fu w' 89 ∧ SK w' T (nI (rB T isDg p)) k st (nI (nvR T z (rB T isDg p - z))) fc fp ∧ Chg [89] w w' := by
  intro N
  induction N with
  | zero => intro p w _ _ _ h; omega
  | succ N ih =>
    intro p w h hz hp hN
    have hl := h.2.2.1
    obtain ⟨g3, g4, g5, g6, g7, g8, r0, r1, r2⟩ := h.g
    rw [f_X5_readNumber_5, g3, some_bind', r0, some_bind', h.sz, some_bind']
    by_cases c : T.length ≤ p
    · rw [if_pos (nI_le c (by omega))]
      exact ⟨w, rfl, by rw [rB_end c]; exact h, Chg.rf _ _⟩
    · rw [if_neg (nI_ge (by omega) (by omega)), some_bind', some_bind', sk_by h (j := p) (by omega), some_bind', cDg (h.lt (j := p) (by omega))]
      by_cases c2 : isDg (nth T p) = true
      · have c3 := isDg_i.mp c2
        have e : nvR T z (p + 1 - z) = nvR T z (p - z) * 10 + nth T p - 48 := by
          rw [show p + 1 - z = (p - z) + 1 by omega, nvR, show z + (p - z) = p by omega]
        rw [if_pos c2, if_neg (by decide), g6, some_bind', some_bind', some_bind', sk_by h (j := p) (by omega), some_bind', show (10 : Int32) = nI 10 from rfl, nI_mul, nI_add, show (48 : Int32) = nI 48 from rfl, nI_sub (by omega), ← e, h.p6, some_bind']
        obtain ⟨h1, c1⟩ := h.to (nI p) k st (nI (nvR T z (p + 1 - z))) fc fp
        rw [h1.g.1, some_bind', nI_1, h1.p3, some_bind']
        obtain ⟨h', c'⟩ := h1.to (nI (p + 1)) k st (nI (nvR T z (p + 1 - z))) fc fp
        obtain ⟨w', e1, e2, e3⟩ := ih (p + 1) _ h' (by omega) (by omega) (by omega)
        exact ⟨w', e1, by rw [rB_go (by omega) c2]; exact e2, (c1.tr c').tr e3⟩
      · rw [if_neg c2, if_pos rfl]
        exact ⟨w, rfl, by rw [rB_no (by omega) c2]; exact h, Chg.rf _ _⟩
theorem tS_b {p : Nat} (h : p ≤ T.length) : p ≤ tS T p ∧ tS T p ≤ T.length := by
  have := rB_b (q := isBl) h
  exact ⟨this.1, this.2.1⟩
theorem advance_ok (hfu : 1000 ≤ fu) {p : Nat} (h : SK w T (nI p) k st num fc fp) (hp : p ≤ T.length) : ∃ w' num', f_X5_advance fu w 89 = some w' ∧ SK w' T (nI (tE T (tS T p))) (tK T (tS T p)) (nI (tS T p)) num' fc fp ∧ (tK T (tS T p) = 3 → num' = nI (nvR T (tS T p) (tE T (tS T p) - tS T p))) ∧ Chg [89] w w' := by
  have hl := h.2.2.1
  obtain ⟨w1, a1, a2, a3⟩ := c_blank (fu := fu) fu p w h hp (by omega)
  rw [f_X5_advance, a1]
  have hb := tS_b hp
  generalize tS T p = z at *
  obtain ⟨b1, b2⟩ := a2.to (nI z) k (nI z) num fc fp
  rw [f_X5_advance_44, a2.g.1, some_bind', a2.p5, some_bind', b1.g.2.2.2.2.2.2.1, some_bind', b1.g.1, some_bind', b1.2.cl]
  by_cases c0 : T.length ≤ z
  · obtain ⟨d1, d2⟩ := b1.to (nI z) 0 (nI z) num fc fp
    rw [rbyte_out b1.2 (by omega) c0 (by omega), some_bind', bnd_eq, if_pos rfl, b1.p4, some_bind']
    have e1 : tE T z = z := by unfold tE; rw [if_pos c0]
    have e2 : tK T z = 0 := by unfold tK; rw [if_pos c0]
    rw [e1, e2]
    exact ⟨_, num, rfl, d1, fun q => absurd q (by decide), (a3.tr b2).tr d2⟩
  · have hc := a2.lt (j := z) (by omega)
    rw [rbyte_in b1.2 (by omega) (by omega), some_bind', bnd_eq, if_neg (m1_ne _ (by omega)), cLt hc]
    by_cases c1 : isLt (nth T z) = true
    · have e1 : tE T z = rB T isLt z := by unfold tE; rw [if_neg c0, if_pos c1]
      have e2 : tK T z = 2 := by unfold tK; rw [if_neg c0, if_pos c1]
      obtain ⟨d1, d2⟩ := b1.to (nI z) 2 (nI z) num fc fp
      obtain ⟨w2, f1, f2, f3⟩ := c_word (fu := fu) fu z _ d1 (by omega) (by omega)
      rw [if_pos c1, if_neg (by decide), b1.cl, f_X5_readWord, b1.p4, some_bind', f1, some_bind', e1, e2]
      exact ⟨w2, num, rfl, f2, fun q => absurd q (by decide), ((a3.tr b2).tr d2).tr f3⟩
    · rw [if_neg c1, if_pos rfl, cDg hc]
      by_cases c2 : isDg (nth T z) = true
      · have e1 : tE T z = rB T isDg z := by unfold tE; rw [if_neg c0, if_neg c1, if_pos c2]
        have e2 : tK T z = if tE T z - z ≤ 4 then 3 else 1 := by unfold tK; rw [if_neg c0, if_neg c1, if_pos c2]
        obtain ⟨d1, d2⟩ := b1.to (nI z) k (nI z) 0 fc fp
        obtain ⟨w2, f1, f2, f3⟩ := c_num (fu := fu) (z := z) fu z _ (by rw [Nat.sub_self]; exact d1) (by omega) (by omega) (by omega)
        have hb3 := tE_b (T := T) (st := z) (by omega)
        rw [e2, e1] at *
        rw [if_pos c2, if_neg (by decide), b1.cl, f_X5_readNumber, b1.p6, some_bind', f1, f_X5_readNumber_75, f2.g.1, some_bind', f2.g.2.2.1, some_bind', nI_sub (by omega)]
        by_cases c3 : rB T isDg z - z ≤ 4
        · obtain ⟨d3, d4⟩ := f2.to (nI (rB T isDg z)) 3 (nI z) (nI (nvR T z (rB T isDg z - z))) fc fp
          rw [if_pos (show nI (rB T isDg z - z) ≤ (4 : Int32) from nI_le (b := 4) c3 (by omega)), if_pos c3, f_X5_readNumber_94, f2.p4, some_bind', some_bind']
          exact ⟨_, _, rfl, d3, fun _ => rfl, (((a3.tr b2).tr d2).tr f3).tr d4⟩
        · obtain ⟨d3, d4⟩ := f2.to (nI (rB T isDg z)) 1 (nI z) (nI (nvR T z (rB T isDg z - z))) fc fp
          rw [if_neg (show ¬ nI (rB T isDg z - z) ≤ (4 : Int32) from nI_ge (a := 4) (by omega) (by omega)), if_neg c3, f_X5_readNumber_94, f2.p4, some_bind', some_bind']
          exact ⟨_, _, rfl, d3, fun _ => rfl, (((a3.tr b2).tr d2).tr f3).tr d4⟩
      · have e1 : tE T z = z + 1 := by unfold tE; rw [if_neg c0, if_neg c1, if_neg c2]
        have fin : ∀ x : Int32, ¬ x = 3 → tK T z = x → ∃ w' num', f_X5_advance_123 fu (w1.set 89 (sk (nI z) k (nI z) num fc fp)) 89 89 x = some w' ∧ SK w' T (nI (tE T z)) (tK T z) (nI z) num' fc fp ∧ (tK T z = 3 → num' = nI (nvR T z (tE T z - z))) ∧ Chg [89] w w' := by
          intro x hx hk
          obtain ⟨d1, d2⟩ := b1.to (nI z) x (nI z) num fc fp
          obtain ⟨d3, d4⟩ := d1.to (nI (z + 1)) x (nI z) num fc fp
          rw [f_X5_advance_123, b1.p4, some_bind', d1.g.1, some_bind', nI_1, d1.p3, some_bind', hk, e1]
          exact ⟨_, num, rfl, d3, fun q => absurd q hx, ((a3.tr b2).tr d2).tr d4⟩
        rw [if_neg c2, if_pos rfl]
        by_cases c3 : nth T z = 45
        · rw [c3, if_pos (show nI 45 = (45 : Int32) from rfl)]
          exact fin (nI 45) (by decide) (by unfold tK; rw [if_neg c0, if_neg c1, if_neg c2, if_pos c3]; rfl)
        · rw [if_neg (show ¬ nI (nth T z) = (45 : Int32) from fun e => c3 ((nI_eq (b := 45) (by omega) (by omega)).mp e))]
          by_cases c4 : nth T z = 59
          · rw [c4, if_pos (show nI 59 = (59 : Int32) from rfl)]
            exact fin (nI 59) (by decide) (by unfold tK; rw [if_neg c0, if_neg c1, if_neg c2, if_neg c3, if_pos c4]; rfl)
          · rw [if_neg (show ¬ nI (nth T z) = (59 : Int32) from fun e => c4 ((nI_eq (b := 59) (by omega) (by omega)).mp e))]
            exact fin 1 (by decide) (by unfold tK; rw [if_neg c0, if_neg c1, if_neg c2, if_neg c3, if_neg c4])
end Q
