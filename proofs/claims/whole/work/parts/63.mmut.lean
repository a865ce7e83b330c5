theorem nI_m1 {k : Nat} (h : 0 < k) : nI k + -1 = nI (k - 1) := by
  rw [show (-1 : Int32) = -(nI 1) from rfl, ← Int32.sub_eq_add_neg, nI_sub h]
theorem nI_m1' {k : Nat} (h : 0 < k) : nI k + -nI 1 = nI (k - 1) := nI_m1 h
def putF (al : Nat → Int32) (o a : Nat) (key mark : Int32) : Nat → Int32 := upd (upd (upd (upd al (o + 2 + a) key) (o + 62 + a) mark) o (al o + 1)) (o + 1) (-1)
theorem mputs_loop {C : MW} (hC : C.length = 123) {F : Nat → Int32} {v : Int64} {b s : Nat} (hb : F 9 = nI b) (hb2 : b ≤ 976) (hs : s < 8) (fu a : Nat) (key mark : Int32) : ∀ n k ar, a ≤ k → k < 60 → k - a < n → f_X11_puts_26 fu n (mW C F v ar) 123 (nI s) key mark (nI a) (nI (b + 122 * s)) (nI k) = some (mW C F v (ua ar 0 (putF (shU (ar 0) (b + 122 * s) a k) (b + 122 * s) a key mark))) := by
  intro n
  induction n with
  | zero => intro k ar _ _ hn; omega
  | succ n ih =>
    intro k ar ha hk hn
    rw [f_X11_puts_26]
    by_cases hlt : k ≤ a
    · have hka : k = a := by omega
      subst hka
      have e1 : shU (ar 0) (b + 122 * s) k k = ar 0 := by
        funext q; unfold shU; rw [if_neg (by omega), if_neg (by omega)]
      rw [if_pos (nI_le (Nat.le_refl _) (by omega)), m_gR hC F v ar 0 rfl, some_bind', show (2 : Int32) = nI 2 from rfl, nI_add, nI_add, m_s0 hC F v ar _ (by omega), some_bind', m_gR hC F v _ 0 rfl, some_bind', show (62 : Int32) = nI 62 from rfl, nI_add, nI_add, m_s0 hC F v _ _ (by omega), some_bind', m_gR hC F v _ 0 rfl, some_bind', m_a0 hC F v _ (by omega), some_bind', m_s0 hC F v _ _ (by omega), some_bind', m_cl hC, mpoints_ok hC hb hb2 hs, some_bind', e1]
      simp only [ua_eq, ua_ua]
      congr 3
      unfold putF
      rw [upd_ne _ _ (by omega), upd_ne _ _ (by omega)]
    · rw [if_neg (nI_ge (by omega) (by omega)), m_gR hC F v ar 0 rfl, some_bind', some_bind', show (2 : Int32) = nI 2 from rfl, nI_add, nI_add, show (1 : Int32) = nI 1 from rfl, nI_sub (by omega), m_a0 hC F v ar (by omega), some_bind', m_s0 hC F v ar _ (by omega), some_bind', m_gR hC F v _ 0 rfl, some_bind', some_bind', show (62 : Int32) = nI 62 from rfl, nI_add, nI_add, nI_sub (by omega), m_a0 hC F v _ (by omega), some_bind', m_s0 hC F v _ _ (by omega), some_bind', bnd_eq, nI_m1' (by omega), ih (k - 1) _ (by omega) (by omega) (by omega)]
      simp only [ua_eq, ua_ua]
      rw [shU_step _ _ _ _ (by omega) hk]
theorem MA_put {al : Nat → Int32} {o a m k : Nat} {L : List Nat} {fg : Int32} (M : MA al o L fg) (ha : a ≤ L.length) (hl : L.length < 60) (hm : m ≤ 1) : MA (putF (shU al o a L.length) o a (nI k) (nI m)) o (insAt L a [2 * k + m]) (-1) := by
  have hlen : (insAt L a [2 * k + m]).length = L.length + 1 := insAt_len ha
  refine ⟨?_, ?_, fun j hj => ?_⟩
  · unfold putF
    rw [upd_ne _ _ (by omega), upd_eq, hlen]
    unfold shU
    rw [if_neg (by omega), if_neg (by omega), M.1, nI_1]
  · unfold putF
    rw [upd_eq]
  · rw [hlen] at hj
    have h1 : ([2 * k + m] : List Nat).length = 1 := rfl
    rw [nth_insAt ha, h1]
    unfold putF
    by_cases c1 : j < a
    · rw [if_pos c1, upd_ne _ _ (by omega), upd_ne _ _ (by omega), upd_ne _ _ (by omega), upd_ne _ _ (by omega), upd_ne _ _ (by omega), upd_ne _ _ (by omega), upd_ne _ _ (by omega), upd_ne _ _ (by omega)]
      unfold shU
      rw [if_neg (by omega), if_neg (by omega), if_neg (by omega), if_neg (by omega)]
      exact M.2.2 j (by omega)
    · rw [if_neg c1]
      by_cases c2 : j = a
      · subst c2
        rw [if_pos (by omega), upd_ne _ _ (by omega), upd_ne _ _ (by omega), upd_ne _ _ (by omega), upd_eq, upd_ne _ _ (by omega), upd_ne _ _ (by omega), upd_eq]
        have e1 : nth [2 * k + m] (j - j) = 2 * k + m := by rw [Nat.sub_self]; rfl
        rw [e1]
        exact ⟨by congr 1; omega, by congr 1; omega⟩
      · rw [if_neg (by omega), upd_ne _ _ (by omega), upd_ne _ _ (by omega), upd_ne _ _ (by omega), upd_ne _ _ (by omega), upd_ne _ _ (by omega), upd_ne _ _ (by omega), upd_ne _ _ (by omega), upd_ne _ _ (by omega)]
        unfold shU
        rw [if_pos (by omega), if_neg (by omega), if_pos (by omega), show o + 2 + j - 1 = o + 2 + (j - 1) by omega, show o + 62 + j - 1 = o + 62 + (j - 1) by omega]
        exact M.2.2 (j - 1) (by omega)
theorem putF_out {al : Nat → Int32} {o a n q : Nat} {key mark : Int32} (ha : a < 60) (hn : n < 60) (hq : q < o ∨ o + 122 ≤ q) : putF (shU al o a n) o a key mark q = al q := by
  unfold putF
  rw [upd_ne _ _ (by omega), upd_ne _ _ (by omega), upd_ne _ _ (by omega), upd_ne _ _ (by omega)]
  unfold shU
  rw [if_neg (by omega), if_neg (by omega)]
theorem mputs_ok {C : MW} (hC : C.length = 123) {F : Nat → Int32} {v : Int64} {ar : Nat → Nat → Int32} {b s : Nat} (hb : F 9 = nI b) (hb2 : b ≤ 976) (hs : s < 8) {L : List Nat} {fg : Int32} (M : MA (ar 0) (b + 122 * s) L fg) (S : SOK L) {fu : Nat} (hfu : 100 ≤ fu) (hl : L.length < 60) {k m : Nat} (hm : m ≤ 1) : ∃ al, f_X11_puts fu (mW C F v ar) 123 (nI s) (nI k) (nI m) = some (mW C F v (ua ar 0 al)) ∧ MA al (b + 122 * s) (insAt L (bel L (nI k)) [2 * k + m]) (-1) ∧ ∀ q, q < b + 122 * s ∨ b + 122 * s + 122 ≤ q → al q = ar 0 q := by
  have h1 := bel_le L (nI k)
  refine ⟨putF (shU (ar 0) (b + 122 * s) (bel L (nI k)) L.length) (b + 122 * s) (bel L (nI k)) (nI k) (nI m), ?_, MA_put M h1 hl hm, fun q hq => putF_out (by omega) (by omega) hq⟩
  rw [f_X11_puts, m_cl hC, mbelow_ok hC hb hb2 hs M S hfu, some_bind', bnd_eq, m_gI hC F v ar 9 rfl, some_bind', hb, mo, bnd_eq, m_cl hC, many_ok hC hb hb2 hs M, some_bind', bnd_eq, mputs_loop hC hb hb2 hs fu _ _ _ fu _ ar h1 (by omega) (by omega)]
def drpF (al : Nat → Int32) (o a n : Nat) : Nat → Int32 := upd (upd (shD al o a n) o (nI (n - 1))) (o + 1) (-1)
theorem mdrops_loop {C : MW} (hC : C.length = 123) {F : Nat → Int32} {v : Int64} {b s : Nat} (hb : F 9 = nI b) (hb2 : b ≤ 976) (hs : s < 8) (fu N : Nat) (hN : N ≤ 60) (h0 : 0 < N) : ∀ n a ar, ar 0 (b + 122 * s) = nI N → a < N → N - a < n → f_X11_drops_13 fu n (mW C F v ar) 123 (nI s) (nI (b + 122 * s)) (nI a) = some (mW C F v (ua ar 0 (drpF (ar 0) (b + 122 * s) a N))) := by
  intro n
  induction n with
  | zero => intro a ar _ _ hn; omega
  | succ n ih =>
    intro a ar hM ha hn
    rw [f_X11_drops_13, m_cl hC, many_at hC hb hb2 hs, some_bind', hM, show (1 : Int32) = nI 1 from rfl, nI_add]
    by_cases hlt : N ≤ a + 1
    · rw [if_pos (nI_le hlt (by omega)), m_gR hC F v ar 0 rfl, some_bind', m_a0 hC F v ar (by omega), some_bind', hM, nI_sub (by omega), m_s0 hC F v ar _ (by omega), some_bind', m_cl hC, mpoints_ok hC hb hb2 hs, some_bind']
      simp only [ua_eq, ua_ua]
      have e1 : shD (ar 0) (b + 122 * s) a N = ar 0 := by
        funext q; unfold shD; rw [if_neg (by omega), if_neg (by omega)]
      unfold drpF
      rw [e1]
      rfl
    · rw [if_neg (nI_ge (by omega) (by omega)), m_gR hC F v ar 0 rfl, some_bind', some_bind', show (2 : Int32) = nI 2 from rfl, nI_add, nI_add, nI_add, m_a0 hC F v ar (by omega), some_bind', m_s0 hC F v ar _ (by omega), some_bind', m_gR hC F v _ 0 rfl, some_bind', some_bind', show (62 : Int32) = nI 62 from rfl, nI_add, nI_add, nI_add, m_a0 hC F v _ (by omega), some_bind', m_s0 hC F v _ _ (by omega), some_bind', bnd_eq, ih (a + 1) _ ?_ (by omega) (by omega)]
      · simp only [ua_eq, ua_ua]
        unfold drpF
        rw [shD_step _ _ _ _ (by omega) hN]
      · simp only [ua_eq]
        rw [upd_ne _ _ (by omega), upd_ne _ _ (by omega)]
        exact hM
theorem nth_erase {L : List Nat} {a j : Nat} : nth (L.eraseIdx a) j = if j < a then nth L j else nth L (j + 1) := by
  unfold nth
  rw [List.getD_eq_getElem?_getD, List.getElem?_eraseIdx]
  by_cases h : j < a
  · rw [if_pos h, if_pos h, List.getD_eq_getElem?_getD]
  · rw [if_neg h, if_neg h, List.getD_eq_getElem?_getD]
theorem MA_drp {al : Nat → Int32} {o a : Nat} {L : List Nat} {fg : Int32} (M : MA al o L fg) (ha : a < L.length) (hl : L.length ≤ 60) : MA (drpF al o a L.length) o (L.eraseIdx a) (-1) := by
  have hlen : (L.eraseIdx a).length = L.length - 1 := List.length_eraseIdx_of_lt ha
  refine ⟨?_, ?_, fun j hj => ?_⟩
  · unfold drpF
    rw [upd_ne _ _ (by omega), upd_eq, hlen]
  · unfold drpF
    rw [upd_eq]
  · rw [hlen] at hj
    rw [nth_erase]
    unfold drpF
    rw [upd_ne _ _ (by omega), upd_ne _ _ (by omega), upd_ne _ _ (by omega), upd_ne _ _ (by omega)]
    unfold shD
    by_cases c1 : j < a
    · rw [if_pos c1, if_neg (by omega), if_neg (by omega), if_neg (by omega), if_neg (by omega)]
      exact M.2.2 j (by omega)
    · rw [if_neg c1, if_pos (by omega), if_neg (by omega), if_pos (by omega), show o + 2 + j + 1 = o + 2 + (j + 1) by omega, show o + 62 + j + 1 = o + 62 + (j + 1) by omega]
      exact M.2.2 (j + 1) (by omega)
theorem drpF_out {al : Nat → Int32} {o a n q : Nat} (hn : n ≤ 60) (hq : q < o ∨ o + 122 ≤ q) : drpF al o a n q = al q := by
  unfold drpF
  rw [upd_ne _ _ (by omega), upd_ne _ _ (by omega)]
  unfold shD
  rw [if_neg (by omega), if_neg (by omega)]
theorem mdrops_ok {C : MW} (hC : C.length = 123) {F : Nat → Int32} {v : Int64} {ar : Nat → Nat → Int32} {b s : Nat} (hb : F 9 = nI b) (hb2 : b ≤ 976) (hs : s < 8) {L : List Nat} {fg : Int32} (M : MA (ar 0) (b + 122 * s) L fg) (hl : L.length ≤ 60) {fu : Nat} (hfu : 100 ≤ fu) {a : Nat} (ha : a < L.length) : ∃ al, f_X11_drops fu (mW C F v ar) 123 (nI s) (nI a) = some (mW C F v (ua ar 0 al)) ∧ MA al (b + 122 * s) (L.eraseIdx a) (-1) ∧ ∀ q, q < b + 122 * s ∨ b + 122 * s + 122 ≤ q → al q = ar 0 q := by
  refine ⟨drpF (ar 0) (b + 122 * s) a L.length, ?_, MA_drp M ha hl, fun q hq => drpF_out hl hq⟩
  rw [f_X11_drops, m_gI hC F v ar 9 rfl, some_bind', hb, mo, bnd_eq, bnd_eq, mdrops_loop hC hb hb2 hs fu L.length hl (by omega) fu a ar M.1 ha (by omega)]
theorem mtotal_loop {C : MW} (hC : C.length = 123) {F : Nat → Int32} {v : Int64} {ar : Nat → Nat → Int32} {b : Nat} (hb : F 9 = nI b) (hb2 : b ≤ 976) (fu : Nat) {ln : Nat → Nat} (hl : ∀ s, s < 8 → ar 0 (b + 122 * s) = nI (ln s)) : ∀ n s acc, s ≤ 8 → 8 - s < n → f_X11_total_4 fu (mW C F v ar) n 123 (nI acc) (nI s) = some (nI (acc + smF ln s 8)) := by
  intro n
  induction n with
  | zero => intro s acc _ hn; omega
  | succ n ih =>
    intro s acc hs hn
    rw [f_X11_total_4, show (8 : Int32) = nI 8 from rfl]
    by_cases h : 8 ≤ s
    · rw [if_pos (nI_le h (by omega)), smF_end _ h]; rfl
    · rw [if_neg (nI_ge (by omega) (by omega)), m_cl hC, many_at hC hb hb2 (by omega), some_bind', hl s (by omega), bnd_eq, bnd_eq, nI_add, nI_1, ih (s + 1) _ (by omega) (by omega), smF_cons _ (by omega : s < 8)]
      congr 2
      omega
theorem mtotal_ok {C : MW} (hC : C.length = 123) {F : Nat → Int32} {v : Int64} {ar : Nat → Nat → Int32} {b : Nat} (hb : F 9 = nI b) (hb2 : b ≤ 976) {fu : Nat} (hfu : 100 ≤ fu) {ln : Nat → Nat} (hl : ∀ s, s < 8 → ar 0 (b + 122 * s) = nI (ln s)) : f_X11_total fu (mW C F v ar) 123 = some (nI (smF ln 0 8)) := by
  rw [f_X11_total, bnd_eq, bnd_eq, show (0 : Int32) = nI 0 from rfl, mtotal_loop hC hb hb2 fu hl fu 0 0 (by omega) (by omega), Nat.zero_add]
/-- how many keys from a number to another one, counted -/
def cnt (L : List Nat) (x y : Int32) : Nat := L.countP (fun e => decide (x ≤ nI (e / 2)) && decide (nI (e / 2) ≤ y))
theorem isIn_0 (k x y : Int32) : f_X11_isIn k x y = 0 ↔ ¬ (x ≤ k ∧ k ≤ y) := by
  unfold f_X11_isIn
  split
  · rename_i h
    simp only [true_iff]
    exact fun q => absurd q.1 (Int32.not_le.mpr h)
  · rename_i h
    split
    · rename_i h2
      simp only [true_iff]
      exact fun q => absurd q.2 (Int32.not_le.mpr h2)
    · rename_i h2
      constructor
      · intro q; exact absurd q (by decide)
      · intro q; exact absurd ⟨Int32.not_lt.mp h, Int32.not_lt.mp h2⟩ q
theorem cnt_cons (e : Nat) (L : List Nat) (x y : Int32) : cnt (e :: L) x y = cnt L x y + if x ≤ nI (e / 2) ∧ nI (e / 2) ≤ y then 1 else 0 := by
  unfold cnt
  rw [List.countP_cons]
  congr 1
  by_cases h : x ≤ nI (e / 2) ∧ nI (e / 2) ≤ y
  · rw [if_pos h, if_pos (by simp [h.1, h.2])]
  · rw [if_neg h, if_neg (by simpa using h)]
theorem mcounted_loop {C : MW} (hC : C.length = 123) {F : Nat → Int32} {v : Int64} {ar : Nat → Nat → Int32} {b s : Nat} (hb : F 9 = nI b) (hb2 : b ≤ 976) (hs : s < 8) {L : List Nat} {fg : Int32} (M : MA (ar 0) (b + 122 * s) L fg) (S : SOK L) (fu : Nat) (x y : Int32) : ∀ n i acc, i ≤ L.length → L.length - i < n → f_X11_counted_6 fu (mW C F v ar) n 123 (nI s) x y (nI acc) (nI i) = some (nI (acc + cnt (L.drop i) x y)) := by
  have hl := S.len
  intro n
  induction n with
  | zero => intro i acc _ hn; omega
  | succ n ih =>
    intro i acc hi hn
    rw [f_X11_counted_6, m_cl hC, many_ok hC hb hb2 hs M, some_bind']
    by_cases h : i = L.length
    · rw [if_pos (nI_le (by omega) (by omega))]
      subst h
      simp [cnt]
    · have hi' : i < L.length := by omega
      rw [if_neg (nI_ge hi' (by omega)), m_cl hC, mkeyAt_ok hC hb hb2 hs M S hi', some_bind', drop_cons hi', cnt_cons]
      by_cases hc : x ≤ nI (nth L i / 2) ∧ nI (nth L i / 2) ≤ y
      · rw [if_neg (fun q => (isIn_0 _ _ _).mp q hc), f_X11_counted_38, bnd_eq, bnd_eq, show (1 : Int32) = nI 1 from rfl, nI_add, nI_add, ih (i + 1) _ (by omega) (by omega), if_pos hc]
        congr 2
        omega
      · rw [if_pos ((isIn_0 _ _ _).mpr hc), f_X11_counted_38, bnd_eq, bnd_eq, show (0 : Int32) = nI 0 from rfl, nI_add, nI_1, ih (i + 1) _ (by omega) (by omega), if_neg hc]
        congr 2
theorem mcounted_ok {C : MW} (hC : C.length = 123) {F : Nat → Int32} {v : Int64} {ar : Nat → Nat → Int32} {b s : Nat} (hb : F 9 = nI b) (hb2 : b ≤ 976) (hs : s < 8) {L : List Nat} {fg : Int32} (M : MA (ar 0) (b + 122 * s) L fg) (S : SOK L) {fu : Nat} (hfu : 100 ≤ fu) (x y : Int32) : f_X11_counted fu (mW C F v ar) 123 (nI s) x y = some (nI (cnt L x y)) := by
  rw [f_X11_counted, bnd_eq, bnd_eq, show (0 : Int32) = nI 0 from rfl, mcounted_loop hC hb hb2 hs M S fu x y fu 0 0 (by omega) (by have := S.len; omega), Nat.zero_add, List.drop_zero]
