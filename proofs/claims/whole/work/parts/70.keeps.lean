theorem bel_succ {L : List Nat} (S : SOK L) {k : Nat} (hk : k < 10000) : bel L (nI (k + 1)) = nab L (nI k) := by
  have hn := nab_le L (nI k)
  refine bel_eq S hn (fun j hj => ?_) (fun j h1 h2 h3 => ?_)
  · have h1 := (nab_iff (nI k) L S j (by omega)).mp hj
    have h2 := S.lt (show j < L.length by omega)
    have h3 := (nI_leI (by omega) (by omega)).mp h1
    exact nI_lt (by omega) (by omega)
  · have h4 := S.lt h2
    have h5 := (nI_ltI (by omega) (by omega)).mp h3
    have h6 := (nab_iff (nI k) L S j h2).mpr (nI_le (by omega) (by omega))
    omega
theorem nab_all {L : List Nat} (S : SOK L) : nab L (nI 9999) = L.length := by
  have hn := nab_le L (nI 9999)
  rcases Nat.lt_or_ge (nab L (nI 9999)) L.length with h | h
  · have h1 := S.lt h
    have := (nab_iff (nI 9999) L S _ h).mpr (nI_le (by omega) (by omega))
    omega
  · omega
theorem bel_zero {L : List Nat} (S : SOK L) : bel L (nI 0) = 0 := by
  refine bel_eq S (Nat.zero_le _) (fun j hj => by omega) (fun j _ h2 h3 => ?_)
  have h4 := S.lt h2
  have := (nI_ltI (by omega) (by omega)).mp h3
  omega
theorem cnt_above {L : List Nat} (S : SOK L) {k : Nat} (hk : k < 10000) : cnt L (nI (k + 1)) (nI 9999) = L.length - nab L (nI k) := by
  rw [cnt_hmb _ _ L S]
  unfold hmb
  rw [nab_all S, bel_succ S hk]
theorem cnt_all {L : List Nat} (S : SOK L) : cnt L (nI 0) (nI 9999) = L.length := by
  rw [cnt_hmb _ _ L S]
  unfold hmb
  rw [nab_all S, bel_zero S]
  rfl
/-- a copy, from place k on -/
def cpF (al : Nat → Int32) (fr to n k : Nat) : Nat → Int32 := fun q => if to + k ≤ q ∧ q < to + n then al (fr + (q - to)) else al q
theorem cpF_step (al : Nat → Int32) (fr to n k : Nat) (hk : k < n) (h : to < fr ∨ fr + n ≤ to) : cpF (upd al (to + k) (al (fr + k))) fr to n (k + 1) = cpF al fr to n k := by
  funext q
  unfold cpF
  by_cases c1 : to + (k + 1) ≤ q ∧ q < to + n
  · rw [if_pos c1, if_pos ⟨by omega, c1.2⟩, upd_ne _ _ (by omega)]
  · rw [if_neg c1]
    by_cases c2 : q = to + k
    · subst c2
      rw [upd_eq, if_pos ⟨Nat.le_refl _, by omega⟩, show to + k - to = k by omega]
    · rw [upd_ne _ _ c2, if_neg (by omega)]
theorem mcopies_loop {C : MW} (hC : C.length = 123) {F : Nat → Int32} {v : Int64} (fu fr to n : Nat) (h : to < fr ∨ fr + n ≤ to) (h1 : fr + n ≤ 20204) (h2 : to + n ≤ 20204) : ∀ N k ar, k ≤ n → n - k < N → f_X11_copies_3 fu N (mW C F v ar) 123 (nI fr) (nI to) (nI n) (nI k) = some (mW C F v (ua ar 0 (cpF (ar 0) fr to n k))) := by
  intro N
  induction N with
  | zero => intro k ar _ hN; omega
  | succ N ih =>
    intro k ar hk hN
    rw [f_X11_copies_3]
    by_cases hlt : n ≤ k
    · have e1 : cpF (ar 0) fr to n k = ar 0 := by
        funext q; unfold cpF; rw [if_neg (by omega)]
      rw [if_pos (nI_le hlt (by omega)), e1, ua_self]
    · rw [if_neg (nI_ge (by omega) (by omega)), m_gR hC F v ar 0 rfl, some_bind', some_bind', nI_add, m_a0 hC F v ar (by omega), some_bind', nI_add, m_s0 hC F v ar _ (by omega), some_bind', bnd_eq, nI_1, ih (k + 1) _ (by omega) (by omega), ua_ua, ua_eq, cpF_step _ _ _ _ _ (by omega) h]
theorem mcopies_ok {C : MW} (hC : C.length = 123) {F : Nat → Int32} {v : Int64} {ar : Nat → Nat → Int32} {fu fr to n : Nat} (hfu : 20000 ≤ fu) (h : to < fr ∨ fr + n ≤ to) (h1 : fr + n ≤ 20204) (h2 : to + n ≤ 20204) (h3 : n < 20000) : f_X11_copies fu (mW C F v ar) 123 (nI fr) (nI to) (nI n) = some (mW C F v (ua ar 0 (cpF (ar 0) fr to n 0))) := by
  rw [f_X11_copies, bnd_eq, show (0 : Int32) = nI 0 from rfl, mcopies_loop hC fu fr to n h h1 h2 fu 0 ar (by omega) (by omega)]
theorem M8.copy {al al' : Nat → Int32} {b b' : Nat} {s : AS} (M : M8 al b s) (O : ∀ i, i < 8 → SOK (s.1 i)) (h : ∀ q, q < 976 → al' (b' + q) = al (b + q)) : M8 al' b' s := by
  intro i hi
  have hl := (O i hi).len
  obtain ⟨m1, m2, m3⟩ := M i hi
  refine ⟨?_, ?_, fun j hj => ?_⟩
  · rw [h (122 * i) (by omega)]; exact m1
  · rw [show b' + 122 * i + 1 = b' + (122 * i + 1) by omega, h _ (by omega)]; exact m2
  · rw [show b' + 122 * i + 2 + j = b' + (122 * i + 2 + j) by omega, show b' + 122 * i + 62 + j = b' + (122 * i + 62 + j) by omega, h _ (by omega), h _ (by omega), show b + (122 * i + 2 + j) = b + 122 * i + 2 + j by omega, show b + (122 * i + 62 + j) = b + 122 * i + 62 + j by omega]
    exact m3 j hj
def as0 : AS := (fun _ => [], fun _ => 0)
/-- the model: sets, and what can be undone, the oldest first -/
def MU (al : Nat → Int32) (V : List AS) : Prop := V.length ≤ 12 ∧ ∀ t, t < V.length → M8 al (1952 + 976 * t) (V.getD t as0) ∧ ∀ q, q < 8 → SOK ((V.getD t as0).1 q)
/-- what is kept ahead of an act -/
def kept (V : List AS) (s : AS) : List AS := (if V.length = 12 then V.drop 1 else V) ++ [s]
theorem mF8 {F : Nat → Int32} {v : Int64} (x : Int32) : (mF F v).set 8 (.int x) = mF (upd F 8 x) v := rfl
theorem mkeeps_ok {C : MW} (hC : C.length = 123) {F : Nat → Int32} {v : Int64} {ar : Nat → Nat → Int32} {fu : Nat} (hfu : 20000 ≤ fu) {s : AS} {V : List AS} (O : ∀ q, q < 8 → SOK (s.1 q)) (M : M8 (ar 0) 0 s) (U : MU (ar 0) V) (h8 : F 8 = nI V.length) : ∃ al F', f_X11_keeps fu (mW C F v ar) 123 = some (mW C F' v (ua ar 0 al)) ∧ M8 al 0 s ∧ MU al (kept V s) ∧ F' 8 = nI (kept V s).length ∧ (∀ k, k ≠ 8 → F' k = F k) ∧ ∀ q, q < 1952 ∨ 13664 ≤ q → al q = ar 0 q := by
  have hV := U.1
  have tailp : ∀ (F : Nat → Int32) (ar : Nat → Nat → Int32) (V : List AS), M8 (ar 0) 0 s → MU (ar 0) V → F 8 = nI V.length → V.length < 12 → ∃ al F', f_X11_keeps_32 fu (mW C F v ar) 123 = some (mW C F' v (ua ar 0 al)) ∧ M8 al 0 s ∧ MU al (V ++ [s]) ∧ F' 8 = nI (V ++ [s]).length ∧ (∀ k, k ≠ 8 → F' k = F k) ∧ ∀ q, q < 1952 ∨ 13664 ≤ q → al q = ar 0 q := by
    intro F ar V M U h8 hl
    refine ⟨cpF (ar 0) 0 (1952 + 976 * V.length) 976 0, upd F 8 (nI (V.length + 1)), ?_, ?_, ⟨?_, fun t ht => ?_⟩, ?_, fun k hk => upd_ne _ _ hk, fun q hq => ?_⟩
    · rw [f_X11_keeps_32, m_gI hC F v ar 8 rfl, some_bind', h8, show (976 : Int32) = nI 976 from rfl, nI_mul, show (1952 : Int32) = nI 1952 from rfl, nI_add, m_cl hC, show (0 : Int32) = nI 0 from rfl, mcopies_ok hC hfu (by omega) (by omega) (by omega) (by omega), some_bind', m_gI hC F v _ 8 rfl, some_bind', h8, nI_1, m_p hC F v _ 8 (by omega) (mF8 _), some_bind']
    · refine M.copy O (fun q hq => ?_)
      unfold cpF
      rw [if_neg (by omega)]
    · simp; omega
    · by_cases c : t < V.length
      · have e1 : (V ++ [s]).getD t as0 = V.getD t as0 := by
          rw [List.getD_eq_getElem?_getD, List.getElem?_append_left c, List.getD_eq_getElem?_getD]
        rw [e1]
        have h1 := U.2 t c
        refine ⟨h1.1.copy h1.2 (fun q hq => ?_), h1.2⟩
        unfold cpF
        rw [if_neg (by omega)]
      · have e0 : t = V.length := by simp at ht; omega
        have e1 : (V ++ [s]).getD t as0 = s := by
          rw [e0, List.getD_eq_getElem?_getD, List.getElem?_append_right (Nat.le_refl _), Nat.sub_self]; rfl
        rw [e1]
        refine ⟨M.copy O (fun q hq => ?_), O⟩
        unfold cpF
        rw [if_pos (by omega), e0]
        congr 1
        omega
    · rw [upd_eq]; simp
    · unfold cpF
      rw [if_neg (by omega)]
  rw [f_X11_keeps, m_gI hC F v ar 8 rfl, some_bind', h8]
  unfold kept
  by_cases c : V.length = 12
  · rw [c, if_pos (show nI 12 = (12 : Int32) from rfl), if_pos rfl, m_cl hC, show (2928 : Int32) = nI 2928 from rfl, show (1952 : Int32) = nI 1952 from rfl, show (10736 : Int32) = nI 10736 from rfl, mcopies_ok hC hfu (by omega) (by omega) (by omega) (by omega), some_bind', m_gI hC F v _ 8 rfl, some_bind', h8, c, show (1 : Int32) = nI 1 from rfl, nI_sub (by omega), m_p hC F v _ 8 (by omega) (mF8 _), some_bind']
    have hd : (V.drop 1).length = 11 := by simp; omega
    obtain ⟨al, F', g1, g2, g3, g4, g5, g6⟩ := tailp (upd F 8 (nI (12 - 1))) (ua ar 0 (cpF (ar 0) 2928 1952 10736 0)) (V.drop 1) (by
      rw [ua_eq]
      refine M.copy O (fun q hq => ?_)
      unfold cpF
      rw [if_neg (by omega)]) (by
      rw [ua_eq]
      refine ⟨by omega, fun t ht => ?_⟩
      have e1 : (V.drop 1).getD t as0 = V.getD (t + 1) as0 := by
        rw [List.getD_eq_getElem?_getD, List.getElem?_drop, List.getD_eq_getElem?_getD, Nat.add_comm]
      rw [e1]
      have h1 := U.2 (t + 1) (by omega)
      refine ⟨h1.1.copy h1.2 (fun q hq => ?_), h1.2⟩
      unfold cpF
      rw [if_pos (by omega), show 2928 + (1952 + 976 * t + q - 1952) = 1952 + 976 * (t + 1) + q by omega]) (by rw [upd_eq, hd]) (by omega)
    rw [ua_ua] at g1
    refine ⟨al, F', g1, g2, g3, g4, fun k hk => by rw [g5 k hk, upd_ne _ _ hk], fun q hq => ?_⟩
    rw [g6 q hq, ua_eq]
    unfold cpF
    rw [if_neg (by omega)]
  · rw [if_neg (show ¬ nI V.length = (12 : Int32) from fun q => c ((nI_eq (b := 12) (by omega) (by omega)).mp q)), if_neg c]
    exact tailp F ar V M U h8 (by omega)
