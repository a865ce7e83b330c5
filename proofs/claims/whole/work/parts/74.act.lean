/-! acts, both sides -/
/-- what the class reckons with: shapes alone -/
def TSh (w : MW) : Prop := (∃ a b, w[3]? = some (.inr (8, [.ref 4, .ref 5, .ref 6, .ref 7, .ref 8, .ref 9, .ref 10, .int a, .int b]))) ∧ ∀ k, k < 7 → ∃ f, w[4 + k]? = some (.inl (.int, 61, .inl f))
def Sc (w : MW) : Prop := TSh w ∧ (∃ a b c d e, w[11]? = some (.inr (9, [.int a, .int b, .int c, .int d, .int e]))) ∧ (∃ f, w[12]? = some (.inl (.int, 8, .inl f))) ∧ w[29]? = some (.inr (2, [.ref 2, .ref 30])) ∧ ∃ f, w[30]? = some (.inl (.int, 8, .inl f))
theorem TSh.chg {ks : List Nat} {w w' : MW} (h : TSh w) (C : Chg ks w w') (hk : ∀ k, k ∈ ks → k < 3 ∨ 10 < k) : TSh w' := by
  obtain ⟨⟨a, b, h1⟩, h2⟩ := h
  refine ⟨⟨a, b, C.at (fun q => by have := hk _ q; omega) h1⟩, fun k hk' => ?_⟩
  obtain ⟨f, hf⟩ := h2 k hk'
  exact ⟨f, C.at (fun q => by have := hk _ q; omega) hf⟩
theorem Sc.chg {ks : List Nat} {w w' : MW} (h : Sc w) (C : Chg ks w w') (hk : ∀ k, k ∈ ks → k < 3 ∨ (12 < k ∧ k < 29) ∨ 30 < k) : Sc w' := by
  obtain ⟨h1, ⟨a, b, c, d, e, h2⟩, ⟨f, h3⟩, h4, ⟨g, h5⟩⟩ := h
  exact ⟨h1.chg C (fun k q => by have := hk _ q; omega), ⟨a, b, c, d, e, C.at (fun q => by have := hk _ q; omega) h2⟩, ⟨f, C.at (fun q => by have := hk _ q; omega) h3⟩, C.at (fun q => by have := hk _ q; omega) h4, ⟨g, C.at (fun q => by have := hk _ q; omega) h5⟩⟩
theorem Sc.m {C : MW} (hC : C.length = 123) {F : Nat → Int32} {v : Int64} {ar : Nat → Nat → Int32} (h : Sc (mW C F v ar)) (F' : Nat → Int32) (v' : Int64) (ar' : Nat → Nat → Int32) : Sc (mW C F' v' ar') :=
  h.chg (mW_m hC F F' v v' ar ar') (fun k hk => by rw [List.mem_range'_1] at hk; omega)
theorem C0.m {C : MW} (hC : C.length = 123) {F : Nat → Int32} {v : Int64} {ar : Nat → Nat → Int32} (h : C0 (mW C F v ar)) (F' : Nat → Int32) (v' : Int64) (ar' : Nat → Nat → Int32) : C0 (mW C F' v' ar') :=
  h.chg (mW_m hC F F' v v' ar ar') (fun hk => by rw [List.mem_range'_1] at hk; omega)
theorem hpl_sc : ∀ k, k ∈ hpl → 12 < k ∧ k < 29 := by decide
theorem Sc.hp {w w' : MW} (h : Sc w) (C : Chg hpl w w') : Sc w' := h.chg C (fun k hk => by have := hpl_sc k hk; omega)
theorem cact2 {s s' : AS} (O : AOK s.1) {fu : Nat} (hfu : 100 ≤ fu) {w : MW} (T : C0 w) (h : CS w s.1 s.2) (Z : Sc w) {n : Nat} {V : List AS} (P : CP w n V) {f : MW → Nat → Option (Int32 × MW)} {x : Int32} {ks : List Nat} (hks : ∀ k, k ∈ ks → 1 ≤ k ∧ k < 31) (hf : ∀ u, CS u s.1 s.2 → Sc u → ∃ u', f u 1 = some (x, u') ∧ CS u' s'.1 s'.2 ∧ Sc u' ∧ Chg ks u u') : ∃ w' n', actOf f fu w = some (x, w') ∧ CS w' s'.1 s'.2 ∧ Sc w' ∧ CP w' n' (if x < 0 then V else kept V s) ∧ Chg actKs w w' := by
  have m0 : (0 : Nat) ∉ actKs := fun q => by rw [actKs_iff] at q; omega
  obtain ⟨w1, a1, a2, a3, a4, a5⟩ := prepare_ok O hfu h P
  have k1 : Chg actKs w w1 := a5.mono (fun k hk => by have := P.1; rw [actKs_iff]; simp at hk; omega)
  have Z1 : Sc w1 := Z.chg a5 (fun k hk => by simp at hk; omega)
  obtain ⟨w2, b1, b2, b4, b3⟩ := hf w1 a2 Z1
  have k2 : Chg actKs w1 w2 := b3.mono (fun k hk => by have := hks k hk; rw [actKs_iff]; omega)
  have P2 : CP w2 n V := a3.chg b3 (fun k hk => by have := hks k hk; omega)
  have S2 : SNP w2 (33 + 4 * n) s := a4.chg b3 (fun k hk => by have := hks k hk; omega)
  obtain ⟨a, b, t0⟩ := T
  have t1 := k1.at m0 t0
  have pre : actOf f fu w = (f_X3_settle w2 31 x).bind fun q11 => some (q11.1, q11.2) := by
    rw [actOf, gR_ob t0 rfl, some_bind', gR_ob t0 rfl, some_bind', P.cl, a1, some_bind', gR_ob t1 rfl, some_bind', gR_ob t1 rfl, some_bind', a2.cl, b1, some_bind', P2.cl]
  rw [pre]
  by_cases hx : x < 0
  · rw [settle_no hx, some_bind', if_pos hx]
    exact ⟨w2, n, rfl, b2, b4, P2, k1.tr k2⟩
  · obtain ⟨w3, c1, c2, c3⟩ := settle_ok O P2 S2 hx
    rw [c1, some_bind', if_neg hx]
    exact ⟨w3, _, rfl, b2.chg c3 (fun k hk => by simp at hk; omega), b4.chg c3 (fun k hk => by simp at hk; omega), c2, (k1.tr k2).tr (c3.mono (fun k hk => by simp at hk; rw [actKs_iff]; omega))⟩
/-- an act of the model -/
def mactOf (R : MW → Option Int32) (D : MW → Option (Int32 × MW)) (fu : Nat) (w : MW) : Option (Int32 × MW) :=
  (cl w 11 123 (R w)).bind fun q1 =>
  (cl w 11 123 (f_X11_begins fu w 123 q1)).bind fun q4 =>
  bnd q4.1 fun x7 =>
  if x7 ≤ 0 then D q4.2 else some ((-x7), q4.2)
/-- a finger is at a key, or at none -/
def FOK (s : AS) : Prop := ∀ i, i < 8 → s.2 i = -1 ∨ ∃ e ∈ s.1 i, s.2 i = nI (e / 2)
theorem FOK.up {s : AS} (h : FOK s) (i : Nat) (L : List Nat) : FOK (va_up s.1 i L, va_up s.2 i (-1)) := by
  intro j hj
  by_cases c : j = i
  · subst c; exact Or.inl (vu_eq _ _ _)
  · simp only [vu_ne _ _ c]; exact h j hj
theorem FOK.give {s : AS} (h : FOK s) (i j r n : Nat) : FOK (giveA s i j r n) := by
  unfold giveA
  exact (h.up i _).up j _
def Good (C : MW) (F : Nat → Int32) (v : Int64) (ar : Nat → Nat → Int32) (s : AS) (V : List AS) (n : Nat) : Prop := Core C F v ar s V n ∧ Sc (mW C F v ar) ∧ FOK s ∧ ∀ W ∈ V, FOK W
/-- both sides answer alike, and hold s' and V' then -/
def Res (C : MW) (F : Nat → Int32) (ar : Nat → Nat → Int32) (s' : AS) (V' : List AS) (p : Option (Int32 × MW)) (q : MW → Option (Int32 × MW)) : Prop :=
  ∃ x w1 C' F' v' ar' n', p = some (x, w1) ∧ q w1 = some (x, mW C' F' v' ar') ∧ cl w1 11 123 (q w1) = q w1 ∧ Good C' F' v' ar' s' V' n' ∧ Fr C F ar C' F' ar'
theorem MU.same {al al' : Nat → Int32} {V : List AS} (U : MU al V) (h : ∀ q, 976 ≤ q → al' q = al q) : MU al' V :=
  ⟨U.1, fun t ht => ⟨(U.2 t ht).1.copy (U.2 t ht).2 (fun q _ => h _ (by omega)), (U.2 t ht).2⟩⟩
theorem kept_fok {s : AS} {V : List AS} (h : FOK s) (hV : ∀ W ∈ V, FOK W) : ∀ W ∈ kept V s, FOK W := by
  intro W hW
  unfold kept at hW
  rcases List.mem_append.mp hW with q | q
  · split at q
    · exact hV W (List.mem_of_mem_drop q)
    · exact hV W q
  · rw [List.mem_singleton.mp q]; exact h
theorem act_resq {C : MW} {F : Nat → Int32} {v : Int64} {ar : Nat → Nat → Int32} {s : AS} {V : List AS} {n : Nat} (G : Good C F v ar s V n) {fu : Nat} (hfu : 20000 ≤ fu) {s' : AS} (hO : AOK s'.1) (hFO : FOK s → FOK s') {x : Int32} {f : MW → Nat → Option (Int32 × MW)} {ks : List Nat} (hks : ∀ k, k ∈ ks → 1 ≤ k ∧ k < 31) (hf : ∀ u, CS u s.1 s.2 → Sc u → ∃ u', f u 1 = some (x, u') ∧ CS u' s'.1 s'.2 ∧ Sc u' ∧ Chg ks u u') (hx : x < 0 → s' = s ∧ (x = -1 ∨ x = -2 ∨ x = -3 ∨ x = -4)) {R : MW → Option Int32} {D : MW → Option (Int32 × MW)} (hR : ∀ C', C'.length = 123 → R (mW C' F v ar) = some (if x < 0 then -x else 0)) (hD : ¬ x < 0 → ∀ C' F' al, C'.length = 123 → (∀ k, k ≠ 8 → F' k = F k) → M8 al 0 s → ∃ F'' v'' ar', D (mW C' F' v (ua ar 0 al)) = some (x, mW C' F'' v'' ar') ∧ M8 (ar' 0) 0 s' ∧ (∀ q, 976 ≤ q → ar' 0 q = al q) ∧ (∀ k, k < 10 ∨ 22 < k → F'' k = F' k) ∧ ∀ k, 0 < k → k < 4 → ar' k = ar k) {Q : MW → Option (Int32 × MW)} (hQ : ∀ C', C'.length = 123 → Q (mW C' F v ar) = mactOf R D fu (mW C' F v ar)) : Res C F ar s' (if x < 0 then V else kept V s) (actOf f fu (mW C F v ar)) Q := by
  obtain ⟨⟨hC, T, h, O, P, M, U, h8, h9⟩, Z, FO, FV⟩ := G
  obtain ⟨w', n', a1, a2, a3, a4, a5⟩ := cact2 O (show 100 ≤ fu by omega) T h Z P hks hf
  obtain ⟨C', b1, b2, b3⟩ := mW_chg hC a5 (fun k hk => by rw [actKs_iff] at hk; omega)
  have T1 : C0 w' := T.chg a5 (fun hk => by rw [actKs_iff] at hk; omega)
  subst b2
  by_cases c : x < 0
  · obtain ⟨e1, e2⟩ := hx c
    subst e1
    refine ⟨x, _, C', F, v, ar, n', a1, ?_, m_cl b1 _ _ _ _, ⟨⟨b1, T1, a2, O, a4, M, ?_, ?_, h9⟩, a3, FO, by rw [if_pos c]; exact FV⟩, b3, fun _ _ => rfl, fun _ _ _ => rfl, fun _ _ => rfl⟩
    · rw [hQ C' b1]
      unfold mactOf
      rw [hR C' b1, if_pos c, m_cl b1, some_bind', m_cl b1]
      rcases e2 with rfl | rfl | rfl | rfl
      · rw [mbegins_no b1 (by decide), some_bind', bnd_eq]; rfl
      · rw [mbegins_no b1 (by decide), some_bind', bnd_eq]; rfl
      · rw [mbegins_no b1 (by decide), some_bind', bnd_eq]; rfl
      · rw [mbegins_no b1 (by decide), some_bind', bnd_eq]; rfl
    · rw [if_pos c]; exact U
    · rw [if_pos c]; exact h8
  · obtain ⟨al, F', g1, g2, g3, g4, g5, g6⟩ := mbegins_ok b1 (v := v) hfu O.1 M U h8
    obtain ⟨F'', v'', ar', k1, k2, k3, k4, k5⟩ := hD c C' F' al b1 g5 g2
    refine ⟨x, _, C', F'', v'', ar', n', a1, ?_, m_cl b1 _ _ _ _, ⟨⟨b1, T1.m b1 _ _ _, a2.m b1 _ _ _, hO, a4.m b1 _ _ _, k2, ?_, ?_, ?_⟩, a3.m b1 _ _ _, hFO FO, by rw [if_neg c]; exact kept_fok FO FV⟩, b3, fun k hk => ?_, k5, fun q hq => ?_⟩
    · rw [hQ C' b1]
      unfold mactOf
      rw [hR C' b1, if_neg c, m_cl b1, some_bind', m_cl b1, g1, some_bind', bnd_eq, if_pos (show (0 : Int32) ≤ 0 by decide), k1]
    · rw [if_neg c]; exact g3.same k3
    · rw [if_neg c, k4 8 (by omega), g4]
    · rw [k4 9 (by omega), g5 9 (by omega), h9]
    · rw [k4 k (by omega), g5 k (by omega)]
    · rw [k3 q (by omega), g6 q (by omega)]
theorem act_res {C : MW} {F : Nat → Int32} {v : Int64} {ar : Nat → Nat → Int32} {s : AS} {V : List AS} {n : Nat} (G : Good C F v ar s V n) {fu : Nat} (hfu : 20000 ≤ fu) {s' : AS} (hO : AOK s'.1) (hFO : FOK s → FOK s') {x : Int32} {f : MW → Nat → Option (Int32 × MW)} {ks : List Nat} (hks : ∀ k, k ∈ ks → 1 ≤ k ∧ k < 31) (hf : ∀ u, CS u s.1 s.2 → Sc u → ∃ u', f u 1 = some (x, u') ∧ CS u' s'.1 s'.2 ∧ Sc u' ∧ Chg ks u u') (hx : x < 0 → s' = s ∧ (x = -1 ∨ x = -2 ∨ x = -3 ∨ x = -4)) {R : MW → Option Int32} {D : MW → Option (Int32 × MW)} (hR : ∀ C', C'.length = 123 → R (mW C' F v ar) = some (if x < 0 then -x else 0)) (hD : ¬ x < 0 → ∀ C' F' al, C'.length = 123 → (∀ k, k ≠ 8 → F' k = F k) → M8 al 0 s → ∃ F'' v'' ar', D (mW C' F' v (ua ar 0 al)) = some (x, mW C' F'' v'' ar') ∧ M8 (ar' 0) 0 s' ∧ (∀ q, 976 ≤ q → ar' 0 q = al q) ∧ (∀ k, k < 10 ∨ 22 < k → F'' k = F' k) ∧ ∀ k, 0 < k → k < 4 → ar' k = ar k) : Res C F ar s' (if x < 0 then V else kept V s) (actOf f fu (mW C F v ar)) (mactOf R D fu) :=
  act_resq G hfu hO hFO hks hf hx hR hD (fun _ _ => rfl)
theorem act_bad {C : MW} {F : Nat → Int32} {v : Int64} {ar : Nat → Nat → Int32} {s : AS} {V : List AS} {n : Nat} (G : Good C F v ar s V n) {fu : Nat} (hfu : 20000 ≤ fu) {f : MW → Nat → Option (Int32 × MW)} (hf : ∀ u, CS u s.1 s.2 → f u 1 = some (-1, u)) {R : MW → Option Int32} {D : MW → Option (Int32 × MW)} (hR : ∀ C', C'.length = 123 → R (mW C' F v ar) = some 1) : Res C F ar s V (actOf f fu (mW C F v ar)) (mactOf R D fu) := by
  have := act_res (D := D) (R := R) (x := -1) (ks := []) G hfu G.1.2.2.2.1 id (by simp) (f := f) (fun u h1 h2 => ⟨u, hf u h1, h1, h2, Chg.rf _ _⟩) (fun _ => ⟨rfl, Or.inl rfl⟩) (fun C' hC' => by rw [hR C' hC', if_pos (by decide)]; rfl) (fun c => absurd (by decide) c)
  rw [if_pos (by decide)] at this
  exact this
/-- the model's rows hold s at b -/
def MB (C : MW) (F : Nat → Int32) (ar : Nat → Nat → Int32) (b : Nat) (s : AS) : Prop := C.length = 123 ∧ F 9 = nI b ∧ b ≤ 976 ∧ M8 (ar 0) b s ∧ ∀ i, i < 8 → SOK (s.1 i)
section MBs
variable {C : MW} {F : Nat → Int32} {v : Int64} {ar : Nat → Nat → Int32} {b : Nat} {s : AS}
theorem MB.cl {α : Type} (B : MB C F ar b s) (x : Option α) : cl (mW C F v ar) 11 123 x = x := m_cl B.1 _ _ _ x
theorem MB.many (B : MB C F ar b s) {i : Nat} (hi : i < 8) : f_X11_many (mW C F v ar) 123 (nI i) = some (nI (s.1 i).length) := many_ok B.1 B.2.1 B.2.2.1 hi (B.2.2.2.1 i hi)
theorem MB.key (B : MB C F ar b s) {i j : Nat} (hi : i < 8) (hj : j < (s.1 i).length) : f_X11_keyAt (mW C F v ar) 123 (nI i) (nI j) = some (nI (nth (s.1 i) j / 2)) := mkeyAt_ok B.1 B.2.1 B.2.2.1 hi (B.2.2.2.1 i hi) (B.2.2.2.2 i hi) hj
theorem MB.mark (B : MB C F ar b s) {i j : Nat} (hi : i < 8) (hj : j < (s.1 i).length) : f_X11_markAt (mW C F v ar) 123 (nI i) (nI j) = some (nI (nth (s.1 i) j % 2)) := mmarkAt_ok B.1 B.2.1 B.2.2.1 hi (B.2.2.2.1 i hi) (B.2.2.2.2 i hi) hj
theorem MB.finger (B : MB C F ar b s) {i : Nat} (hi : i < 8) : f_X11_finger (mW C F v ar) 123 (nI i) = some (s.2 i) := mfinger_ok B.1 B.2.1 B.2.2.1 hi (B.2.2.2.1 i hi)
theorem MB.below (B : MB C F ar b s) {i : Nat} (hi : i < 8) {fu : Nat} (hfu : 100 ≤ fu) (x : Int32) : f_X11_below fu (mW C F v ar) 123 (nI i) x = some (nI (bel (s.1 i) x)) := mbelow_ok B.1 B.2.1 B.2.2.1 hi (B.2.2.2.1 i hi) (B.2.2.2.2 i hi) hfu x
theorem MB.place (B : MB C F ar b s) {i : Nat} (hi : i < 8) {fu : Nat} (hfu : 100 ≤ fu) (x : Int32) : f_X11_placeOf fu (mW C F v ar) 123 (nI i) x = some (plc (s.1 i) x) := mplace_ok B.1 B.2.1 B.2.2.1 hi (B.2.2.2.1 i hi) (B.2.2.2.2 i hi) hfu x
theorem MB.counted (B : MB C F ar b s) {i : Nat} (hi : i < 8) {fu : Nat} (hfu : 100 ≤ fu) (x y : Int32) : f_X11_counted fu (mW C F v ar) 123 (nI i) x y = some (nI (hmb (s.1 i) x y)) := by
  rw [mcounted_ok B.1 B.2.1 B.2.2.1 hi (B.2.2.2.1 i hi) (B.2.2.2.2 i hi) hfu x y, cnt_hmb x y _ (B.2.2.2.2 i hi)]
theorem MB.total (B : MB C F ar b s) {fu : Nat} (hfu : 100 ≤ fu) : f_X11_total fu (mW C F v ar) 123 = some (nI (smF (fun i => (s.1 i).length) 0 8)) := mtotal_ok B.1 B.2.1 B.2.2.1 hfu (ln := fun i => (s.1 i).length) (fun t ht => (B.2.2.2.1 t ht).1)
end MBs
theorem Core.mb {C : MW} {F : Nat → Int32} {v : Int64} {ar : Nat → Nat → Int32} {s : AS} {V : List AS} {n : Nat} (G : Core C F v ar s V n) : MB C F ar 0 s := ⟨G.1, G.2.2.2.2.2.2.2.2, by omega, G.2.2.2.2.2.1, G.2.2.2.1.1⟩
theorem mSet_in {i : Nat} (hi : i < 8) : f_X11_isSet (nI i) = 1 := by
  rw [f_X11_isSet, f_X11_isIn, if_neg (nI_pos (by omega)), if_neg (show ¬ (7 : Int32) < nI i from nI_nlt (a := 7) (by omega) (by omega))]
theorem mSet_out {x : Int32} (h : x < 0 ∨ 8 ≤ x) : f_X11_isSet x = 0 := by
  rw [f_X11_isSet, f_X11_isIn]
  by_cases c : x < 0
  · rw [if_pos c]
  · rw [if_neg c, if_pos (Int32.lt_of_lt_of_le (by decide) (h.resolve_left c))]
theorem mKey_in {k : Nat} (hk : k < 10000) : f_X11_isKey (nI k) = 1 := by
  rw [f_X11_isKey, f_X11_isIn, if_neg (nI_pos (by omega)), if_neg (show ¬ (9999 : Int32) < nI k from nI_nlt (a := 9999) (by omega) (by omega))]
theorem mKey_out {x : Int32} (h : x < 0 ∨ 9999 < x) : f_X11_isKey x = 0 := by
  rw [f_X11_isKey, f_X11_isIn]
  by_cases c : x < 0
  · rw [if_pos c]
  · rw [if_neg c, if_pos (h.resolve_left c)]
theorem mTwo_in {w : MW} {p i j : Nat} (hi : i < 8) (hj : j < 8) (hij : i ≠ j) : f_X11_areTwo w p (nI i) (nI j) = some 1 := by
  rw [f_X11_areTwo, mSet_in hi, mSet_in hj, if_neg (by decide), if_neg (by decide), if_neg (set_ne hi hj hij)]
/-- two sets that are such, or not -/
theorem two_cases (x y : Int32) : (∃ i j, i < 8 ∧ j < 8 ∧ i ≠ j ∧ x = nI i ∧ y = nI j) ∨ ((x < 0 ∨ 8 ≤ x) ∨ (y < 0 ∨ 8 ≤ y) ∨ x = y) := by
  rcases set_cases x with ⟨i, hi, rfl⟩ | h
  · rcases set_cases y with ⟨j, hj, rfl⟩ | h
    · by_cases c : i = j
      · subst c; exact Or.inr (Or.inr (Or.inr rfl))
      · exact Or.inl ⟨i, j, hi, hj, c, rfl, rfl⟩
    · exact Or.inr (Or.inr (Or.inl h))
  · exact Or.inr (Or.inl h)
theorem mTwo_out {w : MW} {p : Nat} {x y : Int32} (h : (x < 0 ∨ 8 ≤ x) ∨ (y < 0 ∨ 8 ≤ y) ∨ x = y) : f_X11_areTwo w p x y = some 0 := by
  rw [f_X11_areTwo]
  by_cases c1 : f_X11_isSet x = 0
  · rw [if_pos c1]
  · rw [if_neg c1]
    by_cases c2 : f_X11_isSet y = 0
    · rw [if_pos c2]
    · rw [if_neg c2, if_pos]
      rcases h with h | h | h
      · exact absurd (mSet_out h) c1
      · exact absurd (mSet_out h) c2
      · exact h
theorem smF8 (f : Nat → Nat) : smF f 0 8 = f 0 + f 1 + f 2 + f 3 + f 4 + f 5 + f 6 + f 7 := by
  simp [smF, List.range']; omega
theorem tot_up (hs : Nat → List Nat) {i : Nat} (hi : i < 8) (L : List Nat) : smF (fun t => (va_up hs i L t).length) 0 8 + (hs i).length = smF (fun t => (hs t).length) 0 8 + L.length := by
  rw [smF8, smF8]
  have : i = 0 ∨ i = 1 ∨ i = 2 ∨ i = 3 ∨ i = 4 ∨ i = 5 ∨ i = 6 ∨ i = 7 := by omega
  rcases this with rfl | rfl | rfl | rfl | rfl | rfl | rfl | rfl <;> simp [va_up] <;> omega
theorem AOK_up {hs : Nat → List Nat} (O : AOK hs) {i : Nat} (hi : i < 8) {L : List Nat} (S : SOK L) (ht : smF (fun t => (hs t).length) 0 8 + L.length ≤ 240 + (hs i).length) : AOK (va_up hs i L) := by
  refine ⟨fun j hj => ?_, ?_⟩
  · by_cases c : j = i
    · subst c; rw [vu_eq]; exact S
    · rw [vu_ne _ _ c]; exact O.1 j hj
  · have := tot_up hs hi L
    omega
theorem AOK_up2 {hs : Nat → List Nat} (O : AOK hs) {i j : Nat} (hi : i < 8) (hj : j < 8) (hij : i ≠ j) {L M : List Nat} (S : SOK L) (S2 : SOK M) (ht : L.length + M.length ≤ (hs i).length + (hs j).length) : AOK (va_up (va_up hs i L) j M) := by
  refine ⟨fun k hk => ?_, ?_⟩
  · by_cases c : k = j
    · subst c; rw [vu_eq]; exact S2
    · rw [vu_ne _ _ c]
      by_cases c2 : k = i
      · subst c2; rw [vu_eq]; exact S
      · rw [vu_ne _ _ c2]; exact O.1 k hk
  · have h1 := tot_up hs hi L
    have h2 := tot_up (va_up hs i L) hj M
    rw [vu_ne _ _ (Ne.symm hij)] at h2
    have := O.2
    omega
