/-! PUT, DROP, CUT, JOIN, MOVE, UNDO: both sides -/
def wOf (x : Int32) : Int32 := if x < 0 then -x else 0
theorem wOf_1 : wOf (-1) = 1 := by decide
theorem wOf_2 : wOf (-2) = 2 := by decide
theorem wOf_3 : wOf (-3) = 3 := by decide
theorem wOf_4 : wOf (-4) = 4 := by decide
theorem wOf_n {n : Nat} (h : n < 2 ^ 31) : wOf (nI n) = 0 := if_neg (nI_pos h)
/-- an answer of an act: a reason, or not below 0 -/
def RZ (s : AS) (x : Int32 × AS) : Prop := x.1 < 0 → x.2 = s ∧ (x.1 = -1 ∨ x.1 = -2 ∨ x.1 = -3 ∨ x.1 = -4)
def xPut (s : AS) (i k : Nat) : Int32 × AS :=
  if ¬ plc (s.1 i) (nI k) = -1 then (-2, s)
  else if 60 ≤ (s.1 i).length ∨ 240 ≤ smF (fun i => (s.1 i).length) 0 8 then (-4, s)
  else (nI (bel (s.1 i) (nI k)), (va_up s.1 i (insAt (s.1 i) (bel (s.1 i) (nI k)) [2 * k]), va_up s.2 i (-1)))
theorem cput2 {w : MW} {s : AS} (h : CS w s.1 s.2) (O : AOK s.1) {fu : Nat} (hfu : 100 ≤ fu) {i k : Nat} (hi : i < 8) (hk : k < 10000) : ∃ w', f_X7_putKey fu w 1 (nI i) (nI k) = some ((xPut s i k).1, w') ∧ CS w' (xPut s i k).2.1 (xPut s i k).2.2 ∧ Chg hpl w w' := by
  have e : aPut s.1 s.2 (nI i) (nI k) = ((xPut s i k).1, (xPut s i k).2.1, (xPut s i k).2.2) := by
    have ei : (nI i).toNatClampNeg = i := nI_clamp (by omega)
    have ek : (nI k).toNatClampNeg = k := nI_clamp (by omega)
    unfold aPut xPut
    rw [ei, ek, if_neg (not_not_intro ⟨(in_set hi).1, (in_set hi).2, (in_key hk).1, (in_key hk).2⟩)]
  have := cput_ok h O hfu (nI i) (nI k)
  rw [e] at this
  exact this
theorem nneg {n : Nat} (h : n < 2 ^ 31) : ¬ (nI n, (as0 : AS)).1 < 0 := nI_pos h
theorem xPut_rz {s : AS} (O : AOK s.1) {i k : Nat} (hi : i < 8) (hk : k < 10000) : RZ s (xPut s i k) ∧ AOK (xPut s i k).2.1 := by
  have S := O.1 i hi
  have hl := S.len
  have hb := bel_le (s.1 i) (nI k)
  unfold xPut
  by_cases c1 : ¬ plc (s.1 i) (nI k) = -1
  · rw [if_pos c1]; exact ⟨fun _ => ⟨rfl, by simp⟩, O⟩
  · rw [if_neg c1]
    by_cases c2 : 60 ≤ (s.1 i).length ∨ 240 ≤ smF (fun i => (s.1 i).length) 0 8
    · rw [if_pos c2]; exact ⟨fun _ => ⟨rfl, by simp⟩, O⟩
    · rw [if_neg c2]
      refine ⟨fun q => absurd q (nI_pos (by omega)), AOK_up O hi ?_ ?_⟩
      · have := SOK_ins S (by omega) (e := 2 * k) (by omega) (by
          have := (plc_iff S (by omega)).mp (Decidable.not_not.mp c1)
          intro x hx
          rw [show 2 * k / 2 = k by omega]
          exact this x hx)
        rw [show 2 * k / 2 = k by omega] at this
        exact this
      · rw [insAt_len hb]
        show _ + ((s.1 i).length + 1) ≤ _
        omega
section M
variable {C : MW} {F : Nat → Int32} {v : Int64} {ar : Nat → Nat → Int32} {b : Nat} {s : AS}
theorem mrPut (B : MB C F ar b s) (ht : smF (fun i => (s.1 i).length) 0 8 ≤ 240) {fu : Nat} (hfu : 100 ≤ fu) {i k : Nat} (hi : i < 8) (hk : k < 10000) : f_X11_refusesPut fu (mW C F v ar) 123 (nI i) (nI k) = some (wOf (xPut s i k).1) := by
  have hl := (B.2.2.2.2 i hi).len
  have hb := bel_le (s.1 i) (nI k)
  rw [f_X11_refusesPut, mSet_in hi, mKey_in hk, if_neg (by decide), if_neg (by decide), B.cl, B.place hi hfu, some_bind']
  unfold xPut
  by_cases c1 : plc (s.1 i) (nI k) = -1
  · rw [if_pos c1, if_neg (not_not_intro c1), B.cl, B.many hi, some_bind']
    by_cases c2 : (s.1 i).length = 60
    · rw [if_pos (by rw [c2]; rfl), if_pos (Or.inl (by omega)), wOf_4]
    · rw [if_neg (show ¬ nI (s.1 i).length = (60 : Int32) from fun q => c2 ((nI_eq (b := 60) (by omega) (by omega)).mp q)), B.cl, B.total hfu, some_bind']
      by_cases c3 : smF (fun i => (s.1 i).length) 0 8 = 240
      · rw [if_pos (by rw [c3]; rfl), if_pos (Or.inr (by omega)), wOf_4]
      · rw [if_neg (show ¬ nI (smF (fun i => (s.1 i).length) 0 8) = (240 : Int32) from fun q => c3 ((nI_eq (b := 240) (by omega) (by omega)).mp q)), if_neg (by omega)]
        show _ = some (wOf (nI _))
        rw [wOf_n (by omega)]
  · rw [if_neg c1, if_pos c1, wOf_2]
theorem mputs2 (B : MB C F ar b s) {fu : Nat} (hfu : 100 ≤ fu) {i k : Nat} (hi : i < 8) (hk : k < 10000) (hx : ¬ (xPut s i k).1 < 0) : ∃ al, f_X11_puts fu (mW C F v ar) 123 (nI i) (nI k) (nI 0) = some (mW C F v (ua ar 0 al)) ∧ M8 al b (xPut s i k).2 ∧ (xPut s i k).1 = nI (bel (s.1 i) (nI k)) ∧ (∀ q, q < b ∨ b + 976 ≤ q → al q = ar 0 q) := by
  have S := B.2.2.2.2 i hi
  unfold xPut at hx ⊢
  by_cases c1 : ¬ plc (s.1 i) (nI k) = -1
  · rw [if_pos c1] at hx; exact absurd (show (-2 : Int32) < 0 by decide) hx
  · rw [if_neg c1] at hx ⊢
    by_cases c2 : 60 ≤ (s.1 i).length ∨ 240 ≤ smF (fun i => (s.1 i).length) 0 8
    · rw [if_pos c2] at hx; exact absurd (show (-4 : Int32) < 0 by decide) hx
    · rw [if_neg c2]
      obtain ⟨al, g1, g2, g3⟩ := mputs_ok (v := v) B.1 B.2.1 B.2.2.1 hi (B.2.2.2.1 i hi) S hfu (by omega) (k := k) (m := 0) (by omega)
      exact ⟨al, g1, B.2.2.2.1.put B.2.2.2.2 hi g2 g3, rfl, fun q hq => g3 q (by omega)⟩
theorem MB.al (B : MB C F ar b s) {s' : AS} {ar' : Nat → Nat → Int32} (M : M8 (ar' 0) b s') (O : ∀ i, i < 8 → SOK (s'.1 i)) : MB C F ar' b s' := ⟨B.1, B.2.1, B.2.2.1, M, O⟩
/-- below of a key that has come is its place -/
theorem bel_ins {L : List Nat} (S : SOK L) {k m : Nat} (hk : k < 10000) (hm : m ≤ 1) (hl : L.length < 60) (hn : plc L (nI k) = -1) : bel (insAt L (bel L (nI k)) [2 * k + m]) (nI k) = bel L (nI k) := by
  have hb := bel_le L (nI k)
  have e1 : (2 * k + m) / 2 = k := by omega
  have S2 := SOK_ins S hl (e := 2 * k + m) (by omega) (by rw [e1]; exact (plc_iff S (by omega)).mp hn)
  rw [e1] at S2
  refine bel_eq S2 (by rw [insAt_len hb]; omega) (fun j hj => ?_) (fun j h1 h2 h3 => ?_)
  · rw [nth_insAt hb, if_pos hj]
    exact (bel_iff (nI k) L S j (by omega)).mp hj
  · rw [nth_insAt hb, if_neg (by omega)] at h3
    have hl1 : ([2 * k + m] : List Nat).length = 1 := rfl
    rw [insAt_len hb, hl1] at h2
    rw [hl1] at h3
    by_cases c : j < bel L (nI k) + 1
    · rw [if_pos c, show j - bel L (nI k) = 0 by omega, nth_0, e1] at h3
      exact absurd h3 (Int32.not_lt.mpr (Int32.le_refl _))
    · rw [if_neg c] at h3
      have := (bel_iff (nI k) L S (j - 1) (by omega)).mpr h3
      omega
end M
theorem MB.F {C C' : MW} {F F' : Nat → Int32} {ar ar' : Nat → Nat → Int32} {s s' : AS} {b : Nat} (B : MB C F ar b s) (hC : C'.length = 123) (h9 : F' 9 = F 9) (M : M8 (ar' 0) b s') (O : ∀ i, i < 8 → SOK (s'.1 i)) : MB C' F' ar' b s' := ⟨hC, by rw [h9]; exact B.2.1, B.2.2.1, M, O⟩
theorem cl_cases (w : MW) (c h : Nat) : (∀ (α : Type) (x : Option α), cl w c h x = x) ∨ (∀ (α : Type) (x : Option α), cl w c h x = none) := by
  unfold cl
  rcases w[h]? with _ | (y | ⟨d, fs⟩)
  · exact Or.inr (fun _ _ => rfl)
  · exact Or.inr (fun _ _ => rfl)
  · by_cases e : d = c
    · exact Or.inl (fun _ _ => by simp [e])
    · exact Or.inr (fun _ _ => by simp [e])
theorem mdrop_act {fu : Nat} {a b : Int32} : (fun w => f_X11_drop fu w 123 a b) = mactOf (fun w => if (f_X11_isSet a) = 0 then some 1 else if (f_X11_isKey b) = 0 then some 1 else (cl w 11 123 (f_X11_placeOf fu w 123 a b)).bind fun q => if q = -1 then some 2 else some 0) (fun w => (cl w 11 123 (f_X11_placeOf fu w 123 a b)).bind fun q5 => (cl w 11 123 (f_X11_drops fu w 123 a q5)).bind fun q8 => (cl q8 11 123 (f_X11_many q8 123 a)).bind fun q11 => some (q11, q8)) fu := by
  funext w
  unfold f_X11_drop mactOf f_X11_drop_34
  rcases cl_cases w 11 123 with h | h
  · simp only [h]
    by_cases c1 : f_X11_isSet a = 0
    · rw [if_pos c1, if_pos c1]; rfl
    · rw [if_neg c1, if_neg c1]
      by_cases c2 : f_X11_isKey b = 0
      · rw [if_pos c2, if_pos c2]; rfl
      · rw [if_neg c2, if_neg c2]
        rcases f_X11_placeOf fu w 123 a b with _ | q
        · rfl
        · rw [some_bind', some_bind']
          by_cases c3 : q = -1
          · rw [if_pos c3, if_pos c3]; rfl
          · rw [if_neg c3, if_neg c3]; rfl
  · simp only [h]
    by_cases c1 : f_X11_isSet a = 0
    · rw [if_pos c1]; rfl
    · rw [if_neg c1]
      by_cases c2 : f_X11_isKey b = 0
      · rw [if_pos c2]; rfl
      · rw [if_neg c2]; rfl
section R
variable {C : MW} {F : Nat → Int32} {v : Int64} {ar : Nat → Nat → Int32} {s : AS} {V : List AS} {n : Nat} {fu : Nat}
theorem hpl_31 : ∀ k, k ∈ hpl → 1 ≤ k ∧ k < 31 := by decide
theorem put_res (G : Good C F v ar s V n) (hfu : 20000 ≤ fu) (a b : Int32) : ∃ s' V', Res C F ar s' V' (f_X10_put fu (mW C F v ar) 0 a b) (fun w => f_X11_put fu w 123 a b) := by
  have e1 : f_X10_put fu (mW C F v ar) 0 a b = actOf (fun w p => f_X7_putKey fu w p a b) fu (mW C F v ar) := rfl
  have e2 : (fun w => f_X11_put fu w 123 a b) = mactOf (fun w => f_X11_refusesPut fu w 123 a b) (fun w => (cl w 11 123 (f_X11_puts fu w 123 a b (0 : Int32))).bind fun q8 => (cl q8 11 123 (f_X11_below fu q8 123 a b)).bind fun q11 => some (q11, q8)) fu := rfl
  rw [e1, e2]
  have B := G.1.mb
  have O := G.1.2.2.2.1
  have hfu2 : 100 ≤ fu := by omega
  rcases set_cases a with ⟨i, hi, rfl⟩ | ha
  · rcases key_cases b with ⟨k, hk, rfl⟩ | hb
    · obtain ⟨z1, z2⟩ := xPut_rz O hi hk
      have z3 : FOK s → FOK (xPut s i k).2 := fun h => by
        unfold xPut; split
        · exact h
        · split
          · exact h
          · exact h.up i _
      refine ⟨_, _, act_res G hfu z2 z3 hpl_31 (fun u hu hz => ?_) z1 (fun C' hC' => ?_) (fun hx C' F' al hC' hF hM => ?_)⟩
      · obtain ⟨u', g1, g2, g3⟩ := cput2 hu O hfu2 hi hk
        exact ⟨u', g1, g2, hz.hp g3, g3⟩
      · exact mrPut (B.F hC' rfl B.2.2.2.1 O.1) O.2 hfu2 hi hk
      · have B1 : MB C' F' (ua ar 0 al) 0 s := B.F hC' (hF 9 (by omega)) (by rw [ua_eq]; exact hM) O.1
        obtain ⟨al2, g1, g2, g3, g4⟩ := mputs2 (v := v) B1 hfu2 hi hk hx
        have B2 := B1.F (ar' := ua (ua ar 0 al) 0 al2) hC' rfl (by rw [ua_eq]; exact g2) z2.1
        refine ⟨F', v, ua (ua ar 0 al) 0 al2, ?_, by rw [ua_eq]; exact g2, fun q hq => by rw [ua_eq, g4 q (by omega), ua_eq], fun _ _ => rfl, fun k h1 h2 => by rw [ua_ne _ _ (by omega), ua_ne _ _ (by omega)]⟩
        rw [B1.cl, show (0 : Int32) = nI 0 from rfl, g1, some_bind', B2.cl, B2.below hi hfu2, some_bind', g3]
        congr 3
        unfold xPut at hx ⊢
        by_cases c1 : ¬ plc (s.1 i) (nI k) = -1
        · rw [if_pos c1] at hx; exact absurd (show (-2 : Int32) < 0 by decide) hx
        · rw [if_neg c1] at hx ⊢
          by_cases c2 : 60 ≤ (s.1 i).length ∨ 240 ≤ smF (fun i => (s.1 i).length) 0 8
          · rw [if_pos c2] at hx; exact absurd (show (-4 : Int32) < 0 by decide) hx
          · rw [if_neg c2]
            show bel (va_up s.1 i (insAt (s.1 i) (bel (s.1 i) (nI k)) [2 * k]) i) (nI k) = _
            rw [vu_eq]
            exact bel_ins (m := 0) (O.1 i hi) hk (by omega) (by omega) (Decidable.not_not.mp c1)
    · refine ⟨_, _, act_bad G hfu (fun u hu => ?_) (fun C' hC' => ?_)⟩
      · rw [f_X7_putKey, hu.cl, heapAt_in hu hi, some_bind']
        dsimp only
        rw [isKey_out hb, if_pos rfl]
      · rw [f_X11_refusesPut, mSet_in hi, mKey_out hb, if_neg (by decide), if_pos rfl]
  · refine ⟨_, _, act_bad G hfu (fun u hu => ?_) (fun C' hC' => ?_)⟩
    · rw [f_X7_putKey, hu.cl, heapAt_out ha, some_bind']
    · rw [f_X11_refusesPut, mSet_out ha, if_pos rfl]
theorem xDrop_rz (O : AOK s.1) {i k : Nat} (hi : i < 8) : RZ s (xDrop s i k) ∧ AOK (xDrop s i k).2.1 := by
  have S := O.1 i hi
  have hl := S.len
  have ht := O.2
  unfold xDrop
  by_cases c1 : plc (s.1 i) (nI k) = -1
  · rw [if_pos c1]; exact ⟨fun _ => ⟨rfl, by simp⟩, O⟩
  · rw [if_neg c1]
    obtain ⟨h1, h2⟩ := plc_ne c1
    refine ⟨fun q => absurd q (nI_pos (by omega)), AOK_up O hi ?_ ?_⟩
    · rw [← erase_cut]; exact SOK_erase S _
    · rw [cut_len (by omega)]; omega
theorem drop_res (G : Good C F v ar s V n) (hfu : 20000 ≤ fu) (a b : Int32) : ∃ s' V', Res C F ar s' V' (f_X10_drop fu (mW C F v ar) 0 a b) (fun w => f_X11_drop fu w 123 a b) := by
  have e1 : f_X10_drop fu (mW C F v ar) 0 a b = actOf (fun w p => f_X7_dropKey fu w p a b) fu (mW C F v ar) := rfl
  rw [e1]
  have B := G.1.mb
  have O := G.1.2.2.2.1
  have hfu2 : 100 ≤ fu := by omega
  rw [mdrop_act]
  rcases set_cases a with ⟨i, hi, rfl⟩ | ha
  · rcases key_cases b with ⟨k, hk, rfl⟩ | hb
    · obtain ⟨z1, z2⟩ := xDrop_rz (k := k) O hi
      have z3 : FOK s → FOK (xDrop s i k).2 := fun h => by
        unfold xDrop; split
        · exact h
        · exact h.up i _
      have hl := (O.1 i hi).len
      refine ⟨_, _, act_res G hfu z2 z3 hpl_31 (fun u hu hz => ?_) z1 (fun C' hC' => ?_) (fun hx C' F' al hC' hF hM => ?_)⟩
      · obtain ⟨u', g1, g2, g3⟩ := cdrop_ok hu O hfu2 hi hk
        exact ⟨u', g1, g2, hz.hp g3, g3⟩
      · have B1 : MB C' F ar 0 s := B.F hC' rfl B.2.2.2.1 O.1
        rw [mSet_in hi, mKey_in hk, if_neg (by decide), if_neg (by decide), B1.cl, B1.place hi hfu2, some_bind']
        show _ = some (wOf _)
        unfold xDrop
        by_cases c1 : plc (s.1 i) (nI k) = -1
        · rw [if_pos c1, if_pos c1, wOf_2]
        · rw [if_neg c1, if_neg c1, wOf_n (by omega)]
      · have B1 : MB C' F' (ua ar 0 al) 0 s := B.F hC' (hF 9 (by omega)) (by rw [ua_eq]; exact hM) O.1
        unfold xDrop at hx z2 ⊢
        by_cases c1 : plc (s.1 i) (nI k) = -1
        · rw [if_pos c1] at hx; exact absurd (show (-2 : Int32) < 0 by decide) hx
        · rw [if_neg c1] at z2 ⊢
          obtain ⟨h1, h2⟩ := plc_ne c1
          obtain ⟨al2, g1, g2, g3⟩ := mdrops_ok (v := v) B1.1 B1.2.1 B1.2.2.1 hi (B1.2.2.2.1 i hi) hl hfu2 h1
          rw [erase_cut] at g2
          have g4 := B1.2.2.2.1.put B1.2.2.2.2 hi g2 g3
          have B2 := B1.F (ar' := ua (ua ar 0 al) 0 al2) hC' rfl (by rw [ua_eq]; exact g4) z2.1
          refine ⟨F', v, ua (ua ar 0 al) 0 al2, ?_, by rw [ua_eq]; exact g4, fun q hq => by rw [ua_eq, g3 q (by omega), ua_eq], fun _ _ => rfl, fun k h1 h2 => by rw [ua_ne _ _ (by omega), ua_ne _ _ (by omega)]⟩
          rw [B1.cl, B1.place hi hfu2, some_bind', h2, B1.cl, g1, some_bind', B2.cl, B2.many hi, some_bind']
          dsimp only
          rw [vu_eq, cut_len (by omega)]
    · refine ⟨_, _, act_bad G hfu (fun u hu => ?_) (fun C' hC' => ?_)⟩
      · rw [f_X7_dropKey, hu.cl, heapAt_in hu hi, some_bind']
        dsimp only
        rw [isKey_out hb, if_pos rfl]
      · rw [mSet_in hi, mKey_out hb, if_neg (by decide), if_pos rfl]
  · refine ⟨_, _, act_bad G hfu (fun u hu => ?_) (fun C' hC' => ?_)⟩
    · rw [f_X7_dropKey, hu.cl, heapAt_out ha, some_bind']
    · rw [mSet_out ha, if_pos rfl]
theorem give_aok (O : AOK s.1) {i j r m : Nat} (hi : i < 8) (hj : j < 8) (hij : i ≠ j) (hr : r + m ≤ (s.1 i).length) (h : ∀ q, q < 8 → SOK ((giveA s i j r m).1 q)) : AOK (giveA s i j r m).1 := by
  have h1 := h i hi
  have h2 := h j hj
  unfold giveA at h1 h2 ⊢
  simp only [vu_eq, vu_ne _ _ hij] at h1 h2 ⊢
  refine AOK_up2 O hi hj hij h1 h2 ?_
  rw [cut_len hr, insAt_len (bel_le _ _), dt_len hr]
  omega
/-- the do-part of an act that is a stretch going over -/
theorem give_do (B : MB C F ar 0 s) {fu : Nat} (hfu : 100 ≤ fu) {i j r m : Nat} (hi : i < 8) (hj : j < 8) (hij : i ≠ j) {x y : Int32} (hcx : hmb (s.1 i) x y = m) (hbx : bel (s.1 i) x = r) (hn : 1 ≤ m) (hr : r + m ≤ (s.1 i).length) (hl : (s.1 j).length + m ≤ 60) (hno : ∀ z ∈ s.1 j, z / 2 < nth (s.1 i) r / 2 ∨ nth (s.1 i) (r + m - 1) / 2 < z / 2) {C' : MW} {F' : Nat → Int32} {al : Nat → Int32} (hC' : C'.length = 123) (hF : ∀ k, k ≠ 8 → F' k = F k) (hM : M8 al 0 s) : ∃ al2, f_X11_goOver fu (mW C' F' v (ua ar 0 al)) 123 (nI i) x y (nI j) = some (nI m, mW C' F' v (ua ar 0 al2)) ∧ M8 (ua ar 0 al2 0) 0 (giveA s i j r m) ∧ (∀ q, 976 ≤ q → ua ar 0 al2 0 q = al q) ∧ (∀ k, k < 10 ∨ 22 < k → F' k = F' k) ∧ ∀ k, 0 < k → k < 4 → ua ar 0 al2 k = ar k := by
  obtain ⟨al2, g1, g2, g3, g4⟩ := mgive (v := v) (C := C') (F := F') (ar := ua ar 0 al) hC' (by rw [hF 9 (by omega)]; exact B.2.1) (by omega) hi hj hij hfu B.2.2.2.2 (by rw [ua_eq]; exact hM) (x := x) (y := y) (by rw [cnt_hmb _ _ _ (B.2.2.2.2 i hi)]; exact hcx) hbx hn hr hl hno
  rw [ua_ua] at g1
  exact ⟨al2, g1, by rw [ua_eq]; exact g2, fun q hq => by rw [ua_eq, g4 q (by omega), ua_eq], fun _ _ => rfl, fun k h1 h2 => ua_ne _ _ (by omega)⟩
theorem cut_bad {u : MW} (hu : CS u s.1 s.2) {a b c : Int32} (h : ((a < 0 ∨ 8 ≤ a) ∨ (c < 0 ∨ 8 ≤ c) ∨ a = c) ∨ (b < 0 ∨ 9999 < b)) : f_X7_cutAbove fu u 1 a b c = some (-1, u) := by
  rw [f_X7_cutAbove, hu.cl]
  rcases set_cases a with ⟨i, hi, rfl⟩ | ha
  · rw [heapAt_in hu hi, some_bind']
    dsimp only
    rw [hu.cl]
    rcases set_cases c with ⟨j, hj, rfl⟩ | hc
    · rw [heapAt_in hu hj, some_bind']
      dsimp only
      by_cases e : nI i = nI j
      · rw [if_pos e]
      · rw [if_neg e, isKey_out, if_pos rfl]
        rcases h with (h | h | h) | h
        · exact absurd ⟨(in_set hi).1, (in_set hi).2, trivial⟩ (out_not (P := True) h)
        · exact absurd ⟨(in_set hj).1, (in_set hj).2, trivial⟩ (out_not (P := True) h)
        · exact absurd h e
        · exact h
    · rw [heapAt_out hc, some_bind']
  · rw [heapAt_out ha, some_bind']
    dsimp only
    rw [hu.cl]
    rcases set_cases c with ⟨j, hj, rfl⟩ | hc
    · rw [heapAt_in hu hj, some_bind']
    · rw [heapAt_out hc, some_bind']
theorem join_bad {u : MW} (hu : CS u s.1 s.2) {a c : Int32} (h : (a < 0 ∨ 8 ≤ a) ∨ (c < 0 ∨ 8 ≤ c) ∨ a = c) : f_X7_joinTo fu u 1 a c = some (-1, u) := by
  rw [f_X7_joinTo, hu.cl]
  rcases set_cases a with ⟨i, hi, rfl⟩ | ha
  · rw [heapAt_in hu hi, some_bind']
    dsimp only
    rw [hu.cl]
    rcases set_cases c with ⟨j, hj, rfl⟩ | hc
    · rw [heapAt_in hu hj, some_bind']
      dsimp only
      rw [if_pos]
      rcases h with h | h | h
      · exact absurd ⟨(in_set hi).1, (in_set hi).2, trivial⟩ (out_not (P := True) h)
      · exact absurd ⟨(in_set hj).1, (in_set hj).2, trivial⟩ (out_not (P := True) h)
      · exact h
    · rw [heapAt_out hc, some_bind']
  · rw [heapAt_out ha, some_bind']
    dsimp only
    rw [hu.cl]
    rcases set_cases c with ⟨j, hj, rfl⟩ | hc
    · rw [heapAt_in hu hj, some_bind']
    · rw [heapAt_out hc, some_bind']
theorem move_bad {u : MW} (hu : CS u s.1 s.2) {a b d c : Int32} (h : ((a < 0 ∨ 8 ≤ a) ∨ (c < 0 ∨ 8 ≤ c) ∨ a = c) ∨ (b < 0 ∨ 9999 < b) ∨ (d < 0 ∨ 9999 < d)) : f_X7_moveStretch fu u 1 a b d c = some (-1, u) := by
  rw [f_X7_moveStretch, hu.cl]
  rcases set_cases a with ⟨i, hi, rfl⟩ | ha
  · rw [heapAt_in hu hi, some_bind']
    dsimp only
    rw [hu.cl]
    rcases set_cases c with ⟨j, hj, rfl⟩ | hc
    · rw [heapAt_in hu hj, some_bind']
      dsimp only
      by_cases e : nI i = nI j
      · rw [if_pos e]
      · rw [if_neg e]
        by_cases e2 : f_X10_isKey b = 0
        · rw [if_pos e2]
        · rw [if_neg e2, isKey_out, if_pos rfl]
          rcases h with (h | h | h) | h | h
          · exact absurd ⟨(in_set hi).1, (in_set hi).2, trivial⟩ (out_not (P := True) h)
          · exact absurd ⟨(in_set hj).1, (in_set hj).2, trivial⟩ (out_not (P := True) h)
          · exact absurd h e
          · exact absurd (isKey_out h) e2
          · exact h
    · rw [heapAt_out hc, some_bind']
  · rw [heapAt_out ha, some_bind']
    dsimp only
    rw [hu.cl]
    rcases set_cases c with ⟨j, hj, rfl⟩ | hc
    · rw [heapAt_in hu hj, some_bind']
    · rw [heapAt_out hc, some_bind']
theorem hmb_above {L : List Nat} (S : SOK L) {k : Nat} (hk : k < 10000) : hmb L (nI (k + 1)) (nI 9999) = L.length - nab L (nI k) := by
  rw [← cnt_hmb _ _ L S]; exact cnt_above S hk
theorem hmb_all {L : List Nat} (S : SOK L) : hmb L (nI 0) (nI 9999) = L.length := by
  rw [← cnt_hmb _ _ L S]; exact cnt_all S
/-- none between: each is below or above -/
theorem hmb_no {L : List Nat} (S : SOK L) {a b : Nat} (ha : a < 2 ^ 31) (hb : b < 2 ^ 31) (h : hmb L (nI a) (nI b) = 0) : ∀ z ∈ L, z / 2 < a ∨ b < z / 2 := by
  intro z hz
  rw [← cnt_hmb _ _ L S] at h
  have h1 := (List.countP_eq_zero.mp h) z hz
  have h2 := S.2.1 z hz
  rcases Nat.lt_or_ge (z / 2) a with q | q
  · exact Or.inl q
  · rcases Nat.lt_or_ge b (z / 2) with q2 | q2
    · exact Or.inr q2
    · refine absurd ?_ h1
      rw [decide_eq_true (nI_le q (by omega)), decide_eq_true (nI_le q2 (by omega))]; rfl
theorem mrCut {b : Nat} (B : MB C F ar b s) {fu : Nat} (hfu : 100 ≤ fu) {i j k : Nat} (hi : i < 8) (hj : j < 8) (hij : i ≠ j) (hk : k < 10000) : f_X11_refusesCut fu (mW C F v ar) 123 (nI i) (nI k) (nI j) = some (wOf (xCut s i k j).1) := by
  have S := B.2.2.2.2 i hi
  have hl := S.len
  have hl2 := (B.2.2.2.2 j hj).len
  rw [f_X11_refusesCut, B.cl, mTwo_in hi hj hij, some_bind', mKey_in hk, if_neg (by decide), if_neg (by decide), nI_1, B.cl, show (9999 : Int32) = nI 9999 from rfl, B.counted hi hfu, hmb_above S hk, some_bind']
  unfold xCut
  by_cases c1 : (s.1 i).length - nab (s.1 i) (nI k) = 0
  · rw [if_pos ((nI_eq0 (by omega)).mpr c1), if_pos c1, wOf_2]
  · rw [if_neg (fun q => c1 ((nI_eq0 (by omega)).mp q)), if_neg c1, B.cl, B.many hj, some_bind']
    by_cases c2 : 0 < (s.1 j).length
    · rw [if_neg (fun q => by have := (nI_le0 (by omega)).mp q; omega), if_pos c2, wOf_3]
    · rw [if_pos ((nI_le0 (by omega)).mpr (by omega)), if_neg c2, wOf_n (by omega)]
theorem xCut_do (O : ∀ i, i < 8 → SOK (s.1 i)) {i j k : Nat} (hi : i < 8) (hj : j < 8) (hij : i ≠ j) (hx : ¬ (xCut s i k j).1 < 0) : 1 ≤ (s.1 i).length - nab (s.1 i) (nI k) ∧ (s.1 j).length = 0 ∧ xCut s i k j = (nI ((s.1 i).length - nab (s.1 i) (nI k)), giveA s i j (nab (s.1 i) (nI k)) ((s.1 i).length - nab (s.1 i) (nI k))) ∧ ∀ q, q < 8 → SOK ((giveA s i j (nab (s.1 i) (nI k)) ((s.1 i).length - nab (s.1 i) (nI k))).1 q) := by
  have hl := (O i hi).len
  have hn := nab_le (s.1 i) (nI k)
  unfold xCut at hx ⊢
  by_cases c1 : (s.1 i).length - nab (s.1 i) (nI k) = 0
  · rw [if_pos c1] at hx; exact absurd (show (-2 : Int32) < 0 by decide) hx
  · rw [if_neg c1] at hx ⊢
    by_cases c2 : 0 < (s.1 j).length
    · rw [if_pos c2] at hx; exact absurd (show (-3 : Int32) < 0 by decide) hx
    · rw [if_neg c2]
      refine ⟨by omega, by omega, rfl, (goI_giveA O hi hj hij (by omega) (by omega) (by omega) (fun z hz => ?_)).2⟩
      have : s.1 j = [] := List.length_eq_zero_iff.mp (by omega)
      rw [this] at hz; simp at hz
theorem xCut_rz (O : AOK s.1) {i j k : Nat} (hi : i < 8) (hj : j < 8) (hij : i ≠ j) : RZ s (xCut s i k j) ∧ AOK (xCut s i k j).2.1 := by
  have hl := (O.1 i hi).len
  have hn := nab_le (s.1 i) (nI k)
  by_cases hx : (xCut s i k j).1 < 0
  · unfold xCut at hx ⊢
    by_cases c1 : (s.1 i).length - nab (s.1 i) (nI k) = 0
    · rw [if_pos c1]; exact ⟨fun _ => ⟨rfl, by simp⟩, O⟩
    · rw [if_neg c1] at hx ⊢
      by_cases c2 : 0 < (s.1 j).length
      · rw [if_pos c2]; exact ⟨fun _ => ⟨rfl, by simp⟩, O⟩
      · rw [if_neg c2] at hx; exact absurd hx (nI_pos (by omega))
  · obtain ⟨h1, h2, h3, h4⟩ := xCut_do O.1 hi hj hij hx
    refine ⟨fun q => absurd q hx, ?_⟩
    rw [h3]
    exact give_aok O hi hj hij (by omega) h4
theorem cut_res (G : Good C F v ar s V n) (hfu : 20000 ≤ fu) (a b c : Int32) : ∃ s' V', Res C F ar s' V' (f_X10_cut fu (mW C F v ar) 0 a b c) (fun w => f_X11_cut fu w 123 a b c) := by
  have e1 : f_X10_cut fu (mW C F v ar) 0 a b c = actOf (fun w p => f_X7_cutAbove fu w p a b c) fu (mW C F v ar) := rfl
  have e2 : (fun w => f_X11_cut fu w 123 a b c) = mactOf (fun w => f_X11_refusesCut fu w 123 a b c) (fun w => (cl w 11 123 (f_X11_goOver fu w 123 a (b + (1 : Int32)) (9999 : Int32) c)).bind fun q8 => some (q8.1, q8.2)) fu := rfl
  rw [e1, e2]
  have B := G.1.mb
  have O := G.1.2.2.2.1
  have hfu2 : 100 ≤ fu := by omega
  rcases two_cases a c with ⟨i, j, hi, hj, hij, rfl, rfl⟩ | hac
  · rcases key_cases b with ⟨k, hk, rfl⟩ | hb
    · obtain ⟨z1, z2⟩ := xCut_rz (k := k) O hi hj hij
      have z3 : FOK s → FOK (xCut s i k j).2 := fun h => by
        unfold xCut; split
        · exact h
        · split
          · exact h
          · exact h.give _ _ _ _
      have hl := (O.1 i hi).len
      have hn := nab_le (s.1 i) (nI k)
      refine ⟨_, _, act_res G hfu z2 z3 hpl_31 (fun u hu hz => ?_) z1 (fun C' hC' => ?_) (fun hx C' F' al hC' hF hM => ?_)⟩
      · obtain ⟨u', g1, g2, g3⟩ := ccut_ok hu O hfu2 hi hj hij hk
        exact ⟨u', g1, g2, hz.hp g3, g3⟩
      · exact mrCut (B.F hC' rfl B.2.2.2.1 O.1) hfu2 hi hj hij hk
      · obtain ⟨h1, h2, h3, h4⟩ := xCut_do O.1 hi hj hij hx
        obtain ⟨al2, g1, g2⟩ := give_do (v := v) B hfu2 hi hj hij (hmb_above (O.1 i hi) hk) (bel_succ (O.1 i hi) hk) h1 (by omega) (by omega) (fun z hz => by
          have : s.1 j = [] := List.length_eq_zero_iff.mp (by omega)
          rw [this] at hz; simp at hz) hC' hF hM
        rw [h3]
        refine ⟨F', v, _, ?_, g2⟩
        rw [m_cl hC', nI_1, show (9999 : Int32) = nI 9999 from rfl, g1, some_bind']
    · refine ⟨_, _, act_bad G hfu (fun u hu => cut_bad hu (Or.inr hb)) (fun C' hC' => ?_)⟩
      rw [f_X11_refusesCut, m_cl hC', mTwo_in hi hj hij, some_bind', mKey_out hb, if_neg (by decide), if_pos rfl]
  · refine ⟨_, _, act_bad G hfu (fun u hu => cut_bad hu (Or.inl hac)) (fun C' hC' => ?_)⟩
    rw [f_X11_refusesCut, m_cl hC', mTwo_out hac, some_bind', if_pos rfl]
end R
