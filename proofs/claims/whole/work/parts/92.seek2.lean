section M
variable {C : MW} {v : Int64} {fu : Nat}
theorem laysRow_loop {b : Nat} {s : AS} {i : Nat} (hi : i < 8) {F : Nat → Int32} (h11 : F 11 = nI (s.1 i).length) : ∀ N k ar, MB C F ar b s → (∀ j, j < k → ar 4 j = nI (nth (s.1 i) j / 2)) → k ≤ (s.1 i).length → (s.1 i).length - k < N → ∃ g, f_X11_laysRow_11 fu N (mW C F v ar) 123 (nI i) (nI k) = some (mW C F v (ua ar 4 g)) ∧ (∀ j, j < (s.1 i).length → g j = nI (nth (s.1 i) j / 2)) := by
  intro N
  induction N with
  | zero => intro k ar _ _ _ hN; omega
  | succ N ih =>
    intro k ar B hr hk hN
    have l1 := (B.2.2.2.2 i hi).len
    rw [f_X11_laysRow_11, m_gI B.1 _ v ar 11 rfl, some_bind', h11]
    by_cases c : (s.1 i).length ≤ k
    · rw [if_pos (nI_le c (by omega))]
      exact ⟨ar 4, by rw [ua_self], fun j hj => hr j (by omega)⟩
    · have B1 : MB C F (ua ar 4 (upd (ar 4) k (nI (nth (s.1 i) k / 2)))) b s := B.F B.1 rfl (by rw [ua_ne _ _ (by omega)]; exact B.2.2.2.1) B.2.2.2.2
      obtain ⟨g, k1, k2⟩ := ih (k + 1) _ B1 (fun j hj => by
        rw [ua_eq]
        by_cases q : j = k
        · rw [q, upd_eq]
        · rw [upd_ne _ _ q]; exact hr j (by omega)) (by omega) (by omega)
      rw [if_neg (nI_ge (by omega) (by omega)), m_gR B.1 _ v ar 10 rfl, some_bind', B.cl, B.key hi (by omega), some_bind', m_s4 B.1 _ v ar _ (by omega), some_bind', bnd_eq, nI_1, k1, ua_ua]
      exact ⟨g, rfl, k2⟩
theorem laysRow_ok {b : Nat} {s : AS} {i : Nat} (hi : i < 8) {F : Nat → Int32} {ar : Nat → Nat → Int32} (hfu : 100 ≤ fu) (B : MB C F ar b s) : ∃ g, f_X11_laysRow fu (mW C F v ar) 123 (nI i) = some (mW C (upd F 11 (nI (s.1 i).length)) v (ua ar 4 g)) ∧ RH (ua ar 4 g) (kys (s.1 i)) ∧ MB C (upd F 11 (nI (s.1 i).length)) (ua ar 4 g) b s := by
  have l1 := (B.2.2.2.2 i hi).len
  have B1 : MB C (upd F 11 (nI (s.1 i).length)) ar b s := B.F B.1 (upd_ne _ _ (by omega)) B.2.2.2.1 B.2.2.2.2
  obtain ⟨g, g1, g2⟩ := laysRow_loop (v := v) (fu := fu) hi (upd_eq _ _ _) fu 0 ar B1 (fun j hj => by omega) (by omega) (by omega)
  refine ⟨g, ?_, fun j hj => ?_, B1.F B1.1 rfl (by rw [ua_ne _ _ (by omega)]; exact B1.2.2.2.1) B1.2.2.2.2⟩
  · rw [f_X11_laysRow, B.cl, B.many hi, some_bind', m_p B.1 _ v ar 11 (by omega) mFw.2.2.2.2, some_bind', bnd_eq]
    exact g1
  · rw [kys_len] at hj
    rw [ua_eq, g2 j hj, kys_nth hj]
end M
/-- where one seeks to -/
def skR (L : List Nat) (k : Nat) : Nat := nab L (nI k) - 1
def xSeek (s : AS) (i k : Nat) (x : Int32) : Int32 × AS := if (s.1 i).length = 0 then (-2, s) else (x, (s.1, va_up s.2 i (nI (nth (s.1 i) (skR (s.1 i) k) / 2))))
theorem skR_lt {L : List Nat} {k : Nat} (h : 0 < L.length) : skR L k < L.length := by
  unfold skR
  have := nab_le L (nI k)
  omega
theorem mseek_act {fu : Nat} {a b : Int32} : (fun w => f_X11_seek fu w 123 a b) = mactOf (fun w => if (f_X11_isSet a) = 0 then some 1 else if (f_X11_isKey b) = 0 then some 1 else (cl w 11 123 (f_X11_many w 123 a)).bind fun q => if q = 0 then some 2 else some 0) (fun w => (cl w 11 123 (f_X11_below fu w 123 a (b + (1 : Int32)))).bind fun q5 => bnd (q5 - (1 : Int32)) fun x8 => if 0 ≤ x8 then f_X11_seek_66 fu w 123 a x8 else f_X11_seek_66 fu w 123 a (0 : Int32)) fu := by
  funext w
  unfold f_X11_seek mactOf f_X11_seek_32
  rcases cl_cases w 11 123 with h | h
  · simp only [h]
    by_cases c1 : f_X11_isSet a = 0
    · rw [if_pos c1, if_pos c1]; rfl
    · rw [if_neg c1, if_neg c1]
      by_cases c2 : f_X11_isKey b = 0
      · rw [if_pos c2, if_pos c2]; rfl
      · rw [if_neg c2, if_neg c2]
        rcases f_X11_many w 123 a with _ | q
        · rfl
        · rw [some_bind', some_bind']
          by_cases c3 : q = 0
          · rw [if_pos c3, if_pos c3]; rfl
          · rw [if_neg c3, if_neg c3]; rfl
  · simp only [h]
    by_cases c1 : f_X11_isSet a = 0
    · rw [if_pos c1]; rfl
    · rw [if_neg c1]
      by_cases c2 : f_X11_isKey b = 0
      · rw [if_pos c2]; rfl
      · rw [if_neg c2]; rfl
theorem fg_plc {L : List Nat} (S : SOK L) {e : Nat} (he : e ∈ L) : ∃ p, p < L.length ∧ plc L (nI (e / 2)) = nI p ∧ nth L p / 2 = e / 2 := by
  have hb := S.2.1 e he
  have hne : ¬ plc L (nI (e / 2)) = -1 := fun q => (plc_iff S (by omega)).mp q e he rfl
  obtain ⟨h1, h2⟩ := plc_ne hne
  have h3 := key_eq S hne
  have h4 := S.lt h1
  exact ⟨_, h1, h2, (nI_eq (by omega) (by omega)).mp h3⟩
section R
variable {C : MW} {F : Nat → Int32} {v : Int64} {ar : Nat → Nat → Int32} {s : AS} {V : List AS} {n : Nat} {fu : Nat}
theorem seek_fin {u : MW} (hu : CS u s.1 s.2) (O : ∀ q, q < 8 → SOK (s.1 q)) {i k : Nat} (hi : i < 8) (h0 : 0 < (s.1 i).length) (x : Int32) : ∃ u', f_X7_seekFrom_72 fu u (13 + 2 * i) (nI (skR (s.1 i) k)) x = some (x, u') ∧ CS u' s.1 (va_up s.2 i (nI (nth (s.1 i) (skR (s.1 i) k) / 2))) ∧ Chg hpl u u' := by
  have S := O i hi
  have H := hu.ha hi
  have hr := skR_lt (k := k) h0
  obtain ⟨hne, h1, xs, h2, h3⟩ := id H
  have c1 := Chg.st (ks := [13 + 2 * i, 14 + 2 * i]) u (a := 13 + 2 * i) (.inr (0, [.ref (14 + 2 * i), .int (nI (s.1 i).length), .int (nI (nth (s.1 i) (skR (s.1 i) k) / 2))])) List.mem_cons_self
  have H2 : HA (u.set (13 + 2 * i) (.inr (0, [.ref (14 + 2 * i), .int (nI (s.1 i).length), .int (nI (nth (s.1 i) (skR (s.1 i) k) / 2))]))) (13 + 2 * i) (14 + 2 * i) (s.1 i) (nI (nth (s.1 i) (skR (s.1 i) k) / 2)) := ⟨hne, get_set_eq h1, xs, by rw [get_set_ne hne]; exact h2, h3⟩
  refine ⟨_, ?_, (hu.put hi H2 c1).ext (fun t ht => ⟨?_, rfl⟩), c1.mono (hpl_in hi)⟩
  · rw [f_X7_seekFrom_72, bnd_eq, H.cl, keyAt_in H S hr, some_bind', pV_ob h1 (by simp), some_bind']
    rfl
  · by_cases q : t = i
    · rw [q, vu_eq]
    · rw [vu_ne _ _ q]
theorem tk_31 : ∀ k, k ∈ tKs ++ hpl → 1 ≤ k ∧ k < 31 := by decide
theorem seek_res (G : Good C F v ar s V n) (hfu : 20000 ≤ fu) (a b : Int32) : ∃ s' V', Res C F ar s' V' (f_X10_seek fu (mW C F v ar) 0 a b) (fun w => f_X11_seek fu w 123 a b) := by
  have e1 : f_X10_seek fu (mW C F v ar) 0 a b = actOf (fun w p => f_X7_seekFrom fu w p a b) fu (mW C F v ar) := rfl
  rw [e1, mseek_act]
  have B := G.1.mb
  have O := G.1.2.2.2.1
  have FO := G.2.2.1
  have hfu2 : 100 ≤ fu := by omega
  have hfu3 : 200 ≤ fu := by omega
  rcases set_cases a with ⟨i, hi, rfl⟩ | ha
  · rcases key_cases b with ⟨k, hk, rfl⟩ | hb
    · have S := O.1 i hi
      have l1 := S.len
      have KK := kys_ok S
      have hnb := nab_le (s.1 i) (nI k)
      have hinj : ∀ p q, p < (kys (s.1 i)).length → q < (kys (s.1 i)).length → pF (kys (s.1 i)) p = pF (kys (s.1 i)) q → p = q := fun p q hp hq e => KK.inj hp hq e
      by_cases h0 : (s.1 i).length = 0
      · -- nothing to be done
        have ex : ∀ x, xSeek s i k x = (-2, s) := fun x => by unfold xSeek; rw [if_pos h0]
        have := act_res (x := -2) (s' := s) (ks := []) G hfu O id (by simp) (f := fun w p => f_X7_seekFrom fu w p (nI i) (nI k)) (fun u hu hz => ⟨u, by
          rw [f_X7_seekFrom, hu.cl, heapAt_in hu hi, some_bind']
          dsimp only
          rw [isKey_in hk, if_neg (by decide), gI_ob (hu.ha hi).2.1 rfl, some_bind', if_pos ((nI_eq0 (by omega)).mpr h0)], hu, hz, Chg.rf _ _⟩) (fun _ => ⟨rfl, by simp⟩) (R := fun w => if (f_X11_isSet (nI i)) = 0 then some 1 else if (f_X11_isKey (nI k)) = 0 then some 1 else (cl w 11 123 (f_X11_many w 123 (nI i))).bind fun q => if q = 0 then some 2 else some 0) (D := fun w => (cl w 11 123 (f_X11_below fu w 123 (nI i) (nI k + (1 : Int32)))).bind fun q5 => bnd (q5 - (1 : Int32)) fun x8 => if 0 ≤ x8 then f_X11_seek_66 fu w 123 (nI i) x8 else f_X11_seek_66 fu w 123 (nI i) (0 : Int32)) (fun C' hC' => by
            have B1 : MB C' F ar 0 s := B.F hC' rfl B.2.2.2.1 O.1
            rw [mSet_in hi, mKey_in hk, if_neg (by decide), if_neg (by decide), B1.cl, B1.many hi, some_bind', if_pos ((nI_eq0 (by omega)).mpr h0), if_pos (by decide)]
            rfl) (fun c => absurd (by decide) c)
        exact ⟨_, _, this⟩
      · have h0' : 0 < (s.1 i).length := by omega
        have hr := skR_lt (k := k) h0'
        -- the place that one comes from, and the answer
        obtain ⟨p, hp, hpf⟩ : ∃ p, p < (s.1 i).length ∧ ((s.2 i = -1 ∧ p = skR (s.1 i) k) ∨ (¬ s.2 i = -1 ∧ plc (s.1 i) (s.2 i) = nI p)) := by
          rcases FO i hi with q | ⟨e, he, q⟩
          · exact ⟨_, hr, Or.inl ⟨q, rfl⟩⟩
          · obtain ⟨p, p1, p2, p3⟩ := fg_plc S he
            have hb := S.2.1 e he
            exact ⟨p, p1, Or.inr ⟨by rw [q]; exact m1_ne _ (by omega), by rw [q]; exact p2⟩⟩
        obtain ⟨m, hm⟩ := argm_ex (pF (kys (s.1 i))) (min p (skR (s.1 i) k)) (max p (skR (s.1 i) k) + 1) (by omega)
        have hkl := kys_len (s.1 i)
        have d1 := argm_dep KK (show max p (skR (s.1 i) k) + 1 ≤ (kys (s.1 i)).length by omega) hm (z := p) (by omega) (by omega)
        have d2 := argm_dep KK (show max p (skR (s.1 i) k) + 1 ≤ (kys (s.1 i)).length by omega) hm (z := skR (s.1 i) k) (by omega) (by omega)
        have d3 := dep_lt (P := pF (kys (s.1 i))) (show p < (kys (s.1 i)).length by omega)
        have d4 := dep_lt (P := pF (kys (s.1 i))) (show skR (s.1 i) k < (kys (s.1 i)).length by omega)
        obtain ⟨x, hx⟩ : ∃ x, x = nI (dep (pF (kys (s.1 i))) (kys (s.1 i)).length p + dep (pF (kys (s.1 i))) (kys (s.1 i)).length (skR (s.1 i) k)) - nI (2 * dep (pF (kys (s.1 i))) (kys (s.1 i)).length m) := ⟨_, rfl⟩
        have hx0 : ¬ x < 0 := by rw [hx, nI_sub (by omega)]; exact nI_pos (by omega)
        have hx1 : s.2 i = -1 → x = 0 := fun q => by
          rcases hpf with ⟨_, q2⟩ | ⟨q2, _⟩
          · subst q2
            have : m = skR (s.1 i) k := by have h1 := hm.1; have h2 := hm.2.1; omega
            rw [hx, this, nI_sub (by omega)]
            rw [show ∀ d : Nat, d + d - 2 * d = 0 from fun d => by omega]
            rfl
          · exact absurd q q2
        refine ⟨(s.1, va_up s.2 i (nI (nth (s.1 i) (skR (s.1 i) k) / 2))), _, act_res (s' := (s.1, va_up s.2 i (nI (nth (s.1 i) (skR (s.1 i) k) / 2)))) (x := x) (ks := tKs ++ hpl) G hfu O (fun _ j hj => ?_) tk_31 (fun u hu hz => ?_) (fun q => absurd q hx0) (fun C' hC' => ?_) (fun _ C' F' al hC' hF hM => ?_)⟩
        · by_cases q : j = i
          · subst q
            simp only [vu_eq]
            exact Or.inr ⟨_, nth_mem hr, rfl⟩
          · simp only [vu_ne _ _ q]; exact FO j hj
        · -- the class
          have H := hu.ha hi
          have pre : f_X7_seekFrom fu u 1 (nI i) (nI k) = if s.2 i = -1 then f_X7_seekFrom_72 fu u (13 + 2 * i) (nI (skR (s.1 i) k)) 0 else (cl u 7 1 (f_X7_treeOf fu u 1 (13 + 2 * i))).bind fun q11 => (gI q11.2 0 (13 + 2 * i) 2).bind fun x14 => (cl q11.2 0 (13 + 2 * i) (f_X0_rankOf fu q11.2 (13 + 2 * i) x14)).bind fun q15 => (cl q11.2 8 q11.1 (f_X8_steps fu q11.2 q11.1 q15 (nI (skR (s.1 i) k)))).bind fun q18 => f_X7_seekFrom_72 fu q11.2 (13 + 2 * i) (nI (skR (s.1 i) k)) q18 := by
            rw [f_X7_seekFrom, hu.cl, heapAt_in hu hi, some_bind']
            dsimp only
            rw [isKey_in hk, if_neg (by decide), gI_ob H.2.1 rfl, some_bind', if_neg (fun q => h0 ((nI_eq0 (by omega)).mp q)), H.cl, notAbove_ok H S hfu2, some_bind', bnd_eq, gI_ob H.2.1 rfl, some_bind', show (1 : Int32) = nI 1 from rfl, imax0 (by omega) (by omega)]
            rfl
          dsimp only
          rw [pre]
          by_cases q : s.2 i = -1
          · rw [if_pos q, hx1 q]
            obtain ⟨u', g1, g2, g3⟩ := seek_fin (fu := fu) hu O.1 hi (k := k) h0' 0
            exact ⟨u', g1, g2, hz.hp g3, g3.mono (fun k hk => List.mem_append_right _ hk)⟩
          · obtain ⟨u1, k1, k2, k3, k4, k5⟩ := treeOf_ok hfu2 hu hz O.1 hi
            obtain ⟨u', g1, g2, g3⟩ := seek_fin (fu := fu) k3 O.1 hi (k := k) h0' x
            have hpp : plc (s.1 i) (s.2 i) = nI p := by
              rcases hpf with ⟨q2, _⟩ | ⟨_, q2⟩
              · exact absurd q2 q
              · exact q2
            rw [if_neg q, hu.cl, k1, some_bind', gI_ob (k3.ha hi).2.1 rfl, some_bind', (k3.ha hi).cl, rankOf_ok (k3.ha hi) S hfu2, some_bind', hpp, k2.cl, steps_ok hfu3 k2 KK (by omega) (by omega) hm, some_bind', ← hx]
            exact ⟨u', g1, g2, k4.hp g3, (k5.mono (fun k hk => List.mem_append_left _ hk)).tr (g3.mono (fun k hk => List.mem_append_right _ hk))⟩
        · have B1 : MB C' F ar 0 s := B.F hC' rfl B.2.2.2.1 O.1
          rw [mSet_in hi, mKey_in hk, if_neg (by decide), if_neg (by decide), B1.cl, B1.many hi, some_bind', if_neg (fun q => h0 ((nI_eq0 (by omega)).mp q)), if_neg hx0]
        · -- the model
          have B1 : MB C' F' (ua ar 0 al) 0 s := B.F hC' (hF 9 (by omega)) (by rw [ua_eq]; exact hM) O.1
          have hM1 : M8 (upd al (0 + 122 * i + 1) (nI (nth (s.1 i) (skR (s.1 i) k) / 2))) 0 (s.1, va_up s.2 i (nI (nth (s.1 i) (skR (s.1 i) k) / 2))) := by
            have hMi := hM i hi
            have := hM.put O.1 hi (L := s.1 i) (f := nI (nth (s.1 i) (skR (s.1 i) k) / 2)) (al' := upd al (0 + 122 * i + 1) (nI (nth (s.1 i) (skR (s.1 i) k) / 2))) ⟨by rw [upd_ne _ _ (by omega)]; exact hMi.1, upd_eq _ _ _, fun j hj => by rw [upd_ne _ _ (by omega), upd_ne _ _ (by omega)]; exact hMi.2.2 j hj⟩ (fun q hq => upd_ne _ _ (by omega))
            have e : va_up s.1 i (s.1 i) = s.1 := by
              funext t; by_cases q : t = i
              · rw [q, vu_eq]
              · rw [vu_ne _ _ q]
            rw [e] at this
            exact this
          have B2 : MB C' F' (ua (ua ar 0 al) 0 (upd al (0 + 122 * i + 1) (nI (nth (s.1 i) (skR (s.1 i) k) / 2)))) 0 (s.1, va_up s.2 i (nI (nth (s.1 i) (skR (s.1 i) k) / 2))) := B1.F hC' rfl (by rw [ua_eq]; exact hM1) O.1
          obtain ⟨g, k1, k2, k3⟩ := laysRow_ok (v := v) hi hfu2 B2
          obtain ⟨F2, m', k4, k5, k6⟩ := mfar_ok (v := v) (F := upd F' 11 (nI (s.1 i).length)) hC' hfu3 KK k2 (by rw [upd_eq, hkl]) (i := p) (j := skR (s.1 i) k) (by omega) (by omega)
          have em : m' = m := argm_u hinj (by omega) k5 hm
          rw [em, ← hx] at k4
          have fin : f_X11_seek_92 fu (mW C' F' v (ua ar 0 al)) 123 (nI i) (nI (skR (s.1 i) k)) (nI p) = some (x, mW C' F2 v (ua (ua (ua ar 0 al) 0 (upd al (0 + 122 * i + 1) (nI (nth (s.1 i) (skR (s.1 i) k) / 2)))) 4 g)) := by
            rw [f_X11_seek_92, bnd_eq, B1.cl, B1.key hi hr, some_bind', B1.cl, mpoints_ok B1.1 B1.2.1 B1.2.2.1 hi, some_bind', ua_eq, B2.cl, k1, some_bind', k3.cl, k4, some_bind']
          refine ⟨F2, v, ua (ua (ua ar 0 al) 0 (upd al (0 + 122 * i + 1) (nI (nth (s.1 i) (skR (s.1 i) k) / 2)))) 4 g, ?_, by rw [ua_ne _ _ (by omega), ua_eq]; exact hM1, fun q hq => by rw [ua_ne _ _ (by omega), ua_eq, upd_ne _ _ (by omega)], fun k hk => by rw [k6 k (by omega), upd_ne _ _ (by omega)], fun k h1 h2 => by rw [ua_ne _ _ (by omega), ua_ne _ _ (by omega), ua_ne _ _ (by omega)]⟩
          have hsk : ∀ y, y = nI (skR (s.1 i) k) → f_X11_seek_66 fu (mW C' F' v (ua ar 0 al)) 123 (nI i) y = some (x, mW C' F2 v (ua (ua (ua ar 0 al) 0 (upd al (0 + 122 * i + 1) (nI (nth (s.1 i) (skR (s.1 i) k) / 2)))) 4 g)) := by
            intro y hy
            subst hy
            rw [f_X11_seek_66, bnd_eq, B1.cl, B1.finger hi, some_bind']
            rcases hpf with ⟨q1, q2⟩ | ⟨q1, q2⟩
            · rw [if_pos q1, ← fin, q2]
            · rw [if_neg q1, some_bind', B1.cl, B1.place hi hfu2, some_bind', q2, fin]
          rw [nI_1, B1.cl, B1.below hi hfu2, some_bind', bnd_eq, bel_succ S hk, mI_sub]
          rcases Nat.eq_zero_or_pos (nab (s.1 i) (nI k)) with q | q
          · rw [q, mI_0, if_neg (by decide)]
            exact hsk _ (by unfold skR; rw [q]; rfl)
          · obtain ⟨z, hz⟩ : ∃ z, nab (s.1 i) (nI k) = z + 1 := ⟨nab (s.1 i) (nI k) - 1, by omega⟩
            rw [hz, mI_s, if_pos (nI_pos' (by omega))]
            exact hsk _ (by unfold skR; rw [hz]; rfl)
    · refine ⟨_, _, act_bad G hfu (fun u hu => ?_) (fun C' hC' => ?_)⟩
      · rw [f_X7_seekFrom, hu.cl, heapAt_in hu hi, some_bind']
        dsimp only
        rw [isKey_out hb, if_pos rfl]
      · rw [mSet_in hi, mKey_out hb, if_neg (by decide), if_pos rfl]
  · refine ⟨_, _, act_bad G hfu (fun u hu => ?_) (fun C' hC' => ?_)⟩
    · rw [f_X7_seekFrom, hu.cl, heapAt_out ha, some_bind']
    · rw [mSet_out ha, if_pos rfl]
end R
