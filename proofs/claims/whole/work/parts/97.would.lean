/-! WOULD -/
theorem gK_no (v3 : Int32) : ∀ (ks : List Nat), (∀ k ∈ ks, ¬ nI k = v3) → gK v3 none ks = ks
  | [], _ => rfl
  | k :: ks, h => by
    rw [gK, if_neg (h k List.mem_cons_self), gK_no v3 ks (fun x hx => h x (List.mem_cons_of_mem _ hx))]
    rfl
theorem kys_cons (e : Nat) (L : List Nat) : kys (e :: L) = e / 2 :: kys L := rfl
theorem gK_ins : ∀ (L : List Nat) (k : Nat), SOK L → k < 10000 → (∀ e ∈ L, e / 2 ≠ k) → gK (-1) (some k) (kys L) = insAt (kys L) (bel L (nI k)) [k]
  | [], k, _, _, _ => rfl
  | e :: L, k, S, hk, hn => by
    have he := S.2.1 e List.mem_cons_self
    have hne := hn e List.mem_cons_self
    have hK := (kys_ok S.tail).2.1
    rw [kys_cons, gK, bel_cons, if_neg (m1_ne (e / 2) (by omega))]
    by_cases c : k < e / 2
    · rw [if_pos c, if_neg (nI_nlt (by omega) (by omega)), gK_none (kys L) hK]
      rfl
    · rw [if_neg c, if_pos (nI_lt (by omega) (by omega)), gK_ins L k S.tail hk (fun x hx => hn x (List.mem_cons_of_mem _ hx))]
      rfl
theorem gK_era : ∀ (L : List Nat) (k : Nat), SOK L → k < 10000 → (∃ e ∈ L, e / 2 = k) → gK (nI k) none (kys L) = (kys L).eraseIdx (bel L (nI k))
  | [], k, _, _, h => by obtain ⟨e, he, _⟩ := h; simp at he
  | e :: L, k, S, hk, h => by
    have he := S.2.1 e List.mem_cons_self
    have P := (List.pairwise_cons.mp S.1).1
    rw [kys_cons, gK, bel_cons]
    by_cases c : e / 2 = k
    · rw [if_pos (by rw [c]), if_neg (by rw [c]; exact Int32.not_lt.mpr (Int32.le_refl _)), gK_no (nI k) (kys L) (fun x hx => ?_)]
      · rfl
      · obtain ⟨y, hy, rfl⟩ := List.mem_map.mp hx
        intro q
        have h1 := P y hy
        have h2 := S.2.1 y (List.mem_cons_of_mem _ hy)
        have := (nI_eq (by omega) (by omega)).mp q
        omega
    · obtain ⟨y, hy, hy2⟩ := h
      rcases List.mem_cons.mp hy with rfl | hy
      · exact absurd hy2 c
      · have h1 := P y hy
        rw [if_neg (fun q => c ((nI_eq (by omega) (by omega)).mp q)), if_pos (nI_lt (by omega) (by omega)), gK_era L k S.tail hk ⟨y, hy, hy2⟩]
        rfl
theorem nth_take {K : List Nat} {r j : Nat} (h : j < r) : nth (K.take r) j = nth K j := by
  unfold nth
  rw [List.getD_eq_getElem?_getD, List.getElem?_take_of_lt h, List.getD_eq_getElem?_getD]
theorem nth_drop {K : List Nat} {r j : Nat} : nth (K.drop r) j = nth K (r + j) := by
  unfold nth
  rw [List.getD_eq_getElem?_getD, List.getElem?_drop, List.getD_eq_getElem?_getD]
theorem KO_ins {L : List Nat} (S : SOK L) {k : Nat} (hk : k < 10000) (hn : ∀ e ∈ L, e / 2 ≠ k) : KO (insAt (kys L) (bel L (nI k)) [k]) := by
  have hb := bel_le L (nI k)
  have l1 := S.len
  have KK := kys_ok S
  have hkl := kys_len L
  refine ⟨?_, fun x hx => ?_, ?_⟩
  · unfold insAt
    rw [List.append_assoc]
    refine List.pairwise_append.mpr ⟨KK.1.sublist (List.take_sublist _ _), ?_, fun x hx y hy => ?_⟩
    · refine List.pairwise_append.mpr ⟨List.pairwise_singleton _ _, KK.1.sublist (List.drop_sublist _ _), fun x hx y hy => ?_⟩
      rw [List.mem_singleton.mp hx]
      obtain ⟨j, hj, rfl⟩ := mem_nth hy
      rw [List.length_drop] at hj
      rw [nth_drop, kys_nth (by omega)]
      have h1 := bel_iff (nI k) L S (bel L (nI k) + j) (by omega)
      have h2 := S.lt (show bel L (nI k) + j < L.length by omega)
      have h3 := hn _ (nth_mem (show bel L (nI k) + j < L.length by omega))
      rcases Nat.lt_or_ge (nth L (bel L (nI k) + j) / 2) k with q | q
      · have := h1.mpr (nI_lt q (by omega)); omega
      · omega
    · obtain ⟨j, hj, rfl⟩ := mem_nth hx
      rw [List.length_take] at hj
      rw [nth_take (by omega), kys_nth (by omega)]
      have h2 := S.lt (show j < L.length by omega)
      have h1 := (nI_ltI (by omega) (by omega)).mp ((bel_iff (nI k) L S j (by omega)).mp (by omega))
      rcases List.mem_append.mp hy with hy | hy
      · rw [List.mem_singleton.mp hy]; exact h1
      · obtain ⟨z, hz, rfl⟩ := mem_nth hy
        rw [List.length_drop] at hz
        rw [nth_drop, kys_nth (by omega)]
        exact S.inc (by omega) (by omega)
  · rcases mem_insT hx with hx | hx
    · rw [List.mem_singleton.mp hx]; exact hk
    · exact KK.2.1 x hx
  · rw [insAt_len (by omega), hkl]
    show L.length + 1 ≤ 61
    omega
theorem KO_era {L : List Nat} (S : SOK L) (r : Nat) : KO ((kys L).eraseIdx r) := by
  have KK := kys_ok S
  exact ⟨KK.1.sublist (List.eraseIdx_sublist _ _), fun k hk => KK.2.1 k ((List.eraseIdx_sublist _ _).subset hk), Nat.le_trans (List.eraseIdx_sublist _ _).length_le KK.2.2⟩
section Q
variable {C : MW} {F : Nat → Int32} {v : Int64} {ar : Nat → Nat → Int32} {s : AS} {V : List AS} {n : Nat} {fu : Nat}
/-- from m on down to a, each is the one before it -/
def rwR (g : Nat → Int32) (a m : Nat) : Nat → Int32 := fun j => if a < j ∧ j ≤ m then g (j - 1) else g j
theorem wr_loop (hC : C.length = 123) {k v3 : Int32} {a : Nat} : ∀ N m ar, a ≤ m → m < 64 → m - a < N → f_X11_would_98 fu N (mW C F v ar) 123 k v3 (nI a) (nI m) = f_X11_would_127 fu (mW C F v (ua ar 4 (rwR (ar 4) a m))) 123 k v3 (nI a) := by
  intro N
  induction N with
  | zero => intro m ar _ _ hN; omega
  | succ N ih =>
    intro m ar ha hm hN
    rw [f_X11_would_98]
    by_cases c : m ≤ a
    · have e : rwR (ar 4) a m = ar 4 := by
        funext j; unfold rwR; rw [if_neg (by omega)]
      rw [if_pos (nI_le c (by omega)), e, ua_self]
    · rw [if_neg (nI_ge (by omega) (by omega)), m_gR hC F v ar 10 rfl, some_bind', some_bind', show (1 : Int32) = nI 1 from rfl, nI_sub (by omega), m_a4 hC F v ar (by omega), some_bind', m_s4 hC F v ar _ hm, some_bind', bnd_eq, nI_m1' (by omega), ih (m - 1) _ (by omega) (by omega) (by omega), ua_ua, ua_eq]
      congr 3
      funext j
      unfold rwR
      by_cases q : j = m
      · subst q
        rw [if_neg (by omega), upd_eq, if_pos (by omega)]
      · by_cases q2 : a < j ∧ j ≤ m - 1
        · rw [if_pos q2, upd_ne _ _ (by omega), if_pos (by omega)]
        · rw [if_neg q2, upd_ne _ _ q, if_neg (by omega)]
/-- from a on up to m, each is the one behind it -/
def rwL (g : Nat → Int32) (a m : Nat) : Nat → Int32 := fun j => if a ≤ j ∧ j + 1 < m then g (j + 1) else g j
theorem wl_loop (hC : C.length = 123) {k v3 : Int32} {a0 : Int32} {m : Nat} (h11 : F 11 = nI m) (hm : m ≤ 64) : ∀ N a ar, a < m → m - a < N → f_X11_would_56 fu N (mW C F v ar) 123 k v3 a0 (nI a) = f_X11_would_127 fu (mW C F v (ua ar 4 (rwL (ar 4) a m))) 123 k v3 a0 := by
  intro N
  induction N with
  | zero => intro a ar _ hN; omega
  | succ N ih =>
    intro a ar ha hN
    rw [f_X11_would_56, m_gI hC F v ar 11 rfl, some_bind', h11, nI_1]
    by_cases c : m ≤ a + 1
    · have e : rwL (ar 4) a m = ar 4 := by
        funext j; unfold rwL; rw [if_neg (by omega)]
      rw [if_pos (nI_le c (by omega)), e, ua_self]
    · rw [if_neg (nI_ge (by omega) (by omega)), m_gR hC F v ar 10 rfl, some_bind', some_bind', m_a4 hC F v ar (by omega), some_bind', m_s4 hC F v ar _ (by omega), some_bind', bnd_eq, ih (a + 1) _ (by omega) (by omega), ua_ua, ua_eq]
      congr 3
      funext j
      unfold rwL
      by_cases q : j = a
      · subst q
        rw [if_neg (by omega), upd_eq, if_pos (by omega)]
      · by_cases q2 : a + 1 ≤ j ∧ j + 1 < m
        · rw [if_pos q2, upd_ne _ _ (by omega), if_pos (by omega)]
        · rw [if_neg q2, upd_ne _ _ q, if_neg (by omega)]
theorem would_res (G : Good C F v ar s V n) (hfu : 20000 ≤ fu) (a b : Int32) {g : Nat} (hg : g ≤ 1) : Res C F ar s V (f_X10_would fu (mW C F v ar) 0 a b (nI g)) (fun w => f_X11_would fu w 123 a b (nI g)) := by
  have h := G.1.2.2.1
  have B := G.1.mb
  have O := G.1.2.2.2.1
  have hfu2 : 100 ≤ fu := by omega
  have hfu3 : 200 ≤ fu := by omega
  rcases set_cases a with ⟨i, hi, rfl⟩ | ha
  · rcases key_cases b with ⟨k, hk, rfl⟩ | hb
    · have S := O.1 i hi
      have l1 := S.len
      have hkl := kys_len (s.1 i)
      have hbe := bel_le (s.1 i) (nI k)
      obtain ⟨z, hz, hz2⟩ : ∃ z, z ≤ 1 ∧ ((z = 0 ∧ plc (s.1 i) (nI k) = -1) ∨ (z = 1 ∧ ¬ plc (s.1 i) (nI k) = -1)) := by
        by_cases q : plc (s.1 i) (nI k) = -1
        · exact ⟨0, by omega, Or.inl ⟨rfl, q⟩⟩
        · exact ⟨1, by omega, Or.inr ⟨rfl, q⟩⟩
      have cpre : f_X10_would fu (mW C F v ar) 0 (nI i) (nI k) (nI g) = f_X10_would_39 fu (mW C F v ar) 0 (nI k) (nI g) (13 + 2 * i) (nI z) := by
        rw [f_X10_would, G.st, some_bind', h.cl, heapAt_in h hi, some_bind']
        dsimp only
        rw [isKey_in hk, if_neg (by decide), (h.ha hi).cl, rankOf_ok (h.ha hi) S hfu2, some_bind']
        rcases hz2 with ⟨q1, q2⟩ | ⟨q1, q2⟩
        · rw [if_pos q2, q1]; rfl
        · rw [if_neg q2, q1]; rfl
      have mpre : ∀ C1, MB C1 F ar 0 s → f_X11_would fu (mW C1 F v ar) 123 (nI i) (nI k) (nI g) = f_X11_would_29 fu (mW C1 F v ar) 123 (nI i) (nI k) (nI g) (nI z) := fun C1 B1 => by
        rw [f_X11_would, mSet_in hi, mKey_in hk, if_neg (by decide), if_neg (by decide), B1.cl, B1.place hi hfu2, some_bind']
        rcases hz2 with ⟨q1, q2⟩ | ⟨q1, q2⟩
        · rw [if_pos q2, q1]; rfl
        · rw [if_neg q2, q1]; rfl
      by_cases c : z = g
      · subst c
        -- the class, of a row of keys
        have cl1 : ∀ (o : Option Nat) (v2 v3 : Int32), (∀ m, o = some m → v2 = nI m ∧ m < 10000) → (o = none → v2 = -1) → KO (gK v3 o (kys (s.1 i))) → ∃ C1, f_X10_would_76 fu (mW C F v ar) 0 3 (13 + 2 * i) v2 v3 = some (nI (hiF (pF (gK v3 o (kys (s.1 i)))) (gK v3 o (kys (s.1 i))).length 0 0), mW C1 F v ar) ∧ Good C1 F v ar s V n ∧ ∀ k, k ∉ actKs → C1[k]? = C[k]? := by
          intro o v2 v3 ho hn hK
          obtain ⟨w1, g1, g2, g3⟩ := grow_ok hfu2 S (by omega) (by omega) o ho hn (h.ha hi) G.2.1.1 hK
          have H1 := h.chg g3 (fun k hk => by simp at hk; omega)
          obtain ⟨C1, e1, e2, G1, e4⟩ := good_q G g3 tks_31 H1 (G.2.1.tree g3 g2.sh)
          subst e1
          obtain ⟨⟨p, q, t1⟩, -⟩ := G.2.1.1
          refine ⟨C1, ?_, G1, e4⟩
          rw [f_X10_would_76, cl_ob t1, g1, some_bind', G1.st, some_bind', H1.tr, some_bind', g2.cl, chigh_ok hfu2 g2 hK, some_bind']
        -- the model, of a row of keys
        have fin : ∀ (K : List Nat) C1 F1 ar1, C1.length = 123 → KO K → RH ar1 K → F1 11 = nI K.length → ∃ F2, f_X11_high fu (mW C1 F1 v ar1) 123 = some (nI (hiF (pF K) K.length 0 0), mW C1 F2 v ar1) ∧ FWy F1 F2 := fun K C1 F1 ar1 hC1 hK hR h11 => mhigh_ok (v := v) hC1 hfu3 hK hR h11
        rcases hz2 with ⟨q1, q2⟩ | ⟨q1, q2⟩
        · subst q1
          have hno := (plc_iff S (by omega)).mp q2
          have eK := gK_ins (s.1 i) k S hk hno
          have hK := KO_ins S hk hno
          rw [← eK] at hK
          obtain ⟨C1, k1, G1, k3⟩ := cl1 (some k) (nI k) (-1) (fun m hm => by simp at hm; rw [← hm]; exact ⟨rfl, hk⟩) (fun q => by simp at q) hK
          have B1 := G1.1.mb
          obtain ⟨gr, r1, r2, r3⟩ := laysRow_ok (v := v) hi hfu2 B1
          have hrow : RH (ua (ua ar 4 gr) 4 (upd (rwR (ua ar 4 gr 4) (bel (s.1 i) (nI k)) (s.1 i).length) (bel (s.1 i) (nI k)) (nI k))) (gK (-1) (some k) (kys (s.1 i))) := by
            rw [eK]
            intro j hj
            rw [insAt_len (by omega), hkl] at hj
            have hj' : j < (s.1 i).length + 1 := hj
            rw [ua_eq, nth_insAt (by omega)]
            have e1 : ([k] : List Nat).length = 1 := rfl
            rw [e1]
            by_cases c1 : j < bel (s.1 i) (nI k)
            · rw [if_pos c1, upd_ne _ _ (by omega)]
              unfold rwR
              rw [if_neg (by omega)]
              exact r2 j (by omega)
            · rw [if_neg c1]
              by_cases c2 : j = bel (s.1 i) (nI k)
              · rw [if_pos (by omega), c2, upd_eq, Nat.sub_self]; rfl
              · rw [if_neg (by omega), upd_ne _ _ c2]
                unfold rwR
                rw [if_pos (by omega)]
                exact r2 (j - 1) (by omega)
          have hlen : (gK (-1) (some k) (kys (s.1 i))).length = (s.1 i).length + 1 := by rw [eK, insAt_len (by omega), hkl]; rfl
          obtain ⟨F2, m1, m2⟩ := fin _ C1 (upd (upd F 11 (nI (s.1 i).length)) 11 (nI ((s.1 i).length + 1))) _ G1.1.1 hK hrow (by rw [upd_eq, hlen])
          refine q_res G1 k3 (x := nI (hiF (pF (gK (-1) (some k) (kys (s.1 i)))) (gK (-1) (some k) (kys (s.1 i))).length 0 0)) ?_ (F' := F2) (v' := v) (ar' := ua (ua ar 4 gr) 4 (upd (rwR (ua ar 4 gr 4) (bel (s.1 i) (nI k)) (s.1 i).length) (bel (s.1 i) (nI k)) (nI k))) ?_ (fun p hp => by rw [m2 p (by omega), upd_ne _ _ (by omega), upd_ne _ _ (by omega)]) (fun p hp => by rw [ua_ne _ _ (by omega), ua_ne _ _ (by omega)])
          · rw [cpre, f_X10_would_39, bnd_eq, if_pos rfl, G.st, some_bind', h.tr, some_bind', if_pos (by decide), f_X10_would_67, if_pos (by decide), k1]
          · rw [mpre C1 B1, f_X11_would_29, if_pos rfl, B1.cl, r1, some_bind', r3.cl, r3.below hi hfu2, some_bind', bnd_eq, if_pos (by decide), m_gI r3.1 _ v _ 11 rfl, some_bind', upd_eq, bnd_eq, wr_loop r3.1 fu _ _ hbe (by omega) (by omega), f_X11_would_127, if_pos (by decide), m_gR r3.1 _ v _ 10 rfl, some_bind', m_s4 r3.1 _ v _ _ (by omega), some_bind', f_X11_would_139, m_gI r3.1 _ v _ 11 rfl, some_bind', upd_eq, if_pos (by decide), f_X11_would_153, nI_1, m_p r3.1 _ v _ 11 (by omega) mFw.2.2.2.2, some_bind', m_cl r3.1, ua_ua, ua_eq, m1, some_bind']
        · subst q1
          obtain ⟨p1, p2⟩ := plc_ne q2
          have hkk := key_eq S q2
          have hlt := S.lt p1
          have hin : ∃ e ∈ s.1 i, e / 2 = k := ⟨_, nth_mem p1, (nI_eq (by omega) (by omega)).mp hkk⟩
          have eK := gK_era (s.1 i) k S hk hin
          have hK := KO_era S (bel (s.1 i) (nI k))
          rw [← eK] at hK
          obtain ⟨C1, k1, G1, k3⟩ := cl1 none (-1) (nI k) (fun m hm => by simp at hm) (fun _ => rfl) hK
          have B1 := G1.1.mb
          obtain ⟨gr, r1, r2, r3⟩ := laysRow_ok (v := v) hi hfu2 B1
          have hlen : (gK (nI k) none (kys (s.1 i))).length = (s.1 i).length - 1 := by rw [eK, List.length_eraseIdx_of_lt (by omega), hkl]
          have hrow : RH (ua (ua ar 4 gr) 4 (rwL (ua ar 4 gr 4) (bel (s.1 i) (nI k)) (s.1 i).length)) (gK (nI k) none (kys (s.1 i))) := by
            intro j hj
            rw [hlen] at hj
            rw [eK, ua_eq, nth_erase]
            unfold rwL
            by_cases c1 : j < bel (s.1 i) (nI k)
            · rw [if_pos c1, if_neg (by omega)]
              exact r2 j (by omega)
            · rw [if_neg c1, if_pos (by omega)]
              exact r2 (j + 1) (by omega)
          obtain ⟨F2, m1, m2⟩ := fin _ C1 (upd (upd F 11 (nI (s.1 i).length)) 11 (nI ((s.1 i).length - 1))) _ G1.1.1 hK hrow (by rw [upd_eq, hlen])
          refine q_res G1 k3 (x := nI (hiF (pF (gK (nI k) none (kys (s.1 i)))) (gK (nI k) none (kys (s.1 i))).length 0 0)) ?_ (F' := F2) (v' := v) (ar' := ua (ua ar 4 gr) 4 (rwL (ua ar 4 gr 4) (bel (s.1 i) (nI k)) (s.1 i).length)) ?_ (fun p hp => by rw [m2 p (by omega), upd_ne _ _ (by omega), upd_ne _ _ (by omega)]) (fun p hp => by rw [ua_ne _ _ (by omega), ua_ne _ _ (by omega)])
          · rw [cpre, f_X10_would_39, bnd_eq, if_pos rfl, G.st, some_bind', h.tr, some_bind', if_neg (by decide), f_X10_would_67, if_neg (by decide), k1]
          · rw [mpre C1 B1, f_X11_would_29, if_pos rfl, B1.cl, r1, some_bind', r3.cl, r3.below hi hfu2, some_bind', bnd_eq, if_neg (by decide), bnd_eq, wl_loop r3.1 (upd_eq _ _ _) (by omega) fu _ _ p1 (by omega), f_X11_would_127, if_neg (by decide), f_X11_would_139, m_gI r3.1 _ v _ 11 rfl, some_bind', upd_eq, if_neg (by decide), f_X11_would_153, nI_m1 (by omega), m_p r3.1 _ v _ 11 (by omega) mFw.2.2.2.2, some_bind', m_cl r3.1, m1, some_bind']
      · refine q_res G (fun _ _ => rfl) (x := -1) ?_ (F' := F) (v' := v) (ar' := ar) ?_ (fun _ _ => rfl) (fun _ _ => rfl)
        · rw [cpre, f_X10_would_39, bnd_eq, if_neg (fun q => c ((nI_eq (by omega) (by omega)).mp q))]
        · rw [mpre C B, f_X11_would_29, if_neg (fun q => c ((nI_eq (by omega) (by omega)).mp q))]
    · refine q_res G (fun _ _ => rfl) (x := -1) ?_ (F' := F) (v' := v) (ar' := ar) ?_ (fun _ _ => rfl) (fun _ _ => rfl)
      · rw [f_X10_would, G.st, some_bind', h.cl, heapAt_in h hi, some_bind']
        dsimp only
        rw [isKey_out hb, if_pos rfl]
      · rw [f_X11_would, mSet_in hi, mKey_out hb, if_neg (by decide), if_pos rfl]
  · refine q_res G (fun _ _ => rfl) (x := -1) ?_ (F' := F) (v' := v) (ar' := ar) ?_ (fun _ _ => rfl) (fun _ _ => rfl)
    · rw [f_X10_would, G.st, some_bind', h.cl, heapAt_out ha, some_bind']
    · rw [f_X11_would, mSet_out ha, if_pos rfl]
end Q
