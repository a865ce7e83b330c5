/-! END, FEED, IMAGE, AGAIN -/
section Q
variable {C : MW} {F : Nat → Int32} {v : Int64} {ar : Nat → Nat → Int32} {s : AS} {V : List AS} {n : Nat} {fu : Nat} {R : RT}
/-- an op that changes what is laid by -/
def ResI (p : Option (Int32 × MW)) (q : MW → Option (Int32 × MW)) : Prop := ∃ x w1 w2, p = some (x, w1) ∧ q w1 = some (x, w2) ∧ cl w1 11 123 (q w1) = q w1 ∧ Inv w2
theorem CS.chg0 {ks : List Nat} {w w' : MW} {hs : Nat → List Nat} {fg : Nat → Int32} (h : CS w hs fg) (C : Chg ks w w') (hk : ∀ k, k ∈ ks → k = 0 ∨ 28 < k ∨ (2 < k ∧ k < 13)) : CS w' hs fg := by
  obtain ⟨⟨a, b, c, h1⟩, ⟨f, h2, h3⟩, h4⟩ := h
  refine ⟨⟨a, b, c, C.at (fun q => by have := hk _ q; omega) h1⟩, ⟨f, C.at (fun q => by have := hk _ q; omega) h2, h3⟩, fun i hi => (h4 i hi).chg C (fun q => by have := hk _ q; omega) (fun q => by have := hk _ q; omega)⟩
theorem good_r (G : Good C F v ar s V n) {w' : MW} {ks : List Nat} (Q : Chg ks (mW C F v ar) w') (hk : ∀ k, k ∈ ks → (k = 0 ∨ 85 ≤ k) ∧ k < 123) (T1 : C0 w') : ∃ C1, w' = mW C1 F v ar ∧ C1.length = 123 ∧ Good C1 F v ar s V n := by
  obtain ⟨⟨hC, T, h0, O, P, M, U, h8, h9⟩, Z0, FO, FV⟩ := G
  obtain ⟨C1, b1, b2, b3⟩ := mW_chg hC Q (fun k hk' => (hk k hk').2)
  have H1 := h0.chg0 Q (fun k hk' => by have := hk k hk'; omega)
  have P1 := P.chg Q (fun k hk' => by have := hk k hk'; omega)
  have Z1 := Z0.chg Q (fun k hk' => by have := hk k hk'; omega)
  subst b2
  exact ⟨C1, rfl, b1, ⟨b1, T1, H1, O, P1, M, U, h8, h9⟩, Z1, FO, FV⟩
theorem Good.mod (G : Good C F v ar s V n) {F' : Nat → Int32} {v' : Int64} {ar' : Nat → Nat → Int32} (h8 : F' 8 = F 8) (h9 : F' 9 = F 9) (ha : ∀ q, q < 13664 → ar' 0 q = ar 0 q) : Good C F' v' ar' s V n := by
  obtain ⟨⟨hC, T, h0, O, P, M, U, g8, g9⟩, Z0, FO, FV⟩ := G
  refine ⟨⟨hC, T.m hC _ _ _, h0.m hC _ _ _, O, P.m hC _ _ _, M.copy O.1 (fun q hq => ha _ (by omega)), ⟨U.1, fun t ht => ⟨(U.2 t ht).1.copy (U.2 t ht).2 (fun q hq => ha _ (by have := U.1; omega)), (U.2 t ht).2⟩⟩, by rw [h8]; exact g8, by rw [h9]; exact g9⟩, Z0.m hC _ _ _, FO, FV⟩
theorem RestC.m (hC : C.length = 123) (h : RestC (mW C F v ar) R) (F' : Nat → Int32) (v' : Int64) (ar' : Nat → Nat → Int32) : RestC (mW C F' v' ar') R := h.same (fun q hq => by rw [mW_low hC _ _ _ (by omega), mW_low hC _ _ _ (by omega)])
theorem RestC.tape {w w' : MW} (h : RestC w R) (Q : Chg [85, 86] w w') {T : List Nat} (hT : RW w' 85 800 T) : RestC w' (T, R.2) := by
  obtain ⟨h1, h2, h3, ⟨a, b, c, d, e, g, h4⟩, ⟨f, h5⟩, h6, ⟨f2, h7, h8⟩, h9⟩ := h
  exact ⟨Q.at (by simp) h1, hT, h3.chg Q (by simp) (by simp), ⟨a, b, c, d, e, g, Q.at (by simp) h4⟩, ⟨f, Q.at (by simp) h5⟩, h6.chg Q (fun k hk => by simp at hk; omega), ⟨f2, Q.at (by simp) h7, h8⟩, fun k hk => (h9 k hk).same (fun q q1 q2 => Q.2 q (by simp; omega))⟩
theorem RestC.told {w w' : MW} (h : RestC w R) (Q : Chg [87, 88] w w') {T : List Nat} (hT : RW w' 87 360 T) : RestC w' (R.1, T, R.2.2) := by
  obtain ⟨h1, h2, h3, ⟨a, b, c, d, e, g, h4⟩, ⟨f, h5⟩, h6, ⟨f2, h7, h8⟩, h9⟩ := h
  exact ⟨Q.at (by simp) h1, h2.chg Q (by simp) (by simp), hT, ⟨a, b, c, d, e, g, Q.at (by simp) h4⟩, ⟨f, Q.at (by simp) h5⟩, h6.chg Q (fun k hk => by simp at hk; omega), ⟨f2, Q.at (by simp) h7, h8⟩, fun k hk => (h9 k hk).same (fun q q1 q2 => Q.2 q (by simp; omega))⟩
theorem mFt {F : Nat → Int32} {v : Int64} {x : Int32} : (mF F v).set 4 (.int x) = mF (upd F 4 x) v ∧ (mF F v).set 5 (.int x) = mF (upd F 5 x) v ∧ (mF F v).set 6 (.int x) = mF (upd F 6 x) v ∧ (mF F v).set 7 (.int x) = mF (upd F 7 x) v ∧ (mF F v).set 9 (.int x) = mF (upd F 9 x) v := ⟨rfl, rfl, rfl, rfl, rfl⟩
theorem end_res (G : Good C F v ar s V n) (rc : RestC (mW C F v ar) R) (rm : RestM F ar R) (a : Int32) : ResI (f_X10_end (mW C F v ar) 0 a) (fun w => f_X11_end w 123 a) := by
  have hl := rc.2.1.2.1
  have keep : Inv (mW C F v ar) := ⟨C, F, v, ar, s, V, n, R, rfl, G, rc, rm⟩
  by_cases c : a < 0
  · refine ⟨-1, mW C F v ar, mW C F v ar, ?_, ?_, m_cl G.1.1 _ _ _ _, keep⟩
    · rw [f_X10_end, if_pos c]
    · dsimp only
      rw [f_X11_end, m_gI G.1.1 F v ar 4 rfl, some_bind', f_X11_isIn, if_pos c, if_pos rfl]
  · obtain ⟨j, hj, rfl⟩ := nI_of c
    by_cases c2 : j ≤ R.1.length
    · obtain ⟨a0, b0, d0, f, e0, g0⟩ := id rc.2.1
      have ch := Chg.st (ks := [85, 86]) (mW C F v ar) (a := 85) (.inr (4, [.ref 86, .int (nI j)])) (by simp)
      have hlen : (R.1.take j).length = j := by simp; omega
      have hRW : RW ((mW C F v ar).set 85 (.inr (4, [.ref 86, .int (nI j)]))) 85 800 (R.1.take j) := ⟨by rw [get_set_eq a0, hlen], by omega, fun b hb => d0 b (List.mem_of_mem_take hb), f, by rw [get_set_ne (by omega)]; exact e0, fun i hi => by rw [hlen] at hi; rw [nth_take hi]; exact g0 i (by omega)⟩
      obtain ⟨C1, e1, e2, G1⟩ := good_r G ch (fun k hk => by simp at hk; omega) (G.1.2.1.chg ch (by simp))
      have rc1 := rc.tape ch hRW
      rw [e1] at rc1
      refine ⟨nI j, mW C1 F v ar, mW C1 (upd F 4 (nI j)) v ar, ?_, ?_, m_cl e2 _ _ _ _, ⟨C1, _, v, ar, s, V, n, _, rfl, G1.mod (upd_ne _ _ (by omega)) (upd_ne _ _ (by omega)) (fun _ _ => rfl), rc1.m e2 _ _ _, ?_⟩⟩
      · rw [f_X10_end, if_neg c, gR_ob rc.1 rfl, some_bind', gI_ob a0 rfl, some_bind', if_pos (nI_le c2 (by omega)), some_bind', pV_ob a0 (by simp), some_bind', ← e1]
        rfl
      · dsimp only
        rw [f_X11_end, m_gI e2 F v ar 4 rfl, some_bind', rm.1, f_X11_isIn, if_neg c, if_neg (nI_nlt c2 (by omega)), if_neg (show ¬ (1 : Int32) = 0 by decide), m_p e2 F v ar 4 (by omega) mFt.1, some_bind']
      · obtain ⟨m1, m2, m3, m4, m5, m6, m7⟩ := rm
        exact ⟨by rw [upd_eq, hlen], by rw [upd_ne _ _ (by omega)]; exact m2, by rw [upd_ne _ _ (by omega)]; exact m3, by rw [upd_ne _ _ (by omega)]; exact m4, fun i hi => by rw [hlen] at hi; rw [nth_take hi]; exact m5 i (by omega), m6, m7⟩
    · refine ⟨-1, mW C F v ar, mW C F v ar, ?_, ?_, m_cl G.1.1 _ _ _ _, keep⟩
      · rw [f_X10_end, if_neg c, gR_ob rc.1 rfl, some_bind', gI_ob rc.2.1.1 rfl, some_bind', if_neg (nI_ge (by omega) hj)]
      · dsimp only
        rw [f_X11_end, m_gI G.1.1 F v ar 4 rfl, some_bind', rm.1, f_X11_isIn, if_neg c, if_pos (nI_lt (by omega) hj), if_pos rfl]
end Q
/-- eight bits, shifted either way -/
theorem low8_sh (x : Int32) (k : Nat) (hk : k + 8 ≤ 32) : (x.toBitVec >>> k).toNat % 256 = (x.toBitVec.sshiftRight k).toNat % 256 := by
  apply Nat.eq_of_testBit_eq
  intro i
  rw [show (256 : Nat) = 2 ^ 8 by rfl, Nat.testBit_mod_two_pow, Nat.testBit_mod_two_pow]
  by_cases h : i < 8
  · have e1 : (x.toBitVec >>> k).toNat.testBit i = (x.toBitVec >>> k).getLsbD i := rfl
    have e2 : (x.toBitVec.sshiftRight k).toNat.testBit i = (x.toBitVec.sshiftRight k).getLsbD i := rfl
    rw [e1, e2, BitVec.getLsbD_ushiftRight, BitVec.getLsbD_sshiftRight]
    have h1 : ¬ 32 ≤ i := by omega
    have h2 : k + i < 32 := by omega
    simp [h1, h2]
  · simp [h]
theorem low8_24 (x : Int32) : low8 (ush x 24) = low8 (x >>> (24 : Int32)) := low8_sh x 24 (by omega)
theorem low8_16 (x : Int32) : low8 (ush x 16) = low8 (x >>> (16 : Int32)) := low8_sh x 16 (by omega)
theorem low8_8 (x : Int32) : low8 (ush x 8) = low8 (x >>> (8 : Int32)) := low8_sh x 8 (by omega)
theorem low8_0 (x : Int32) : low8 x = low8 (x >>> (0 : Int32)) := by
  have := low8_sh x 0 (by omega)
  exact this
def l4 (x : Int32) : List Nat := [low8 (ush x 24), low8 (ush x 16), low8 (ush x 8), low8 x]
def fL (a b c d e : Int32) : List Nat := l4 a ++ l4 b ++ l4 c ++ l4 d ++ l4 e
theorem nth_app {T L : List Nat} {j : Nat} : nth (T ++ L) j = if j < T.length then nth T j else nth L (j - T.length) := by
  unfold nth
  rw [List.getD_eq_getElem?_getD]
  by_cases c : j < T.length
  · rw [if_pos c, List.getElem?_append_left c, List.getD_eq_getElem?_getD]
  · rw [if_neg c, List.getElem?_append_right (by omega), List.getD_eq_getElem?_getD]
theorem addFour_ok {w : MW} {p cap : Nat} {T : List Nat} (h : RW w p cap T) (hc : cap ≤ 1000) (hl : T.length + 4 ≤ cap) (x : Int32) : ∃ w', f_X4_addFour w p x = some w' ∧ RW w' p cap (T ++ l4 x) ∧ Chg [p, p + 1] w w' := by
  obtain ⟨w1, a1, a2, a3⟩ := radd_ok h hc (by omega) (ush x 24)
  obtain ⟨w2, b1, b2, b3⟩ := radd_ok a2 hc (by simp; omega) (ush x 16)
  obtain ⟨w3, c1, c2, c3⟩ := radd_ok b2 hc (by simp; omega) (ush x 8)
  obtain ⟨w4, d1, d2, d3⟩ := radd_ok c2 hc (by simp; omega) x
  refine ⟨w4, ?_, ?_, ((a3.tr b3).tr c3).tr d3⟩
  · rw [f_X4_addFour, h.cl, a1, some_bind', a2.cl, b1, some_bind', b2.cl, c1, some_bind', c2.cl, d1, some_bind']
  · have e : T ++ [low8 (ush x 24)] ++ [low8 (ush x 16)] ++ [low8 (ush x 8)] ++ [low8 x] = T ++ l4 x := by
      unfold l4
      rw [List.append_assoc, List.append_assoc, List.append_assoc]; rfl
    rw [e] at d2
    exact d2
def selV (a b c d e : Int32) (k : Nat) : Int32 := if k < 4 then a else if k < 8 then b else if k < 12 then c else if k < 16 then d else e
theorem shA : ∀ k, k < 20 → (((24 : Int32) - ((8 : Int32) * (nI k &&& (3 : Int32)))) &&& 31) = nI (24 - 8 * (k % 4)) := by decide
theorem fB {a b c d e : Int32} {k : Nat} (hk : k < 20) : low8 (selV a b c d e k >>> (((24 : Int32) - ((8 : Int32) * (nI k &&& (3 : Int32)))) &&& 31)) = nth (fL a b c d e) k := by
  rw [shA k hk]
  have : k = 0 ∨ k = 1 ∨ k = 2 ∨ k = 3 ∨ k = 4 ∨ k = 5 ∨ k = 6 ∨ k = 7 ∨ k = 8 ∨ k = 9 ∨ k = 10 ∨ k = 11 ∨ k = 12 ∨ k = 13 ∨ k = 14 ∨ k = 15 ∨ k = 16 ∨ k = 17 ∨ k = 18 ∨ k = 19 := by omega
  rcases this with rfl | rfl | rfl | rfl | rfl | rfl | rfl | rfl | rfl | rfl | rfl | rfl | rfl | rfl | rfl | rfl | rfl | rfl | rfl | rfl
  · exact (low8_24 a).symm
  · exact (low8_16 a).symm
  · exact (low8_8 a).symm
  · exact (low8_0 a).symm
  · exact (low8_24 b).symm
  · exact (low8_16 b).symm
  · exact (low8_8 b).symm
  · exact (low8_0 b).symm
  · exact (low8_24 c).symm
  · exact (low8_16 c).symm
  · exact (low8_8 c).symm
  · exact (low8_0 c).symm
  · exact (low8_24 d).symm
  · exact (low8_16 d).symm
  · exact (low8_8 d).symm
  · exact (low8_0 d).symm
  · exact (low8_24 e).symm
  · exact (low8_16 e).symm
  · exact (low8_8 e).symm
  · exact (low8_0 e).symm
section Q
variable {C : MW} {F : Nat → Int32} {v : Int64} {ar : Nat → Nat → Int32} {s : AS} {V : List AS} {n : Nat} {fu : Nat} {R : RT}
theorem mfeed_loop (hC : C.length = 123) {m : Nat} (h4 : F 4 = nI m) (hm : m + 20 ≤ 800) {a b c d e : Int32} : ∀ N k ar, k ≤ 20 → 20 - k < N → (∀ j, j < k → ar 1 (m + j) = nI (nth (fL a b c d e) j)) → ∃ g, f_X11_feed_18 fu N (mW C F v ar) 123 a b c d e (nI k) = some (nI (m + 20), mW C (upd F 4 (nI (m + 20))) v (ua ar 1 g)) ∧ (∀ j, j < 20 → g (m + j) = nI (nth (fL a b c d e) j)) ∧ ∀ j, j < m → g j = ar 1 j := by
  intro N
  induction N with
  | zero => intro k ar _ hN; omega
  | succ N ih =>
    intro k ar hk hN hr
    rw [f_X11_feed_18]
    by_cases c20 : 20 ≤ k
    · rw [if_pos (show (20 : Int32) ≤ nI k from nI_le (a := 20) c20 (by omega)), m_gI hC F v ar 4 rfl, some_bind', h4, show (20 : Int32) = nI 20 from rfl, nI_add, m_p hC F v ar 4 (by omega) mFt.1, some_bind', m_gI hC _ v ar 4 rfl, some_bind', upd_eq]
      exact ⟨ar 1, by rw [ua_self], fun j hj => hr j (by omega), fun _ _ => rfl⟩
    · have hk' : k < 20 := by omega
      have key : ∃ g, f_X11_feed_71 fu (f_X11_feed_18 fu N) (mW C F v ar) 123 a b c d e (nI k) (selV a b c d e k) = some (nI (m + 20), mW C (upd F 4 (nI (m + 20))) v (ua ar 1 g)) ∧ (∀ j, j < 20 → g (m + j) = nI (nth (fL a b c d e) j)) ∧ ∀ j, j < m → g j = ar 1 j := by
        obtain ⟨g, k1, k2, k3⟩ := ih (k + 1) (ua ar 1 (upd (ar 1) (m + k) (nI (nth (fL a b c d e) k)))) (by omega) (by omega) (fun j hj => by
          rw [ua_eq]
          by_cases q : j = k
          · rw [q, upd_eq]
          · rw [upd_ne _ _ (by omega)]; exact hr j (by omega))
        rw [f_X11_feed_71, bnd_eq, m_gR hC F v ar 1 rfl, some_bind', m_gI hC F v ar 4 rfl, some_bind', h4, nI_add, low8_and, fB hk', m_s1 hC F v ar _ (by omega), some_bind', bnd_eq, nI_1, k1, ua_ua]
        exact ⟨g, rfl, k2, fun j hj => by rw [k3 j hj, ua_eq, upd_ne _ _ (by omega)]⟩
      rw [if_neg (show ¬ (20 : Int32) ≤ nI k from nI_ge (b := 20) hk' (by omega))]
      unfold selV at key
      by_cases q1 : k < 4
      · rw [if_pos q1] at key
        rw [if_neg (show ¬ (4 : Int32) ≤ nI k from nI_ge (b := 4) q1 (by omega))]; exact key
      · rw [if_neg q1] at key
        rw [if_pos (show (4 : Int32) ≤ nI k from nI_le (a := 4) (by omega) (by omega))]
        by_cases q2 : k < 8
        · rw [if_pos q2] at key
          rw [if_neg (show ¬ (8 : Int32) ≤ nI k from nI_ge (b := 8) q2 (by omega))]; exact key
        · rw [if_neg q2] at key
          rw [if_pos (show (8 : Int32) ≤ nI k from nI_le (a := 8) (by omega) (by omega))]
          by_cases q3 : k < 12
          · rw [if_pos q3] at key
            rw [if_neg (show ¬ (12 : Int32) ≤ nI k from nI_ge (b := 12) q3 (by omega))]; exact key
          · rw [if_neg q3] at key
            rw [if_pos (show (12 : Int32) ≤ nI k from nI_le (a := 12) (by omega) (by omega))]
            by_cases q4 : k < 16
            · rw [if_pos q4] at key
              rw [if_neg (show ¬ (16 : Int32) ≤ nI k from nI_ge (b := 16) q4 (by omega))]; exact key
            · rw [if_neg q4] at key
              rw [if_pos (show (16 : Int32) ≤ nI k from nI_le (a := 16) (by omega) (by omega))]; exact key
theorem l4_len (x : Int32) : (l4 x).length = 4 := rfl
theorem feed_res (G : Good C F v ar s V n) (rc : RestC (mW C F v ar) R) (rm : RestM F ar R) (hfu : 100 ≤ fu) (a b c d e : Int32) : ResI (f_X10_feed (mW C F v ar) 0 a b c d e) (fun w => f_X11_feed fu w 123 a b c d e) := by
  have hl := rc.2.1.2.1
  have h85 := rc.2.1
  have m0 : (0 : Nat) ∉ [85, 86] := by simp
  by_cases c0 : R.1.length ≤ 780
  · obtain ⟨w1, a1, a2, a3⟩ := addFour_ok h85 (by omega) (by omega) a
    obtain ⟨w2, b1, b2, b3⟩ := addFour_ok a2 (by omega) (by simp [l4_len]; omega) b
    obtain ⟨w3, c1, c2, c3⟩ := addFour_ok b2 (by omega) (by simp [l4_len]; omega) c
    obtain ⟨w4, d1, d2, d3⟩ := addFour_ok c2 (by omega) (by simp [l4_len]; omega) d
    obtain ⟨w5, e1, e2, e3⟩ := addFour_ok d2 (by omega) (by simp [l4_len]; omega) e
    have t0 := rc.1
    have t1 := a3.at m0 t0
    have t2 := b3.at m0 t1
    have t3 := c3.at m0 t2
    have t4 := d3.at m0 t3
    have t5 := e3.at m0 t4
    have ch := (((a3.tr b3).tr c3).tr d3).tr e3
    have eT : R.1 ++ l4 a ++ l4 b ++ l4 c ++ l4 d ++ l4 e = R.1 ++ fL a b c d e := by
      unfold fL
      simp only [List.append_assoc]
    rw [eT] at e2
    have hlen : (R.1 ++ fL a b c d e).length = R.1.length + 20 := by
      rw [List.length_append]; rfl
    obtain ⟨C1, q1, q2, G1⟩ := good_r G ch (fun k hk => by simp at hk; omega) (G.1.2.1.chg ch m0)
    have rc1 := rc.tape ch e2
    subst q1
    obtain ⟨g, k1, k2, k3⟩ := mfeed_loop (v := v) (fu := fu) (a := a) (b := b) (c := c) (d := d) (e := e) q2 rm.1 (by omega) fu 0 ar (by omega) (by omega) (fun j hj => by omega)
    refine ⟨nI (R.1.length + 20), mW C1 F v ar, mW C1 (upd F 4 (nI (R.1.length + 20))) v (ua ar 1 g), ?_, ?_, m_cl q2 _ _ _ _, ⟨C1, _, v, _, s, V, n, _, rfl, G1.mod (upd_ne _ _ (by omega)) (upd_ne _ _ (by omega)) (fun q _ => by rw [ua_ne _ _ (by omega)]), rc1.m q2 _ _ _, ?_⟩⟩
    · rw [f_X10_feed, gR_ob t0 rfl, some_bind', gI_ob h85.1 rfl, some_bind', if_pos (show nI R.1.length ≤ (780 : Int32) from nI_le (b := 780) c0 (by omega)), some_bind', h85.cl, a1, some_bind', gR_ob t1 rfl, some_bind', a2.cl, b1, some_bind', gR_ob t2 rfl, some_bind', b2.cl, c1, some_bind', gR_ob t3 rfl, some_bind', c2.cl, d1, some_bind', gR_ob t4 rfl, some_bind', d2.cl, e1, some_bind', gR_ob t5 rfl, some_bind', gI_ob e2.1 rfl, some_bind', hlen]
    · dsimp only
      rw [f_X11_feed, m_gI q2 F v ar 4 rfl, some_bind', rm.1, show (20 : Int32) = nI 20 from rfl, nI_add, if_pos (show nI (R.1.length + 20) ≤ (800 : Int32) from nI_le (b := 800) (by omega) (by omega)), bnd_eq]
      exact k1
    · obtain ⟨m1, m2, m3, m4, m5, m6, m7⟩ := rm
      refine ⟨by rw [upd_eq, hlen], by rw [upd_ne _ _ (by omega)]; exact m2, by rw [upd_ne _ _ (by omega)]; exact m3, by rw [upd_ne _ _ (by omega)]; exact m4, fun j hj => ?_, fun j hj => by rw [ua_ne _ _ (by omega)]; exact m6 j hj, fun k hk => (m7 k hk).same hk ((rc.2.2.2.2.2.2.2 k hk).bd) (by rw [ua_ne _ _ (by omega)]) (fun q _ _ => by rw [ua_ne _ _ (by omega)])⟩
      rw [hlen] at hj
      rw [ua_eq, nth_app]
      by_cases z : j < R.1.length
      · rw [if_pos z, k3 j z]; exact m5 j z
      · rw [if_neg z]
        have := k2 (j - R.1.length) (by omega)
        rw [show R.1.length + (j - R.1.length) = j by omega] at this
        exact this
  · refine ⟨-1, mW C F v ar, mW C F v ar, ?_, ?_, m_cl G.1.1 _ _ _ _, ⟨C, F, v, ar, s, V, n, R, rfl, G, rc, rm⟩⟩
    · rw [f_X10_feed, gR_ob rc.1 rfl, some_bind', gI_ob h85.1 rfl, some_bind', if_neg (show ¬ nI R.1.length ≤ (780 : Int32) from nI_ge (a := 780) (by omega) (by omega))]
    · dsimp only
      rw [f_X11_feed, m_gI G.1.1 F v ar 4 rfl, some_bind', rm.1, show (20 : Int32) = nI 20 from rfl, nI_add, if_neg (show ¬ nI (R.1.length + 20) ≤ (800 : Int32) from nI_ge (a := 800) (by omega) (by omega))]
end Q
