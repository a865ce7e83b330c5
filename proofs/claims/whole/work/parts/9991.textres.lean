section Q
variable {C : MW} {F : Nat → Int32} {v : Int64} {ar : Nat → Nat → Int32} {s : AS} {V : List AS} {n : Nat} {fu : Nat} {R : RT}
def tks : List Nat := 0 :: 31 :: 85 :: 92 :: 93 :: 94 :: cks
theorem tks_i {k : Nat} : k ∈ tks → k = 0 ∨ k = 31 ∨ k = 85 ∨ (91 < k ∧ k < 95) ∨ k = 11 ∨ (12 < k ∧ k < 29) ∨ k = 89 ∨ k = 90 := by
  intro h
  unfold tks at h
  rcases List.mem_cons.mp h with h | h
  · omega
  · rcases List.mem_cons.mp h with h | h
    · omega
    · rcases List.mem_cons.mp h with h | h
      · omega
      · rcases List.mem_cons.mp h with h | h
        · omega
        · rcases List.mem_cons.mp h with h | h
          · omega
          · rcases List.mem_cons.mp h with h | h
            · omega
            · have := cks_i h; omega
theorem t_cks {w w' : MW} (h : Chg cks w w') : Chg tks w w' := h.mono (fun k hk => by unfold tks; simp [hk])
theorem t_hpl {w w' : MW} (h : Chg hpl w w') : Chg tks w w' := t_cks (c11 (hpl_11 h))
theorem st_sk {T : List Nat} {w : MW} {f : Nat → Int32} {m : Nat} (h : St C T m s f w F v ar) : ∃ (pos k st num fc fp : Int32) (s' : AS) (f' : Nat → Int32), SK w T pos k st num fc fp ∧ CS w s'.1 s'.2 ∧ Sc w ∧ w[90]? = some (.inl (.int, 4, .inl f')) := by
  rcases h with ⟨z, _, G⟩ | G
  · obtain ⟨g1, ⟨num, K, hn⟩, h, O, Z, FO, h90, M⟩ := G
    exact ⟨_, _, _, _, _, _, s, f, K, h, Z, h90⟩
  · obtain ⟨c, fp, s', p, k, st, num, f', c1, c2, hp, K, h, Z, h90, M⟩ := G
    exact ⟨_, _, _, _, _, _, s', f', K, h, Z, h90⟩
theorem text_res (G : Good C F v ar s V n) (rc : RestC (mW C F v ar) R) (rm : RestM F ar R) (hfu : 20000 ≤ fu) : ResI (f_X10_text fu (mW C F v ar) 0) (fun w => f_X11_text fu w 123) := by
  obtain ⟨⟨hC, T0, h, O, P, M, U, h8, h9⟩, Z, FO, FV⟩ := id G
  obtain ⟨t0, rt, rtold, ⟨xa, xb, xc, xd, xe, xg, h89⟩, ⟨f90, h90⟩, sn, ⟨f95, h95, h95b⟩, im⟩ := id rc
  obtain ⟨m4, m5, m6, m7, mT, mTold, mIm⟩ := id rm
  obtain ⟨w1, a1, a2, a3⟩ := take_ok O (fu := fu) (by omega) (p := 91) (by omega) h sn
  have h1 := h.chg a3 (fun k hk => by simp at hk; omega)
  obtain ⟨w2, b1, b2, b3⟩ := cempty_ok (fu := fu) (by omega) h1
  have K2 : SK w2 R.1 xa xb xc xd xe xg := ⟨b3.at (by decide) (a3.at (by simp) h89), (rt.chg a3 (by simp) (by simp)).chg b3 (by decide) (by decide)⟩
  have Z2 : Sc w2 := (Z.chg a3 (fun k hk => by simp at hk; omega)).hp b3
  have h902 := b3.at (by decide) (a3.at (by simp) h90)
  have c01 : Chg tks (mW C F v ar) w2 := (a3.mono (fun k hk => by simp at hk; unfold tks; simp; omega)).tr (t_hpl b3)
  have S2 : SNP w2 91 s := a2.chg b3 (fun k hk => by have := hpl_sc k hk; omega)
  obtain ⟨s0, f0, w3, F0, v0, ar0, k1, _, k3, k4, _⟩ := text_run (C := C) (v := v) (F := F) (ar := ar) hfu K2 b2 Z2 h902 m4 mT hC
  obtain ⟨pos, kk, st, num, fc, fp, s3, f3, K3, h3, Z3, h903⟩ := st_sk k3
  have c03 := c01.tr (t_cks k4)
  have S3 : SNP w3 91 s := S2.chg k4 (fun k hk => by have := cks_i hk; omega)
  have t1 := a3.at (by simp) t0
  have t2 : w2[0]? = _ := b3.at (by decide) t1
  have t3 : w3[0]? = _ := k4.at (fun q => by have := cks_i q; omega) t2
  have P3 : CP w3 n V := ((P.chg a3 (fun k hk => by simp at hk; omega)).chg b3 (fun k hk => by have := hpl_sc k hk; omega)).chg k4 (fun k hk => by have := cks_i hk; omega)
  -- the tape is empty
  obtain ⟨x85, y85, z85, g85, u85, q85⟩ := id K3.2
  obtain ⟨w4, e4, R4, c4⟩ : ∃ w4, pV w3 4 85 1 (.int 0) = some w4 ∧ RW w4 85 800 [] ∧ Chg [85] w3 w4 := ⟨_, pV_ob x85 (by simp), ⟨get_set_eq x85, by simp, fun b hb => by simp at hb, g85, by rw [get_set_ne (by omega)]; exact u85, fun j hj => by simp at hj⟩, Chg.st _ _ (by simp)⟩
  have K4 : w4[89]? = some (sk pos kk st num fc fp) := c4.at (by simp) K3.1
  have t4 := c4.at (by simp) t3
  obtain ⟨w5, e5, t5, c5⟩ : ∃ w5, pV w4 10 0 7 (.int fc) = some w5 ∧ w5[0]? = some (.inr (10, [.ref 1, .ref 31, .ref 85, .ref 87, .ref 89, .ref 91, .ref 95, .int fc, .int R.2.2.2.1])) ∧ Chg [0] w4 w5 := ⟨_, pV_ob t4 (by simp), get_set_eq t4, Chg.st _ _ (by simp)⟩
  obtain ⟨w6, e6, t6, c6⟩ : ∃ w6, pV w5 10 0 8 (.int fp) = some w6 ∧ w6[0]? = some (.inr (10, [.ref 1, .ref 31, .ref 85, .ref 87, .ref 89, .ref 91, .ref 95, .int fc, .int fp])) ∧ Chg [0] w5 w6 := ⟨_, pV_ob t5 (by simp), get_set_eq t5, Chg.st _ _ (by simp)⟩
  have K5 := c5.at (by simp) K4
  have c46 := c5.tr c6
  have K6 := c46.at (by simp) K4
  have R6 := R4.chg c46 (by simp) (by simp)
  have P6 : CP w6 n V := (P3.chg c4 (fun k hk => by simp at hk; omega)).chg c46 (fun k hk => by simp at hk; omega)
  have Z6 : Sc w6 := (Z3.chg c4 (fun k hk => by simp at hk; omega)).chg c46 (fun k hk => by simp at hk; omega)
  have S6 : SNP w6 91 s := (S3.chg c4 (fun k hk => by simp at hk; omega)).chg c46 (fun k hk => by simp at hk; omega)
  have f6 := c46.at (by simp) (c4.at (by simp) h903)
  have c06 : Chg tks (mW C F v ar) w6 := (c03.tr (c4.mono (fun k hk => by simp at hk; unfold tks; simp; omega))).tr (c46.mono (fun k hk => by simp at hk; unfold tks; simp; omega))
  have pre : f_X10_text fu (mW C F v ar) 0 = if fc = 0 then ((cl w6 3 31 (f_X3_forget w6 31)).bind fun q24 => (gR q24 10 0 0).bind fun x27 => (cl q24 7 x27 (f_X7_total fu q24 x27)).bind fun q28 => some (q28, q24)) else ((cl w6 6 91 (f_X6_give fu w6 91 1)).bind fun q33 => some (-1, q33)) := by
    rw [f_X10_text, gR_ob t0 rfl, some_bind', gR_ob t0 rfl, some_bind', cl_ob sn.1, a1, some_bind', gR_ob t1 rfl, some_bind', h1.cl, b1, some_bind', gR_ob t2 rfl, some_bind', K2.cl, k1, some_bind', gR_ob t3 rfl, some_bind', e4, some_bind', gR_ob t4 rfl, some_bind', gI_ob K4 rfl, some_bind', e5, some_bind', gR_ob t5 rfl, some_bind', gI_ob K5 rfl, some_bind', e6, some_bind', gI_ob t6 rfl, some_bind', gR_ob t6 (k := 1) rfl, some_bind', gR_ob t6 (k := 5) rfl, some_bind', gR_ob t6 (k := 0) rfl, some_bind']
  -- what is laid by, at the end
  have rest : ∀ w7, Chg tks (mW C F v ar) w7 → Chg (31 :: hpl) w6 w7 → RestC w7 ([], R.2.1, fc, fp, R.2.2.2.2) := by
    intro w7 c07 c67
    have nk : ∀ k, k ∈ (31 :: hpl) → k = 31 ∨ (12 < k ∧ k < 29) := fun k hk => by
      rcases List.mem_cons.mp hk with e | e
      · omega
      · have := hpl_sc k e; omega
    refine ⟨c67.at (fun q => by have := nk _ q; omega) t6, R6.chg c67 (fun q => by have := nk _ q; omega) (fun q => by have := nk _ q; omega), rtold.chg c07 (fun q => by have := tks_i q; omega) (fun q => by have := tks_i q; omega), ⟨pos, kk, st, num, fc, fp, c67.at (fun q => by have := nk _ q; omega) K6⟩, ⟨f3, c67.at (fun q => by have := nk _ q; omega) f6⟩, (S6.chg c67 (fun k hk => by have := nk _ hk; omega)).shape, ⟨f95, c07.at (fun q => by have := tks_i q; omega) h95, h95b⟩, fun k hk => (im k hk).same (fun q q1 q2 => c07.2 q (fun e => by have := tks_i e; omega))⟩
  have restM : ∀ (F2 : Nat → Int32) (ar2 : Nat → Nat → Int32), F2 4 = 0 → F2 5 = F 5 → F2 6 = fc → F2 7 = fp → (∀ k, k ≠ 0 → ar2 k = ar k) → (∀ q, 1952 ≤ q → ar2 0 q = ar 0 q) → RestM F2 ar2 ([], R.2.1, fc, fp, R.2.2.2.2) := by
    intro F2 ar2 q4 q5 q6 q7 qa q0
    exact ⟨q4, by rw [q5]; exact m5, q6, q7, fun j hj => by simp at hj, fun j hj => by rw [qa 2 (by omega)]; exact mTold j hj, fun k hk => (mIm k hk).same hk ((im k hk).bd) (by rw [qa 3 (by omega)]) (fun q h1 h2 => q0 q (by omega))⟩
  by_cases hfc : fc = 0
  · obtain ⟨w7, j1, j2, j3⟩ := forget_ok P6
    have c67 : Chg (31 :: hpl) w6 w7 := j3.mono (fun k hk => by simp at hk; subst hk; exact List.mem_cons_self ..)
    have c07 : Chg tks (mW C F v ar) w7 := c06.tr (j3.mono (fun k hk => by simp at hk; unfold tks; simp; omega))
    obtain ⟨C1, i1, i2, i3⟩ := mW_chg hC c07 (fun k hk => by have := tks_i hk; omega)
    subst i2
    obtain ⟨s2, f2, w3', F2, v2, ar2, k1', k2', k3', k4', y4, y9, yF, yA, y0⟩ := text_run (C := C1) (v := v) (F := F) (ar := ar) hfu K2 b2 Z2 h902 m4 mT i1
    have ew : w3' = w3 := by rw [k1] at k1'; exact (Option.some.inj k1').symm
    subst ew
    rcases k3' with ⟨z, _, GZ⟩ | GB
    · obtain ⟨g1, ⟨num2, KZ, hnz⟩, hz, OZ, ZZ, FZ, h90z, PZ, z23, z24, z25, zv, z6, z7, BZ⟩ := GZ
      have efp : fp = -1 := Option.some.inj (K3.g.2.2.2.2.2.1.symm.trans KZ.g.2.2.2.2.2.1)
      have CS7 : CS (mW C1 F v ar) s2.1 s2.2 := ((hz.chg c4 (fun k hk => by simp at hk; omega)).chg0 c46 (fun k hk => by simp at hk; omega)).chg j3 (fun k hk => by simp at hk; omega)
      have Z7 : Sc (mW C1 F v ar) := Z6.chg j3 (fun k hk => by simp at hk; omega)
      have t7 := j3.at (by simp) t6
      have rc7 := rest (mW C1 F v ar) c07 c67
      have hcp := mcopies_ok (C := C1) (F := upd F2 9 0) (v := v2) (ar := ar2) (fu := fu) (fr := 976) (to := 0) (n := 976) i1 hfu (by omega) (by omega) (by omega) (by omega)
      have M2 : M8 (cpF (ar2 0) 976 0 976 0) 0 s2 := BZ.2.2.2.1.copy OZ.1 (fun q hq => by
        unfold cpF
        rw [if_pos (by omega)]
        congr 1; omega)
      have B2 : MB C1 (upd (upd F2 9 0) 8 0) (ua ar2 0 (cpF (ar2 0) 976 0 976 0)) 0 s2 := ⟨i1, by rw [upd_ne _ _ (by omega), upd_eq]; rfl, by omega, by rw [ua_eq]; exact M2, OZ.1⟩
      have cp0 : ∀ q, 1952 ≤ q → ua ar2 0 (cpF (ar2 0) 976 0 976 0) 0 q = ar 0 q := fun q hq => by
        rw [ua_eq]; unfold cpF; rw [if_neg (by omega)]; exact y0 q (by omega)
      refine ⟨nI (smF (fun i => (s2.1 i).length) 0 8), mW C1 F v ar, mW C1 (upd (upd F2 9 0) 8 0) v2 (ua ar2 0 (cpF (ar2 0) 976 0 976 0)), ?_, ?_, ?_, ?_⟩
      · rw [pre, if_pos hfc, P6.cl, j1, some_bind', gR_ob t7 rfl, some_bind', CS7.cl, ctotal_ok CS7 (by omega), some_bind']
      · dsimp only
        rw [k2', f_X11_text_67, m_p i1 F2 v2 ar2 9 (by omega) mFt.2.2.2.2, some_bind', m_cl i1, f_X11_isGood, m_gI i1 _ v2 ar2 6 rfl, some_bind', upd_ne _ _ (by omega), z6, if_pos rfl, some_bind', if_neg (show ¬ (1 : Int32) = 0 by decide), m_cl i1]
        rw [show f_X11_copies fu (mW C1 (upd F2 9 0) v2 ar2) 123 976 0 976 = _ from hcp, some_bind', m_p i1 _ v2 _ 8 (by omega) (show (mF (upd F2 9 0) v2).set 8 (.int 0) = mF (upd (upd F2 9 0) 8 0) v2 from rfl), some_bind', m_cl i1, B2.total (by omega), some_bind']
      · exact m_cl i1 _ _ _ _
      · refine ⟨C1, upd (upd F2 9 0) 8 0, v2, ua ar2 0 (cpF (ar2 0) 976 0 976 0), s2, [], n, ([], R.2.1, fc, fp, R.2.2.2.2), rfl, ⟨⟨i1, C0.m i1 ⟨fc, fp, t7⟩ _ _ _, CS7.m i1 _ _ _, OZ, j2.m i1 _ _ _, by rw [ua_eq]; exact M2, ⟨by simp, fun t ht => by simp at ht⟩, upd_eq _ _ _, by rw [upd_ne _ _ (by omega), upd_eq]; rfl⟩, Z7.m i1 _ _ _, FZ, fun W hW => by simp at hW⟩, rc7.m i1 _ _ _, ?_⟩
        refine restM _ _ ?_ ?_ ?_ ?_ (fun k hk => by rw [ua_ne _ _ hk]; exact yA k hk) cp0
        · rw [upd_ne _ _ (by omega), upd_ne _ _ (by omega)]; exact y4
        · rw [upd_ne _ _ (by omega), upd_ne _ _ (by omega)]; exact yF 5 (by omega) (by omega) (by omega) (by omega) (by omega) (by omega) (by omega) (by omega)
        · rw [upd_ne _ _ (by omega), upd_ne _ _ (by omega), z6]; exact hfc.symm
        · rw [upd_ne _ _ (by omega), upd_ne _ _ (by omega), z7]; exact efp.symm
    · obtain ⟨_, x, x2, x3⟩ := GB.good (v := v) (ar := ar)
      exact absurd ((Option.some.inj (x3.symm.trans K3.g.2.2.2.2.1)).trans hfc) x2
  · have h6 : CS w6 s3.1 s3.2 := (h3.chg c4 (fun k hk => by simp at hk; omega)).chg0 c46 (fun k hk => by simp at hk; omega)
    obtain ⟨w7, j1, j2, j3⟩ := giveb_ok O (fu := fu) (by omega) (p := 91) (by omega) h6 S6
    have c67 : Chg (31 :: hpl) w6 w7 := j3.mono (fun k hk => List.mem_cons_of_mem _ hk)
    have c07 : Chg tks (mW C F v ar) w7 := c06.tr (t_hpl j3)
    obtain ⟨C1, i1, i2, i3⟩ := mW_chg hC c07 (fun k hk => by have := tks_i hk; omega)
    subst i2
    obtain ⟨s2, f2, w3', F2, v2, ar2, k1', k2', k3', k4', y4, y9, yF, yA, y0⟩ := text_run (C := C1) (v := v) (F := F) (ar := ar) hfu K2 b2 Z2 h902 m4 mT i1
    have ew : w3' = w3 := by rw [k1] at k1'; exact (Option.some.inj k1').symm
    subst ew
    rcases k3' with ⟨z, _, GZ⟩ | GB
    · exact absurd (Option.some.inj (K3.g.2.2.2.2.1.symm.trans GZ.good.2)) hfc
    · obtain ⟨cc, fp2, s4, p4, k4, st4, num4, f4, cc1, cc2, hp4, KB, hB, ZB, hB90, hCB, mb6, mb7⟩ := GB
      have efc : fc = nI cc := Option.some.inj (K3.g.2.2.2.2.1.symm.trans KB.g.2.2.2.2.1)
      have efp : fp = fp2 := Option.some.inj (K3.g.2.2.2.2.2.1.symm.trans KB.g.2.2.2.2.2.1)
      have t7 := j3.at (by decide) t6
      have Z7 : Sc (mW C1 F v ar) := Z6.hp j3
      have P7 : CP (mW C1 F v ar) n V := P6.chg j3 (fun k hk => by have := hpl_sc k hk; omega)
      refine ⟨-1, mW C1 F v ar, mW C1 (upd F2 9 0) v2 ar2, ?_, ?_, m_cl i1 _ _ _ _, ⟨C1, upd F2 9 0, v2, ar2, s, V, n, ([], R.2.1, fc, fp, R.2.2.2.2), rfl, ⟨⟨i1, C0.m i1 ⟨fc, fp, t7⟩ _ _ _, j2.m i1 _ _ _, O, P7.m i1 _ _ _, M.copy O.1 (fun q hq => y0 _ (by omega)), ⟨U.1, fun t ht => ⟨(U.2 t ht).1.copy (U.2 t ht).2 (fun q hq => y0 _ (by omega)), (U.2 t ht).2⟩⟩, by rw [upd_ne _ _ (by omega), yF 8 (by omega) (by omega) (by omega) (by omega) (by omega) (by omega) (by omega) (by omega)]; exact h8, upd_eq _ _ _⟩, Z7.m i1 _ _ _, FO, FV⟩, (rest (mW C1 F v ar) c07 c67).m i1 _ _ _, ?_⟩⟩
      · rw [pre, if_neg hfc, cl_ob S6.1, j1, some_bind']
      · dsimp only
        rw [k2', f_X11_text_67, m_p i1 F2 v2 ar2 9 (by omega) mFt.2.2.2.2, some_bind', m_cl i1, f_X11_isGood, m_gI i1 _ v2 ar2 6 rfl, some_bind', upd_ne _ _ (by omega), mb6, ← efc, if_neg hfc, some_bind', if_pos rfl]
      · refine restM _ _ ?_ ?_ ?_ ?_ yA (fun q hq => y0 q (by omega))
        · rw [upd_ne _ _ (by omega)]; exact y4
        · rw [upd_ne _ _ (by omega)]; exact yF 5 (by omega) (by omega) (by omega) (by omega) (by omega) (by omega) (by omega) (by omega)
        · rw [upd_ne _ _ (by omega), mb6]; exact efc.symm
        · rw [upd_ne _ _ (by omega), mb7]; exact efp.symm
end Q
