/-! the model's runs -/
section M
variable {C : MW} {v : Int64} {ar : Nat → Nat → Int32} {fu : Nat}
theorem mFk {F : Nat → Int32} {v : Int64} {x : Int32} : (mF F v).set 16 (.int x) = mF (upd F 16 x) v ∧ (mF F v).set 17 (.int x) = mF (upd F 17 x) v ∧ (mF F v).set 18 (.int x) = mF (upd F 18 x) v ∧ (mF F v).set 19 (.int x) = mF (upd F 19 x) v ∧ (mF F v).set 20 (.int x) = mF (upd F 20 x) v := ⟨rfl, rfl, rfl, rfl, rfl⟩
/-- the fields of the runs alone may differ -/
def FS (F F' : Nat → Int32) : Prop := ∀ k, k < 16 ∨ 20 < k → F' k = F k
theorem FS.tr {F F1 F2 : Nat → Int32} (h : FS F F1) (g : FS F1 F2) : FS F F2 := fun k hk => (g k hk).trans (h k hk)
theorem FS.up {F F1 : Nat → Int32} (h : FS F F1) {k : Nat} (hk : 16 ≤ k ∧ k ≤ 20) (x : Int32) : FS F (upd F1 k x) := fun j hj => (upd_ne _ _ (by omega)).trans (h j hj)
/-- the fields hold the runs -/
def RF (F : Nat → Int32) (R : RS) : Prop := F 16 = nI R.1 ∧ F 17 = nI R.2.1 ∧ F 18 = nI R.2.2.1 ∧ F 19 = nI R.2.2.2.1 ∧ (R.2.2.2.1 = 0 ∨ F 20 = nI R.2.2.2.2)
theorem endsRun_loop (hC : C.length = 123) : ∀ N n c F, n < 2 ^ 31 → n < N → F 17 = nI c → ∃ F', f_X11_endsRun_59 fu N (mW C F v ar) 123 (nI n) = some (mW C F' v ar) ∧ F' 17 = nI (c + Nat.log2 n) ∧ ∀ k, k ≠ 17 → F' k = F k := by
  intro N
  induction N with
  | zero => intro n c F _ h _; omega
  | succ N ih =>
    intro n c F hn h hF
    rw [f_X11_endsRun_59]
    by_cases c1 : n ≤ 1
    · rw [if_pos (show nI n ≤ (1 : Int32) from nI_le (b := 1) c1 (by omega)), log2_1 (by omega)]
      exact ⟨F, rfl, hF, fun _ _ => rfl⟩
    · obtain ⟨F', g1, g2, g3⟩ := ih (n / 2) (c + 1) (upd F 17 (nI (c + 1))) (by omega) (by omega) (upd_eq _ _ _)
      rw [if_neg (show ¬ nI n ≤ (1 : Int32) from nI_ge (a := 1) (by omega) hn), m_gI hC F v ar 17 rfl, some_bind', hF, nI_1, m_p hC F v ar 17 (by omega) mFk.2.1, some_bind', bnd_eq, show (2 : Int32) = nI 2 from rfl, pk_div hn (by omega) (by omega), g1]
      refine ⟨F', rfl, ?_, fun k hk => by rw [g3 k hk, upd_ne _ _ hk]⟩
      rw [g2, log2_s (n := n) (by omega), show c + 1 + (n / 2).log2 = c + ((n / 2).log2 + 1) by omega]
theorem endsRun_ok (hC : C.length = 123) (hfu : 2000 ≤ fu) {F : Nat → Int32} {R : RS} (h : RF F R) (hB : RB R 0) : ∃ F', f_X11_endsRun fu (mW C F v ar) 123 = some (mW C F' v ar) ∧ RF F' (rEnd R) ∧ FS F F' := by
  obtain ⟨b1, b2⟩ := hB
  obtain ⟨f1, f2, f3, f4, f5⟩ := h
  rw [f_X11_endsRun, m_gI hC F v ar 19 rfl, some_bind', f4]
  unfold rEnd
  by_cases c : R.2.2.2.1 = 0
  · rw [if_pos c, c, if_pos (by decide)]
    exact ⟨F, rfl, ⟨f1, f2, f3, f4, f5⟩, fun _ _ => rfl⟩
  · rw [if_neg c, if_neg (fun q => c ((nI_eq0 (by omega)).mp q)), m_gI hC F v ar 16 rfl, some_bind', f1, nI_1, m_p hC F v ar 16 (by omega) mFk.1, some_bind']
    have key : ∃ F', f_X11_endsRun_41 fu (mW C (upd F 16 (nI (R.1 + 1))) v ar) 123 123 (nI (max R.2.2.1 R.2.2.2.1)) = some (mW C F' v ar) ∧ RF F' (R.1 + 1, R.2.1 + 1 + Nat.log2 R.2.2.2.1, max R.2.2.1 R.2.2.2.1, R.2.2.2.1, R.2.2.2.2) ∧ FS F F' := by
      obtain ⟨F', g1, g2, g3⟩ := endsRun_loop (v := v) (ar := ar) (fu := fu) hC fu R.2.2.2.1 (R.2.1 + 1) (upd (upd (upd F 16 (nI (R.1 + 1))) 18 (nI (max R.2.2.1 R.2.2.2.1))) 17 (nI (R.2.1 + 1))) (by omega) (by omega) (upd_eq _ _ _)
      rw [f_X11_endsRun_41, m_p hC _ v ar 18 (by omega) mFk.2.2.1, some_bind', m_gI hC _ v ar 17 rfl, some_bind', upd_ne _ _ (by omega : 17 ≠ 18), upd_ne _ _ (by omega : 17 ≠ 16), f2, nI_1, m_p hC _ v ar 17 (by omega) mFk.2.1, some_bind', m_gI hC _ v ar 19 rfl, some_bind', upd_ne _ _ (by omega : 19 ≠ 17), upd_ne _ _ (by omega : 19 ≠ 18), upd_ne _ _ (by omega : 19 ≠ 16), f4, bnd_eq, g1]
      refine ⟨F', rfl, ⟨?_, g2, ?_, ?_, ?_⟩, fun k hk => ?_⟩
      · rw [g3 16 (by omega), upd_ne _ _ (by omega), upd_ne _ _ (by omega), upd_eq]
      · rw [g3 18 (by omega), upd_ne _ _ (by omega), upd_eq]
      · rw [g3 19 (by omega), upd_ne _ _ (by omega), upd_ne _ _ (by omega), upd_ne _ _ (by omega)]; exact f4
      · rw [g3 20 (by omega), upd_ne _ _ (by omega), upd_ne _ _ (by omega), upd_ne _ _ (by omega)]; exact f5
      · rw [g3 k (by omega), upd_ne _ _ (by omega), upd_ne _ _ (by omega), upd_ne _ _ (by omega)]
    rw [m_gI hC _ v ar 19 rfl, some_bind', upd_ne _ _ (by omega : 19 ≠ 16), f4, m_gI hC _ v ar 18 rfl, some_bind', upd_ne _ _ (by omega : 18 ≠ 16), f3]
    by_cases q : R.2.2.2.1 ≤ R.2.2.1
    · rw [if_pos (nI_le q (by omega)), some_bind']
      rw [Nat.max_eq_left q] at key ⊢
      exact key
    · rw [if_neg (nI_ge (by omega) (by omega)), some_bind']
      rw [Nat.max_eq_right (by omega)] at key ⊢
      exact key
theorem goes_ok (hC : C.length = 123) (hfu : 2000 ≤ fu) {F : Nat → Int32} {R : RS} (h : RF F R) (h20 : F 20 = -1 ∨ F 20 = nI R.2.2.2.2) (hB : RB R 1) (hof : R.2.2.2.2 ≤ 1) {o : Nat} (ho : o ≤ 1) : ∃ F', f_X11_goes fu (mW C F v ar) 123 (nI o) = some (mW C F' v ar) ∧ RF F' (rGo o R) ∧ F' 20 = nI o ∧ FS F F' := by
  obtain ⟨b1, b2⟩ := hB
  rw [f_X11_goes, m_gI hC F v ar 20 rfl, some_bind']
  by_cases c : nI o = F 20
  · have hx : F 20 = nI R.2.2.2.2 := by
      rcases h20 with q | q
      · rw [q] at c; exact absurd c (m1_ne o (by omega))
      · exact q
    have ho2 : o = R.2.2.2.2 := by rw [hx] at c; exact (nI_eq (by omega) (by omega)).mp c
    obtain ⟨f1, f2, f3, f4, f5⟩ := h
    rw [if_pos c, f_X11_goes_22, m_gI hC F v ar 19 rfl, some_bind', f4, nI_1, m_p hC F v ar 19 (by omega) mFk.2.2.2.1, some_bind']
    have er : rGo o R = (R.1, R.2.1, R.2.2.1, R.2.2.2.1 + 1, o) := by unfold rGo; rw [if_pos ho2]
    rw [er]
    refine ⟨_, rfl, ⟨?_, ?_, ?_, upd_eq _ _ _, Or.inr ?_⟩, ?_, fun k hk => upd_ne _ _ (by omega)⟩
    · rw [upd_ne _ _ (by omega)]; exact f1
    · rw [upd_ne _ _ (by omega)]; exact f2
    · rw [upd_ne _ _ (by omega)]; exact f3
    · rw [upd_ne _ _ (by omega)]; exact c.symm
    · rw [upd_ne _ _ (by omega)]; exact c.symm
  · have er : rGo o R = ((rEnd R).1, (rEnd R).2.1, (rEnd R).2.2.1, 1, o) := by
      unfold rGo
      by_cases q : o = R.2.2.2.2
      · have hr : R.2.2.2.1 = 0 := by
          rcases h.2.2.2.2 with q2 | q2
          · exact q2
          · rw [q2, q] at c; exact absurd rfl c
        rw [if_pos q]
        unfold rEnd
        rw [if_pos hr, hr]
      · rw [if_neg q]
    obtain ⟨F1, g1, g2, g3⟩ := endsRun_ok (v := v) (ar := ar) hC hfu h ⟨b1, by omega⟩
    obtain ⟨f1, f2, f3, f4, f5⟩ := g2
    rw [if_neg c, m_cl hC, g1, some_bind', m_p hC _ v ar 19 (by omega) mFk.2.2.2.1, some_bind', m_p hC _ v ar 20 (by omega) mFk.2.2.2.2, some_bind', f_X11_goes_22, m_gI hC _ v ar 19 rfl, some_bind', upd_ne _ _ (by omega : 19 ≠ 20), upd_eq, show (0 : Int32) + 1 = nI 1 from rfl, m_p hC _ v ar 19 (by omega) mFk.2.2.2.1, some_bind', er]
    refine ⟨_, rfl, ⟨?_, ?_, ?_, upd_eq _ _ _, Or.inr ?_⟩, ?_, fun k hk => ?_⟩
    · rw [upd_ne _ _ (by omega), upd_ne _ _ (by omega), upd_ne _ _ (by omega)]; exact f1
    · rw [upd_ne _ _ (by omega), upd_ne _ _ (by omega), upd_ne _ _ (by omega)]; exact f2
    · rw [upd_ne _ _ (by omega), upd_ne _ _ (by omega), upd_ne _ _ (by omega)]; exact f3
    · rw [upd_ne _ _ (by omega), upd_eq]
    · rw [upd_ne _ _ (by omega), upd_eq]
    · rw [upd_ne _ _ (by omega), upd_ne _ _ (by omega), upd_ne _ _ (by omega)]; exact g3 k hk
theorem lays_loop {b : Nat} {s : AS} (hfu : 2000 ≤ fu) {p q : Nat} (hp : p < 8) (hq : q < 8) : ∀ N i j R F, MB C F ar b s → RF F R → (F 20 = -1 ∨ F 20 = nI R.2.2.2.2) → RB R (((s.1 p).length - i) + ((s.1 q).length - j)) → R.2.2.2.2 ≤ 1 → i ≤ (s.1 p).length → j ≤ (s.1 q).length → ((s.1 p).length - i) + ((s.1 q).length - j) < N → ∃ F', f_X11_laysRuns_30 fu N (mW C F v ar) 123 (nI p) (nI q) (nI i) (nI j) = some (mW C F' v ar) ∧ RF F' (rAll (evs ((s.1 p).drop i) ((s.1 q).drop j)) R) ∧ FS F F' := by
  intro N
  induction N with
  | zero => intro i j R F _ _ _ _ _ _ _ hN; omega
  | succ N ih =>
    intro i j R F B h h20 hB hof hi hj hN
    have S := B.2.2.2.2 p hp
    have S2 := B.2.2.2.2 q hq
    have l1 := S.len
    have l2 := S2.len
    have hC := B.1
    rw [f_X11_laysRuns_30, B.cl, B.many hp, some_bind']
    have step : ∀ t, t < 3 → (i + if t ≤ 1 then 1 else 0) ≤ (s.1 p).length → (j + if 1 ≤ t then 1 else 0) ≤ (s.1 q).length → evs ((s.1 p).drop i) ((s.1 q).drop j) = t :: evs ((s.1 p).drop (i + if t ≤ 1 then 1 else 0)) ((s.1 q).drop (j + if 1 ≤ t then 1 else 0)) → ∀ a c : Nat, a < 2 ^ 31 → c < 2 ^ 31 → ((t = 0 ∧ a < c) ∨ (t = 1 ∧ a = c) ∨ (t = 2 ∧ c < a)) → ∃ F', f_X11_laysRuns_95 fu (f_X11_laysRuns_30 fu N) (mW C F v ar) 123 (nI p) (nI q) (nI i) (nI j) (nI a) (nI c) = some (mW C F' v ar) ∧ RF F' (rAll (evs ((s.1 p).drop i) ((s.1 q).drop j)) R) ∧ FS F F' := by
      intro t ht hi2 hj2 he a c ha hc hac
      have hB1 : RB R 1 := ⟨hB.1, by
        have := hB.2
        have : t = 0 ∨ t = 1 ∨ t = 2 := by omega
        rcases this with rfl | rfl | rfl <;> simp at hi2 hj2 <;> omega⟩
      have ho : ofE t ≤ 1 := by unfold ofE; split <;> omega
      obtain ⟨F1, g1, g2, g3, g4⟩ := goes_ok (v := v) (ar := ar) hC hfu h h20 hB1 hof ho
      have B1 : MB C F1 ar b s := B.F hC (g4 9 (by omega)) B.2.2.2.1 B.2.2.2.2
      have hB2 : RB (rGo (ofE t) R) (((s.1 p).length - (i + if t ≤ 1 then 1 else 0)) + ((s.1 q).length - (j + if 1 ≤ t then 1 else 0))) := by
        refine RB.go ⟨hB.1, ?_⟩ _
        have := hB.2
        have : t = 0 ∨ t = 1 ∨ t = 2 := by omega
        rcases this with rfl | rfl | rfl <;> simp at hi2 hj2 ⊢ <;> omega
      have hlt : ((s.1 p).length - (i + if t ≤ 1 then 1 else 0)) + ((s.1 q).length - (j + if 1 ≤ t then 1 else 0)) < N := by
        have : t = 0 ∨ t = 1 ∨ t = 2 := by omega
        rcases this with rfl | rfl | rfl <;> simp at hi2 hj2 ⊢ <;> omega
      obtain ⟨F2, k1, k2, k3⟩ := ih _ _ (rGo (ofE t) R) F1 B1 g2 (Or.inr (by rw [rGo_of]; exact g3)) hB2 (by rw [rGo_of]; exact ho) hi2 hj2 hlt
      refine ⟨F2, ?_, by rw [he]; exact k2, g4.tr k3⟩
      rw [f_X11_laysRuns_95, bnd_eq]
      rcases hac with ⟨rfl, q⟩ | ⟨rfl, q⟩ | ⟨rfl, q⟩
      · rw [if_neg (nI_nlt (by omega) hc), m_cl hC, show (0 : Int32) = nI (ofE 0) from rfl, g1, some_bind', f_X11_laysRuns_117, if_neg (nI_nlt (by omega) hc), f_X11_laysRuns_130, bnd_eq, if_pos (nI_lt q hc), f_X11_laysRuns_146, bnd_eq, nI_1, show (0 : Int32) = nI 0 from rfl, nI_add]
        exact k1
      · rw [if_neg (nI_nlt (by omega) hc), m_cl hC, show (0 : Int32) = nI (ofE 1) from rfl, g1, some_bind', f_X11_laysRuns_117, if_neg (nI_nlt (by omega) hc), f_X11_laysRuns_130, bnd_eq, if_neg (nI_nlt (by omega) ha), f_X11_laysRuns_146, bnd_eq, nI_1, nI_1]
        exact k1
      · rw [if_pos (nI_lt q ha), m_cl hC, show (1 : Int32) = nI (ofE 2) from rfl, g1, some_bind', f_X11_laysRuns_117, if_pos (nI_lt q ha), f_X11_laysRuns_130, bnd_eq, if_neg (nI_nlt (by omega) ha), f_X11_laysRuns_146, bnd_eq, show (0 : Int32) = nI 0 from rfl, nI_add, nI_1]
        exact k1
    have k49 : i < (s.1 p).length ∨ j < (s.1 q).length → ∃ F', f_X11_laysRuns_49 fu (f_X11_laysRuns_30 fu N) (mW C F v ar) 123 (nI p) (nI q) (nI i) (nI j) = some (mW C F' v ar) ∧ RF F' (rAll (evs ((s.1 p).drop i) ((s.1 q).drop j)) R) ∧ FS F F' := by
      intro hor
      rw [f_X11_laysRuns_49, B.cl, B.many hp, some_bind']
      by_cases ci : (s.1 p).length ≤ i
      · have b2 := S2.lt (show j < (s.1 q).length by omega)
        rw [if_pos (nI_le ci (by omega)), f_X11_laysRuns_70, bnd_eq, B.cl, B.many hq, some_bind', if_neg (nI_ge (by omega) (by omega)), B.cl, B.key hq (by omega), some_bind', show (10000 : Int32) = nI 10000 from rfl]
        exact step 2 (by omega) (by simp; omega) (by simp; omega) (evs_c1 ci (by omega)) _ _ (by omega) (by omega) (by omega)
      · have b1 := S.lt (show i < (s.1 p).length by omega)
        rw [if_neg (nI_ge (by omega) (by omega)), B.cl, B.key hp (by omega), some_bind', f_X11_laysRuns_70, bnd_eq, B.cl, B.many hq, some_bind']
        by_cases cj : (s.1 q).length ≤ j
        · rw [if_pos (nI_le cj (by omega)), show (10000 : Int32) = nI 10000 from rfl]
          exact step 0 (by omega) (by simp; omega) (by simp; omega) (evs_c2 (by omega) cj) _ _ (by omega) (by omega) (by omega)
        · have b2 := S2.lt (show j < (s.1 q).length by omega)
          have ec := evs_c3 (show i < (s.1 p).length by omega) (show j < (s.1 q).length by omega)
          rw [if_neg (nI_ge (by omega) (by omega)), B.cl, B.key hq (by omega), some_bind']
          by_cases q1 : nth (s.1 p) i / 2 < nth (s.1 q) j / 2
          · rw [if_pos q1] at ec
            exact step 0 (by omega) (by simp; omega) (by simp; omega) ec _ _ (by omega) (by omega) (by omega)
          · rw [if_neg q1] at ec
            by_cases q2 : nth (s.1 p) i / 2 = nth (s.1 q) j / 2
            · rw [if_pos q2] at ec
              exact step 1 (by omega) (by simp; omega) (by simp; omega) ec _ _ (by omega) (by omega) (by omega)
            · rw [if_neg q2] at ec
              exact step 2 (by omega) (by simp; omega) (by simp; omega) ec _ _ (by omega) (by omega) (by omega)
    by_cases ci : i < (s.1 p).length
    · rw [if_pos (nI_lt ci (by omega))]
      exact k49 (Or.inl ci)
    · rw [if_neg (nI_nlt (by omega) (by omega)), B.cl, B.many hq, some_bind']
      by_cases cj : j < (s.1 q).length
      · rw [if_neg (nI_ge cj (by omega))]
        exact k49 (Or.inr cj)
      · obtain ⟨F', g1, g2, g3⟩ := endsRun_ok (v := v) (ar := ar) hC hfu h ⟨hB.1, by have := hB.2; omega⟩
        rw [if_pos (nI_le (by omega) (by omega)), B.cl, g1, some_bind', drop_len (by omega), drop_len (by omega), evs]
        exact ⟨F', rfl, g2, g3⟩
theorem lays_ok {b : Nat} {s : AS} (hfu : 2000 ≤ fu) {p q : Nat} (hp : p < 8) (hq : q < 8) {F : Nat → Int32} (B : MB C F ar b s) : ∃ F', f_X11_laysRuns fu (mW C F v ar) 123 (nI p) (nI q) = some (mW C F' v ar) ∧ RF F' (rsOf (s.1 p) (s.1 q)) ∧ FS F F' := by
  have hC := B.1
  have l1 := (B.2.2.2.2 p hp).len
  have l2 := (B.2.2.2.2 q hq).len
  have f5 : FS F (upd (upd (upd (upd (upd F 16 0) 17 0) 18 0) 19 0) 20 (-1)) := ((((FS.up (F := F) (fun _ _ => rfl) (by omega) 0).up (by omega) 0).up (by omega) 0).up (by omega) 0).up (by omega) (-1)
  obtain ⟨F', g1, g2, g3⟩ := lays_loop (v := v) (fu := fu) hfu hp hq fu 0 0 (0, 0, 0, 0, 0) (upd (upd (upd (upd (upd F 16 0) 17 0) 18 0) 19 0) 20 (-1)) (B.F hC (f5 9 (by omega)) B.2.2.2.1 B.2.2.2.2) ⟨rfl, rfl, rfl, rfl, Or.inl rfl⟩ (Or.inl rfl) ⟨by decide, by show 0 + _ ≤ 1000; omega⟩ (by decide) (by omega) (by omega) (by omega)
  refine ⟨F', ?_, g2, f5.tr g3⟩
  rw [f_X11_laysRuns, m_p hC _ v ar 16 (by omega) mFk.1, some_bind', m_p hC _ v ar 17 (by omega) mFk.2.1, some_bind', m_p hC _ v ar 18 (by omega) mFk.2.2.1, some_bind', m_p hC _ v ar 19 (by omega) mFk.2.2.2.1, some_bind', m_p hC _ v ar 20 (by omega) mFk.2.2.2.2, some_bind', bnd_eq, bnd_eq]
  exact g1
theorem twins_loop {b : Nat} {s : AS} (hfu : 100 ≤ fu) {p q : Nat} (hp : p < 8) (hq : q < 8) {F : Nat → Int32} (B : MB C F ar b s) : ∀ N k acc, k ≤ (s.1 q).length → (s.1 q).length - k < N → f_X11_twins_5 fu (mW C F v ar) N 123 (nI p) (nI q) (nI acc) (nI k) = some (nI (acc + twN (s.1 p) ((s.1 q).drop k))) := by
  have S := B.2.2.2.2 p hp
  have S2 := B.2.2.2.2 q hq
  have l2 := S2.len
  intro N
  induction N with
  | zero => intro k acc _ hN; omega
  | succ N ih =>
    intro k acc hk hN
    rw [f_X11_twins_5, B.cl, B.many hq, some_bind']
    by_cases c : (s.1 q).length ≤ k
    · rw [if_pos (nI_le c (by omega)), drop_len c]; rfl
    · have hk' : k < (s.1 q).length := by omega
      have hb := S2.lt hk'
      rw [if_neg (nI_ge hk' (by omega)), B.cl, B.key hq hk', some_bind', B.cl, B.place hp hfu, some_bind', drop_cons hk']
      have e1 : ∀ x, twN (s.1 p) (x :: (s.1 q).drop (k + 1)) = twN (s.1 p) ((s.1 q).drop (k + 1)) + if hasK (s.1 p) (x / 2) = true then 1 else 0 := fun x => List.countP_cons
      rw [e1]
      have h1 := hasK_plc S (k := nth (s.1 q) k / 2) (by omega)
      by_cases c2 : plc (s.1 p) (nI (nth (s.1 q) k / 2)) = -1
      · rw [if_pos c2, f_X11_twins_37, bnd_eq, bnd_eq, nI_1, show (0 : Int32) = nI 0 from rfl, nI_add, ih (k + 1) _ hk' (by omega), if_neg (fun q => h1.mp q c2)]
        rfl
      · rw [if_neg c2, f_X11_twins_37, bnd_eq, bnd_eq, nI_1, nI_1, ih (k + 1) _ hk' (by omega), if_pos (h1.mpr c2)]
        congr 2
        omega
theorem twins_ok {b : Nat} {s : AS} (hfu : 100 ≤ fu) {p q : Nat} (hp : p < 8) (hq : q < 8) {F : Nat → Int32} (B : MB C F ar b s) : f_X11_twins fu (mW C F v ar) 123 (nI p) (nI q) = some (nI (twN (s.1 p) (s.1 q))) := by
  have := twins_loop (v := v) (fu := fu) hfu hp hq B fu 0 0 (by omega) (by have := (B.2.2.2.2 q hq).len; omega)
  rw [Nat.zero_add] at this
  rw [f_X11_twins, bnd_eq, bnd_eq]
  exact this
end M
