theorem WD.eq {w : MW} {n : Nat} {g g' : Nat → MC} (d : WD w n g) (h : ∀ k, k < n → g k = g' k) : WD w n g' := ⟨d.1, d.2.1, fun k hk => by rw [d.2.2 k hk, h k hk]⟩
theorem uM_eq (g : Nat → MC) (h : Nat) (c : MC) : updM g h c h = c := if_pos rfl
theorem uM_ne (g : Nat → MC) {h k : Nat} (c : MC) (e : k ≠ h) : updM g h c k = g k := if_neg e
theorem rR {n k : Nat} (h : k < n) : rOK n (.ref k) = true := by simp [rOK, h]
theorem all2 {n : Nat} {a b : Value} (h1 : rOK n a = true) (h2 : rOK n b = true) : [a, b].all (rOK n) = true := by simp [h1, h2]
theorem all3 {n : Nat} {a b c : Value} (h1 : rOK n a = true) (h2 : rOK n b = true) (h3 : rOK n c = true) : [a, b, c].all (rOK n) = true := by simp [h1, h2, h3]
def aZ (l : Nat) : MC := .inl (.int, l, .inl (fun _ => 0))
theorem i_X0 {w : MW} {n v0 : Nat} {g : Nat → MC} (d : WD w n g) (hn : n < 8000) (hv : v0 < n) (hg : g v0 = .inr (0, [.null, .int 0, .int 0])) : ∃ w', f_X0_init w v0 = some w' ∧ WD w' (n + 1) (updM (updM g n (aZ 60)) v0 (.inr (0, [.ref n, .int 0, .int (-1)]))) := by
  obtain ⟨w1, e1, d1⟩ := nwD (n0 := n) (vs := [.ref v0, .ref v0]) (c := aZ 60) d (by omega) (by simp [rOK, hv]) (Nat.le_refl _) trivial
  obtain ⟨w2, e2, d2⟩ := pVD (h := v0) (k := 0) (v := .ref n) d1 (by omega) (by rw [uM_ne _ _ (by omega)]; exact hg) (by simp) (by simp [rOK])
  obtain ⟨w3, e3, d3⟩ := pVD (h := v0) (k := 1) (v := .int 0) d2 (by omega) (uM_eq _ _ _) (by simp) (by simp [rOK])
  obtain ⟨w4, e4, d4⟩ := pVD (h := v0) (k := 2) (v := .int (-1)) d3 (by omega) (uM_eq _ _ _) (by simp) (by simp [rOK])
  refine ⟨w4, ?_, d4.eq (fun k hk => ?_)⟩
  · rw [f_X0_init, d.2.1]
    show (nwC n w [.ref v0, .ref v0] (aZ 60)).bind _ = _
    rw [e1, some_bind', e2, some_bind', e3, some_bind', e4, some_bind']
  · by_cases e : k = v0
    · rw [e, uM_eq, uM_eq]; rfl
    · rw [uM_ne _ _ e, uM_ne _ _ e, uM_ne _ _ e, uM_ne _ _ e]
theorem i_X6 {w : MW} {n v0 : Nat} {g : Nat → MC} (d : WD w n g) (hn : n < 8000) (hv : v0 < n) (hg : g v0 = .inr (6, [.null, .null, .null])) : ∃ w', f_X6_init w v0 = some w' ∧ WD w' (n + 3) (updM (updM (updM (updM g n (aZ 240)) (n + 1) (aZ 8)) (n + 2) (aZ 8)) v0 (.inr (6, [.ref n, .ref (n + 1), .ref (n + 2)]))) := by
  have hl := d.2.1
  obtain ⟨w1, e1, d1⟩ := nwD (n0 := n) (vs := [.ref v0, .ref v0]) (c := aZ 240) d (by omega) (all2 (rR hv) (rR hv)) (Nat.le_refl _) trivial
  obtain ⟨w2, e2, d2⟩ := pVD (h := v0) (k := 0) (v := .ref n) d1 (by omega) (by rw [uM_ne _ _ (by omega)]; exact hg) (by simp) (by exact all3 (rR (by omega)) rfl rfl)
  obtain ⟨w3, e3, d3⟩ := nwD (n0 := n) (vs := [.ref v0, .ref v0]) (c := aZ 8) d2 (by omega) (all2 (rR (by omega)) (rR (by omega))) (by omega) trivial
  obtain ⟨w4, e4, d4⟩ := pVD (h := v0) (k := 1) (v := .ref (n + 1)) d3 (by omega) (by rw [uM_ne _ _ (by omega), uM_eq]) (by simp) (by exact all3 (rR (by omega)) (rR (by omega)) rfl)
  obtain ⟨w5, e5, d5⟩ := nwD (n0 := n) (vs := [.ref v0, .ref v0]) (c := aZ 8) d4 (by omega) (all2 (rR (by omega)) (rR (by omega))) (by omega) trivial
  obtain ⟨w6, e6, d6⟩ := pVD (h := v0) (k := 2) (v := .ref (n + 2)) d5 (by omega) (by rw [uM_ne _ _ (by omega), uM_eq]) (by simp) (by exact all3 (rR (by omega)) (rR (by omega)) (rR (by omega)))
  refine ⟨w6, ?_, d6.eq (fun k hk => ?_)⟩
  · rw [f_X6_init, hl]
    show (nwC n w [.ref v0, .ref v0] (aZ 240)).bind _ = _
    rw [e1, some_bind', e2, some_bind']
    show (nwC n w2 [.ref v0, .ref v0] (aZ 8)).bind _ = _
    rw [e3, some_bind', d2.2.1, e4, some_bind']
    show (nwC n w4 [.ref v0, .ref v0] (aZ 8)).bind _ = _
    rw [e5, some_bind', d4.2.1, e6, some_bind']
  · by_cases e : k = v0
    · rw [e, uM_eq, uM_eq]; rfl
    · simp only [updM, if_neg e]
