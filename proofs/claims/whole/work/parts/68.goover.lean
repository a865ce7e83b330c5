/-- how many of a stretch aren't there yet -/
def cNew (M T : List Nat) : Nat := T.countP (fun e => decide (plc M (nI (e / 2)) = -1))
theorem vu_eq {α : Type} (f : Nat → α) (k : Nat) (x : α) : va_up f k x k = x := by simp [va_up]
theorem vu_ne {α : Type} (f : Nat → α) {k j : Nat} (x : α) (h : j ≠ k) : va_up f k x j = f j := by simp [va_up, h]
theorem key_eq {L : List Nat} (S : SOK L) {x : Int32} (h : ¬ plc L x = -1) : nI (nth L (bel L x) / 2) = x := by
  unfold plc at h
  by_cases c : bel L x < L.length ∧ nI (nth L (bel L x) / 2) = x
  · exact c.2
  · rw [if_neg c] at h; exact absurd rfl h
/-- what a step of goStep is -/
theorem goStep_i {s : AS} {i j r : Nat} (hij : i ≠ j) : (goStep s i j r).1 i = (s.1 i).eraseIdx r ∧ (goStep s i j r).2 i = -1 := by
  unfold goStep
  split
  · exact ⟨by simp only [vu_ne _ _ hij, vu_eq], by simp only [vu_ne _ _ hij, vu_eq]⟩
  · split
    · exact ⟨by simp only [vu_ne _ _ hij, vu_eq], by simp only [vu_ne _ _ hij, vu_eq]⟩
    · exact ⟨by simp only [vu_ne _ _ hij, vu_eq], by simp only [vu_ne _ _ hij, vu_eq]⟩
theorem goStep_o {s : AS} {i j r k : Nat} (h1 : k ≠ i) (h2 : k ≠ j) : (goStep s i j r).1 k = s.1 k ∧ (goStep s i j r).2 k = s.2 k := by
  unfold goStep
  split
  · exact ⟨by simp only [vu_ne _ _ h2, vu_ne _ _ h1], by simp only [vu_ne _ _ h2, vu_ne _ _ h1]⟩
  · split
    · exact ⟨by simp only [vu_ne _ _ h2, vu_ne _ _ h1], by simp only [vu_ne _ _ h2, vu_ne _ _ h1]⟩
    · exact ⟨by simp only [vu_ne _ _ h2, vu_ne _ _ h1], by simp only [vu_ne _ _ h2, vu_ne _ _ h1]⟩
theorem goStep_j {s : AS} {i j r : Nat} (O : ∀ i, i < 8 → SOK (s.1 i)) (hi : i < 8) (hj : j < 8) (hr : r < (s.1 i).length) (hl : plc (s.1 j) (nI (nth (s.1 i) r / 2)) = -1 → (s.1 j).length < 60) : SOK ((goStep s i j r).1 j) ∧ ((goStep s i j r).1 j).length = (s.1 j).length + (if plc (s.1 j) (nI (nth (s.1 i) r / 2)) = -1 then 1 else 0) ∧ ∀ x, x / 2 ≠ nth (s.1 i) r / 2 → x < 20000 → (plc ((goStep s i j r).1 j) (nI (x / 2)) = -1 ↔ plc (s.1 j) (nI (x / 2)) = -1) := by
  have Sj := O j hj
  have he := (O i hi).lt hr
  unfold goStep
  by_cases c : plc (s.1 j) (nI (nth (s.1 i) r / 2)) = -1
  · have S1 := SOK_ins Sj (hl c) he ((plc_iff Sj (by omega)).mp c)
    rw [if_pos c, if_pos c]
    simp only [vu_eq]
    refine ⟨S1, by rw [insAt_len (bel_le _ _)]; rfl, fun x hx hx2 => ?_⟩
    rw [plc_iff S1 (by omega), plc_iff Sj (by omega)]
    constructor
    · intro h y hy; exact h y (mem_ins.mpr (Or.inr hy))
    · intro h y hy
      rcases mem_ins.mp hy with rfl | hy
      · exact Ne.symm hx
      · exact h y hy
  · rw [if_neg c, if_neg c]
    obtain ⟨hb, hpe⟩ := plc_ne c
    have hk := key_eq Sj c
    have hlt := Sj.lt hb
    have hk2 : nth (s.1 j) (bel (s.1 j) (nI (nth (s.1 i) r / 2))) / 2 = nth (s.1 i) r / 2 := (nI_eq (by omega) (by omega)).mp hk
    by_cases c2 : nth (s.1 i) r % 2 = 1
    · rw [if_pos c2]
      simp only [vu_eq]
      have S1 := SOK_set Sj hb (x := 2 * (nth (s.1 i) r / 2) + 1) (by omega)
      refine ⟨S1, by rw [List.length_set]; rfl, fun x hx hx2 => ?_⟩
      rw [plc_iff S1 (by omega), plc_iff Sj (by omega)]
      constructor
      · intro h y hy
        obtain ⟨q, hq, rfl⟩ := mem_nth hy
        have h1 := h (nth ((s.1 j).set (bel (s.1 j) (nI (nth (s.1 i) r / 2))) (2 * (nth (s.1 i) r / 2) + 1)) q) (nth_mem (by rw [List.length_set]; exact hq))
        rw [nth_set hb] at h1
        by_cases e : q = bel (s.1 j) (nI (nth (s.1 i) r / 2))
        · rw [e, hk2]; exact Ne.symm hx
        · rw [if_neg e] at h1; exact h1
      · intro h y hy
        obtain ⟨q, hq, rfl⟩ := mem_nth hy
        rw [List.length_set] at hq
        rw [nth_set hb]
        by_cases e : q = bel (s.1 j) (nI (nth (s.1 i) r / 2))
        · rw [if_pos e]; omega
        · rw [if_neg e]; exact h _ (nth_mem hq)
    · rw [if_neg c2]
      simp only [vu_eq]
      exact ⟨Sj, rfl, fun _ _ _ => trivial⟩
theorem goStep_ok {s : AS} {i j r : Nat} (O : ∀ i, i < 8 → SOK (s.1 i)) (hi : i < 8) (hj : j < 8) (hij : i ≠ j) (hr : r < (s.1 i).length) (hl : plc (s.1 j) (nI (nth (s.1 i) r / 2)) = -1 → (s.1 j).length < 60) : ∀ k, k < 8 → SOK ((goStep s i j r).1 k) := by
  intro k hk
  by_cases e1 : k = i
  · subst e1; rw [(goStep_i hij).1]; exact SOK_erase (O k hk) r
  · by_cases e2 : k = j
    · subst e2; exact (goStep_j O hi hk hr hl).1
    · rw [(goStep_o e1 e2).1]; exact O k hk
theorem dt_cons {L : List Nat} {r m : Nat} (hm : 0 < m) (hr : r < L.length) : (L.drop r).take m = nth L r :: ((L.eraseIdx r).drop r).take (m - 1) := by
  have e1 : (L.eraseIdx r).drop r = L.drop (r + 1) := by
    rw [List.eraseIdx_eq_take_drop_succ, List.drop_append, List.drop_take, Nat.sub_self, List.take_zero, List.nil_append, List.length_take, show r - min r L.length = 0 by omega, List.drop_zero]
  rw [e1, drop_cons hr]
  obtain ⟨m', rfl⟩ : ∃ m', m = m' + 1 := ⟨m - 1, by omega⟩
  rw [List.take_succ_cons, Nat.add_sub_cancel]
theorem cNew_step {s : AS} {i j r m : Nat} (O : ∀ i, i < 8 → SOK (s.1 i)) (hi : i < 8) (hj : j < 8) (hij : i ≠ j) (hr : r < (s.1 i).length) (hm : 0 < m) (hl : plc (s.1 j) (nI (nth (s.1 i) r / 2)) = -1 → (s.1 j).length < 60) : cNew (s.1 j) (((s.1 i).drop r).take m) = cNew ((goStep s i j r).1 j) ((((goStep s i j r).1 i).drop r).take (m - 1)) + (if plc (s.1 j) (nI (nth (s.1 i) r / 2)) = -1 then 1 else 0) := by
  have hJ := (goStep_j O hi hj hr hl).2.2
  rw [(goStep_i hij).1, dt_cons hm hr]
  unfold cNew
  rw [List.countP_cons]
  congr 1
  · apply List.countP_congr
    intro x hx
    have Se := SOK_erase (O i hi) r
    have hx1 : x ∈ (s.1 i).eraseIdx r := List.mem_of_mem_drop (List.mem_of_mem_take hx)
    have hx2 := Se.2.1 x hx1
    have hx3 : x / 2 ≠ nth (s.1 i) r / 2 := by
      obtain ⟨q, hq, rfl⟩ := mem_nth hx1
      rw [List.length_eraseIdx_of_lt hr] at hq
      rw [nth_erase]
      by_cases c : q < r
      · rw [if_pos c]; have := (O i hi).inc c hr; omega
      · rw [if_neg c]; have := (O i hi).inc (i := r) (j := q + 1) (by omega) (by omega); omega
    simp only [decide_eq_true_eq]
    exact (hJ x hx3 hx2).symm
  · simp
theorem mgo_loop {C : MW} (hC : C.length = 123) {F : Nat → Int32} {v : Int64} {b : Nat} (hb : F 9 = nI b) (hb2 : b ≤ 976) {i j : Nat} (hi : i < 8) (hj : j < 8) (hij : i ≠ j) {fu : Nat} (hfu : 100 ≤ fu) (r n : Nat) (hn60 : n ≤ 60) : ∀ N k (s : AS) ar, (∀ i, i < 8 → SOK (s.1 i)) → M8 (ar 0) b s → k ≤ n → r + (n - k) ≤ (s.1 i).length → (s.1 j).length + cNew (s.1 j) (((s.1 i).drop r).take (n - k)) ≤ 60 → n - k < N → ∃ al, f_X11_goOver_20 fu N (mW C F v ar) 123 (nI i) (nI j) (nI n) (nI r) (nI k) = some (nI n, mW C F v (ua ar 0 al)) ∧ M8 al b (goI i j r (n - k) s) ∧ (∀ q, q < 8 → SOK ((goI i j r (n - k) s).1 q)) ∧ ∀ q, q < b ∨ b + 976 ≤ q → al q = ar 0 q := by
  intro N
  induction N with
  | zero => intro k s ar _ _ _ _ _ hN; omega
  | succ N ih =>
    intro k s ar O M hk hr hc hN
    rw [f_X11_goOver_20]
    by_cases hlt : n ≤ k
    · rw [if_pos (nI_le hlt (by omega)), show n - k = 0 by omega]
      exact ⟨ar 0, by rw [ua_self], M, O, fun _ _ => rfl⟩
    · have Si := O i hi
      have Sj := O j hj
      have hli := Si.len
      have hlj := Sj.len
      have hrl : r < (s.1 i).length := by omega
      have he := Si.lt hrl
      have hcs : plc (s.1 j) (nI (nth (s.1 i) r / 2)) = -1 → (s.1 j).length < 60 := by
        intro hp
        rw [dt_cons (by omega) hrl] at hc
        unfold cNew at hc
        rw [List.countP_cons, if_pos (by simpa using hp)] at hc
        omega
      have hstep := cNew_step (m := n - k) O hi hj hij hrl (by omega) hcs
      have hJ := goStep_j O hi hj hrl hcs
      have hO := goStep_ok O hi hj hij hrl hcs
      have hI := (goStep_i (s := s) (r := r) hij).1
      obtain ⟨al1, g1, g2, g3⟩ := mdrops_ok (v := v) hC hb hb2 hi (M i hi) hli hfu hrl
      have M1 : M8 al1 b (va_up s.1 i ((s.1 i).eraseIdx r), va_up s.2 i (-1)) := M.put O hi g2 g3
      have O1 : ∀ q, q < 8 → SOK ((va_up s.1 i ((s.1 i).eraseIdx r)) q) := fun q hq => by
        by_cases c : q = i
        · subst c; rw [vu_eq]; exact SOK_erase Si r
        · rw [vu_ne _ _ c]; exact O q hq
      have Mj : MA (ua ar 0 al1 0) (b + 122 * j) (s.1 j) (s.2 j) := by
        have := M1 j hj
        simp only [vu_ne _ _ (Ne.symm hij)] at this
        rw [ua_eq]; exact this
      rw [if_neg (nI_ge (by omega) (by omega)), m_cl hC, mkeyAt_ok hC hb hb2 hi (M i hi) Si hrl, some_bind', bnd_eq, m_cl hC, mmarkAt_ok hC hb hb2 hi (M i hi) Si hrl, some_bind', bnd_eq, m_cl hC, g1, some_bind', m_cl hC, mplace_ok hC hb hb2 hj Mj Sj hfu, some_bind', bnd_eq]
      by_cases c : plc (s.1 j) (nI (nth (s.1 i) r / 2)) = -1
      · obtain ⟨al2, k1, k2, k3⟩ := mputs_ok (v := v) hC hb hb2 hj Mj Sj hfu (hcs c) (k := nth (s.1 i) r / 2) (m := nth (s.1 i) r % 2) (by omega)
        rw [ua_ua] at k1
        have k2' : MA al2 (b + 122 * j) (insAt (s.1 j) (bel (s.1 j) (nI (nth (s.1 i) r / 2))) [nth (s.1 i) r]) (-1) := by
          rw [show 2 * (nth (s.1 i) r / 2) + nth (s.1 i) r % 2 = nth (s.1 i) r by omega] at k2; exact k2
        have e1 : goStep s i j r = (va_up (va_up s.1 i ((s.1 i).eraseIdx r)) j (insAt (s.1 j) (bel (s.1 j) (nI (nth (s.1 i) r / 2))) [nth (s.1 i) r]), va_up (va_up s.2 i (-1)) j (-1)) := by
          unfold goStep; rw [if_pos c]
        have M2 : M8 al2 b (goStep s i j r) := by
          rw [e1]
          exact M1.put O1 hj k2' (fun q hq => by rw [k3 q hq, ua_eq])
        rw [if_pos c, m_cl hC, k1, some_bind', f_X11_goOver_109, bnd_eq, nI_1]
        obtain ⟨al, f1, f2, f3, f4⟩ := ih (k + 1) (goStep s i j r) (ua ar 0 al2) hO (by rw [ua_eq]; exact M2) (by omega) (by rw [hI, List.length_eraseIdx_of_lt hrl]; omega) (by rw [show n - (k + 1) = n - k - 1 by omega, hJ.2.1]; omega) (by omega)
        rw [ua_ua] at f1
        refine ⟨al, f1, ?_, ?_, fun q hq => ?_⟩
        · rw [show n - k = n - (k + 1) + 1 by omega]; exact f2
        · rw [show n - k = n - (k + 1) + 1 by omega]; exact f3
        · rw [f4 q hq, ua_eq, k3 q (by omega), ua_eq, g3 q (by omega)]
      · obtain ⟨hbp, hpe⟩ := plc_ne c
        have hkk := key_eq Sj c
        have hlt2 := Sj.lt hbp
        have hk2 : nth (s.1 j) (bel (s.1 j) (nI (nth (s.1 i) r / 2))) / 2 = nth (s.1 i) r / 2 := (nI_eq (by omega) (by omega)).mp hkk
        rw [if_neg c, hpe]
        by_cases c2 : nth (s.1 i) r % 2 = 1
        · have e1 : goStep s i j r = (va_up (va_up s.1 i ((s.1 i).eraseIdx r)) j ((s.1 j).set (bel (s.1 j) (nI (nth (s.1 i) r / 2))) (2 * (nth (s.1 i) r / 2) + 1)), va_up (va_up s.2 i (-1)) j (s.2 j)) := by
            unfold goStep; rw [if_neg c, if_pos c2]
          have k2 := MA_mark (x := 2 * (nth (s.1 i) r / 2) + 1) Mj hlj hbp (by omega)
          rw [show (2 * (nth (s.1 i) r / 2) + 1) % 2 = 1 by omega, ua_eq] at k2
          have M2 : M8 (upd al1 (b + 122 * j + 62 + bel (s.1 j) (nI (nth (s.1 i) r / 2))) (nI 1)) b (goStep s i j r) := by
            rw [e1]
            exact M1.put O1 hj k2 (fun q hq => upd_ne _ _ (by omega))
          rw [c2, if_pos (show nI 1 = (1 : Int32) from rfl), m_gR hC F v _ 0 rfl, some_bind', m_gI hC F v _ 9 rfl, some_bind', hb, mo, show (62 : Int32) = nI 62 from rfl, nI_add, nI_add, m_s0 hC F v _ _ (by omega), some_bind', f_X11_goOver_109, bnd_eq, nI_1, ua_ua, ua_eq]
          obtain ⟨al, f1, f2, f3, f4⟩ := ih (k + 1) (goStep s i j r) (ua ar 0 (upd al1 (b + 122 * j + 62 + bel (s.1 j) (nI (nth (s.1 i) r / 2))) (nI 1))) hO (by rw [ua_eq]; exact M2) (by omega) (by rw [hI, List.length_eraseIdx_of_lt hrl]; omega) (by rw [show n - (k + 1) = n - k - 1 by omega, hJ.2.1]; omega) (by omega)
          rw [ua_ua] at f1
          refine ⟨al, f1, ?_, ?_, fun q hq => ?_⟩
          · rw [show n - k = n - (k + 1) + 1 by omega]; exact f2
          · rw [show n - k = n - (k + 1) + 1 by omega]; exact f3
          · rw [f4 q hq, ua_eq, upd_ne _ _ (by omega), g3 q (by omega)]
        · have e1 : goStep s i j r = (va_up (va_up s.1 i ((s.1 i).eraseIdx r)) j (s.1 j), va_up (va_up s.2 i (-1)) j (s.2 j)) := by
            unfold goStep; rw [if_neg c, if_neg c2]
          have M2 : M8 al1 b (goStep s i j r) := by
            rw [e1]
            rw [ua_eq] at Mj
            exact M1.put O1 hj Mj (fun q hq => rfl)
          rw [if_neg (show ¬ nI (nth (s.1 i) r % 2) = (1 : Int32) from fun q => c2 ((nI_eq (b := 1) (by omega) (by omega)).mp q)), f_X11_goOver_109, bnd_eq, nI_1]
          obtain ⟨al, f1, f2, f3, f4⟩ := ih (k + 1) (goStep s i j r) (ua ar 0 al1) hO (by rw [ua_eq]; exact M2) (by omega) (by rw [hI, List.length_eraseIdx_of_lt hrl]; omega) (by rw [show n - (k + 1) = n - k - 1 by omega, hJ.2.1]; omega) (by omega)
          rw [ua_ua] at f1
          refine ⟨al, f1, ?_, ?_, fun q hq => ?_⟩
          · rw [show n - k = n - (k + 1) + 1 by omega]; exact f2
          · rw [show n - k = n - (k + 1) + 1 by omega]; exact f3
          · rw [f4 q hq, ua_eq, g3 q (by omega)]
