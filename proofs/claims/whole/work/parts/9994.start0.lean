/-! THE START: worlds as functions -/
def updM (g : Nat → MC) (h : Nat) (c : MC) : Nat → MC := fun k => if k = h then c else g k
/-- the world w has n cells, and they are g's -/
def WD (w : MW) (n : Nat) (g : Nat → MC) : Prop := wOK w ∧ w.length = n ∧ ∀ k, k < n → w[k]? = some (g k)
theorem rOK_mono {n m : Nat} (h : n ≤ m) {v : Value} (hv : rOK n v = true) : rOK m v = true := by
  cases v with
  | ref k =>
    have hv' : (decide (k < n) || decide (10000 ≤ k)) = true := hv
    show (decide (k < m) || decide (10000 ≤ k)) = true
    rw [Bool.or_eq_true, decide_eq_true_iff, decide_eq_true_iff] at hv' ⊢
    rcases hv' with q | q
    · exact Or.inl (Nat.lt_of_lt_of_le q h)
    · exact Or.inr q
  | _ => rfl
theorem cOK_mono {n m : Nat} (h : n ≤ m) {c : MC} (hc : cOK n c) : cOK m c := by
  rcases c with ⟨ty, l, f | f | f | f | f⟩ | ⟨ci, fs⟩
  · exact trivial
  · exact trivial
  · exact trivial
  · exact trivial
  · exact fun j k e => Nat.lt_of_lt_of_le (hc j k e) h
  · have hc' : fs.all (rOK n) = true := hc
    show fs.all (rOK m) = true
    rw [List.all_eq_true] at *
    exact fun x hx => rOK_mono h (hc' x hx)
theorem nwD {w : MW} {n n0 : Nat} {g : Nat → MC} {vs : List Value} {c : MC} (d : WD w n g) (hn : n < 9000) (hv : vs.all (rOK n) = true) (h0 : n0 ≤ n) (hc : cOK (n + 1) c) : ∃ w', nwC n0 w vs c = some w' ∧ WD w' (n + 1) (updM g n c) := by
  obtain ⟨h1, h2, h3⟩ := d
  refine ⟨w ++ [c], ?_, ⟨?_, ?_⟩, by simp [h2], fun k hk => ?_⟩
  · unfold nwC
    rw [if_pos ⟨h1, by rw [h2]; exact hv, by omega⟩]
  · simp; omega
  · intro x hx
    have el : (w ++ [c]).length = n + 1 := by simp [h2]
    rw [el]
    rcases List.mem_append.mp hx with q | q
    · exact cOK_mono (by omega) (h1.2 x q)
    · rw [List.mem_singleton.mp q]; exact hc
  · unfold updM
    by_cases e : k = n
    · rw [if_pos e, e, List.getElem?_append_right (by omega), h2, Nat.sub_self]; rfl
    · rw [if_neg e, List.getElem?_append_left (by omega), h3 k (by omega)]
theorem WD.set {w : MW} {n : Nat} {g : Nat → MC} (d : WD w n g) {h : Nat} {c : MC} (hh : h < n) (hc : cOK n c) : WD (w.set h c) n (updM g h c) := by
  obtain ⟨h1, h2, h3⟩ := d
  refine ⟨⟨by rw [List.length_set]; exact h1.1, fun x hx => ?_⟩, by rw [List.length_set]; exact h2, fun k hk => ?_⟩
  · rw [List.length_set, h2]
    rcases List.mem_or_eq_of_mem_set hx with q | q
    · have := h1.2 x q; rw [h2] at this; exact this
    · rw [q]; exact hc
  · unfold updM
    by_cases e : k = h
    · rw [if_pos e, e, get_set_eq (h3 h hh)]
    · rw [if_neg e, get_set_ne (Ne.symm e), h3 k hk]
theorem pVD {w : MW} {n : Nat} {g : Nat → MC} {c h k : Nat} {v : Value} {fs : List Value} (d : WD w n g) (hh : h < n) (hg : g h = .inr (c, fs)) (hk : k < fs.length) (hv : (fs.set k v).all (rOK n) = true) : ∃ w', pV w c h k v = some w' ∧ WD w' n (updM g h (.inr (c, fs.set k v))) := by
  have e : w[h]? = some (.inr (c, fs)) := by rw [d.2.2 h hh, hg]
  exact ⟨_, pV_ob e hk, d.set hh hv⟩
theorem gRD {w : MW} {n : Nat} {g : Nat → MC} {c h k x : Nat} {fs : List Value} (d : WD w n g) (hh : h < n) (hg : g h = .inr (c, fs)) (hk : fs[k]? = some (.ref x)) : gR w c h k = some x := gR_ob (by rw [d.2.2 h hh, hg]) hk
theorem sRD {w : MW} {n : Nat} {g : Nat → MC} {S : String} {ci a i x l : Nat} {f : Nat → Option Nat} {fs : List Value} (d : WD w n g) (ha : a < n) (hx : x < n) (ga : g a = .inl (.object S, l, .inr (.inr (.inr (.inr f))))) (gx : g x = .inr (ci, fs)) (hi : i < l) (hl : l < 1000) : ∃ w', sR w S ci a (nI i) x = some w' ∧ WD w' n (updM g a (.inl (.object S, l, .inr (.inr (.inr (.inr (va_up f i (some x)))))))) := by
  have e1 : w[a]? = some (.inl (.object S, l, .inr (.inr (.inr (.inr f))))) := by rw [d.2.2 a ha, ga]
  have e2 : w[x]? = some (.inr (ci, fs)) := by rw [d.2.2 x hx, gx]
  have cf : ∀ j k, f j = some k → k < n := by
    have := d.1.2 _ (List.mem_of_getElem? e1)
    rw [d.2.1] at this
    exact this
  refine ⟨_, ?_, d.set ha (c := .inl (.object S, l, .inr (.inr (.inr (.inr (va_up f i (some x))))))) ?_⟩
  · unfold sR
    rw [e1, e2]
    dsimp only
    rw [if_pos ⟨rfl, rfl, nI_pos' (by omega), by rw [nI_clamp (by omega)]; exact hi⟩, nI_clamp (by omega)]
  · intro j k e
    unfold va_up at e
    by_cases q : j = i
    · rw [if_pos q] at e
      have := Option.some.inj e
      omega
    · rw [if_neg q] at e
      exact cf j k e
theorem clAD {α : Type} {w : MW} {n n0 : Nat} {g : Nat → MC} {ci b : Nat} {vs : List Value} {fs : List Value} (d : WD w n g) (hb : b < n) (hg : g b = .inr (ci, fs)) (h0 : n0 ≤ n) (hv : vs.all (rOK n) = true) (x : Option α) : clA n0 w ci b vs x = x := by
  unfold clA
  rw [if_pos ⟨by rw [d.2.1]; exact h0, by rw [d.2.1]; exact hv⟩]
  exact cl_ob (by rw [d.2.2 b hb, hg]) x
theorem clD {α : Type} {w : MW} {n : Nat} {g : Nat → MC} {ci b : Nat} {fs : List Value} (d : WD w n g) (hb : b < n) (hg : g b = .inr (ci, fs)) (x : Option α) : cl w ci b x = x := cl_ob (by rw [d.2.2 b hb, hg]) x
