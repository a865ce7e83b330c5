/-! bytes; what acts and questions leave alone -/
/-- a byte's cell -/
def byS (b : Nat) : Int32 := vp_nar .byte (nI b).toInt8.toInt32
def bytesOK : Bool := (List.range 256).all (fun b => decide (byS b &&& 255 = nI b) && fits .byte (.int (byS b)))
theorem bytes_ok : bytesOK = true := by decide +kernel
theorem byS_and {b : Nat} (h : b < 256) : byS b &&& 255 = nI b := by
  have := List.all_eq_true.mp bytes_ok b (List.mem_range.mpr h)
  rw [Bool.and_eq_true, decide_eq_true_eq] at this
  exact this.1
theorem byS_fits {b : Nat} (h : b < 256) : fits .byte (.int (byS b)) = true := by
  have := List.all_eq_true.mp bytes_ok b (List.mem_range.mpr h)
  rw [Bool.and_eq_true] at this
  exact this.2
/-- the lowest eight bits -/
def low8 (x : Int32) : Nat := x.toBitVec.toNat % 256
theorem low8_lt (x : Int32) : low8 x < 256 := Nat.mod_lt _ (by omega)
theorem low8_and (x : Int32) : x &&& 255 = nI (low8 x) := by
  apply Int32.toBitVec_inj.mp
  apply BitVec.eq_of_toNat_eq
  show (x.toBitVec &&& 255#32).toNat = (BitVec.ofNat 32 (low8 x)).toNat
  have := low8_lt x
  rw [BitVec.toNat_and, BitVec.toNat_ofNat, BitVec.toNat_ofNat, Nat.mod_eq_of_lt (show low8 x < 2 ^ 32 by omega), Nat.mod_eq_of_lt (show 255 < 2 ^ 32 by omega)]
  exact Nat.and_two_pow_sub_one_eq_mod _ 8
theorem low8_by (x : Int32) : vp_nar .byte x.toInt8.toInt32 = byS (low8 x) := by
  have e : x.toInt8 = (nI (low8 x)).toInt8 := by
    apply Int8.toBitVec_inj.mp
    show x.toBitVec.signExtend 8 = (BitVec.ofNat 32 (low8 x)).signExtend 8
    apply BitVec.eq_of_getLsbD_eq
    intro i hi
    rw [BitVec.getLsbD_signExtend, BitVec.getLsbD_signExtend, BitVec.getLsbD_ofNat]
    have h32 : i < 32 := by omega
    simp only [hi, h32, decide_true, Bool.true_and, if_true]
    unfold low8
    show x.toBitVec.toNat.testBit i = (x.toBitVec.toNat % 256).testBit i
    rw [show (256 : Nat) = 2 ^ 8 by rfl, Nat.testBit_mod_two_pow]
    simp [hi]
  unfold byS
  rw [e]
/-- a row of bytes at p, its cells at p + 1 -/
def RW (w : MW) (p cap : Nat) (T : List Nat) : Prop := w[p]? = some (.inr (4, [.ref (p + 1), .int (nI T.length)])) ∧ T.length ≤ cap ∧ (∀ b ∈ T, b < 256) ∧ ∃ f, w[p + 1]? = some (.inl (.byte, cap, .inl f)) ∧ ∀ j, j < T.length → f j = byS (nth T j)
theorem RW.cl {α : Type} {w : MW} {p cap : Nat} {T : List Nat} (h : RW w p cap T) (x : Option α) : cl w 4 p x = x := cl_ob h.1 x
theorem RW.same {w w' : MW} {p cap : Nat} {T : List Nat} (h : RW w p cap T) (h0 : w'[p]? = w[p]?) (h1 : w'[p + 1]? = w[p + 1]?) : RW w' p cap T := by
  obtain ⟨a, b, c, f, d, e⟩ := h
  exact ⟨by rw [h0]; exact a, b, c, f, by rw [h1]; exact d, e⟩
theorem RW.chg {ks : List Nat} {w w' : MW} {p cap : Nat} {T : List Nat} (h : RW w p cap T) (C : Chg ks w w') (h0 : p ∉ ks) (h1 : p + 1 ∉ ks) : RW w' p cap T := h.same (C.2 p h0) (C.2 (p + 1) h1)
theorem nth_snoc {T : List Nat} {b j : Nat} (h : j < T.length + 1) : nth (T ++ [b]) j = if j < T.length then nth T j else b := by
  unfold nth
  rw [List.getD_eq_getElem?_getD]
  by_cases c : j < T.length
  · rw [if_pos c, List.getElem?_append_left c, List.getD_eq_getElem?_getD]
  · rw [if_neg c, List.getElem?_append_right (by omega), show j - T.length = 0 by omega]; rfl
theorem radd_ok {w : MW} {p cap : Nat} {T : List Nat} (h : RW w p cap T) (hc : cap ≤ 1000) (hl : T.length < cap) (x : Int32) : ∃ w', f_X4_add w p x = some w' ∧ RW w' p cap (T ++ [low8 x]) ∧ Chg [p, p + 1] w w' := by
  obtain ⟨a, b, c, f, d, e⟩ := h
  have c1 := Chg.st (ks := [p, p + 1]) w (a := p + 1) (.inl (.byte, cap, .inl (upd f T.length (byS (low8 x))))) (by simp)
  have a1 : (w.set (p + 1) (.inl (.byte, cap, .inl (upd f T.length (byS (low8 x))))))[p]? = some (.inr (4, [.ref (p + 1), .int (nI T.length)])) := by rw [get_set_ne (by omega)]; exact a
  have c2 := Chg.st (ks := [p, p + 1]) (w.set (p + 1) (.inl (.byte, cap, .inl (upd f T.length (byS (low8 x)))))) (a := p) (.inr (4, [.ref (p + 1), .int (nI (T.length + 1))])) (by simp)
  refine ⟨_, ?_, ⟨?_, by simp; omega, fun y hy => ?_, _, by rw [get_set_ne (by omega)]; exact get_set_eq d, fun j hj => ?_⟩, c1.tr c2⟩
  · rw [f_X4_add, gI_ob a rfl, some_bind', if_neg (nI_pos (by omega)), some_bind', gR_ob a rfl, some_bind', aL_ar d, some_bind', if_neg (nI_ge hl (by omega)), some_bind', some_bind', low8_by, sI_ar d hl (by omega), some_bind', gI_ob a1 rfl, some_bind', nI_1, pV_ob a1 (by simp), some_bind']
    rfl
  · rw [get_set_eq a1]; simp
  · rcases List.mem_append.mp hy with q | q
    · exact c y q
    · rw [List.mem_singleton.mp q]; exact low8_lt x
  · simp only [List.length_append, List.length_singleton] at hj
    rw [nth_snoc hj]
    by_cases q : j < T.length
    · rw [if_pos q, upd_ne _ _ (by omega)]; exact e j q
    · rw [if_neg q, show j = T.length by omega, upd_eq]
theorem rbyte_in {w : MW} {p cap : Nat} {T : List Nat} (h : RW w p cap T) (hc : cap ≤ 1000) {j : Nat} (hj : j < T.length) : f_X4_byteAt w p (nI j) = some (nI (nth T j)) := by
  obtain ⟨a, b, c, f, d, e⟩ := h
  rw [f_X4_byteAt, if_neg (nI_pos (by omega)), gI_ob a rfl, some_bind', if_neg (nI_ge hj (by omega)), gR_ob a rfl, some_bind', aL_ar d, some_bind', if_neg (nI_ge (by omega) (by omega)), some_bind', aI_ar d (by omega) (by omega), some_bind', e j hj, byS_and (c _ (nth_mem hj))]
theorem rbyte_out {w : MW} {p cap : Nat} {T : List Nat} (h : RW w p cap T) (hc : cap ≤ 1000) {j : Nat} (hj : T.length ≤ j) (hj2 : j < 2 ^ 31) : f_X4_byteAt w p (nI j) = some (-1) := by
  obtain ⟨a, b, c, f, d, e⟩ := h
  rw [f_X4_byteAt, if_neg (nI_pos (by omega)), gI_ob a rfl, some_bind', if_pos (nI_le hj (by omega))]
theorem rcopy_ok {w : MW} {p q cap : Nat} {T T2 : List Nat} (h : RW w p cap T) (g : RW w q cap T2) (hc : cap ≤ 1000) (d1 : p ≠ q) (d2 : p ≠ q + 1) (d3 : p + 1 ≠ q) : ∃ w', f_X4_copy w p q = some w' ∧ RW w' p cap T2 ∧ Chg [p, p + 1] w w' := by
  obtain ⟨a, b, c, f, d, e⟩ := h
  obtain ⟨a2, b2, c2, f2, d2', e2⟩ := g
  have k1 := Chg.st (ks := [p, p + 1]) w (a := p) (.inr (4, [.ref (p + 1), .int (nI T2.length)])) (by simp)
  have a1 := get_set_eq (x := .inr (4, [.ref (p + 1), .int (nI T2.length)])) a
  have q1 := (get_set_ne (w := w) (x := .inr (4, [.ref (p + 1), .int (nI T2.length)])) d1).trans a2
  have q2 := (get_set_ne (w := w) (x := .inr (4, [.ref (p + 1), .int (nI T2.length)])) d2).trans d2'
  have q3 := (get_set_ne (w := w) (x := .inr (4, [.ref (p + 1), .int (nI T2.length)])) (show p ≠ p + 1 by omega)).trans d
  have hcp : cpI (w.set p (.inr (4, [.ref (p + 1), .int (nI T2.length)]))) .byte (q + 1) (nI 0) (p + 1) (nI 0) (nI T2.length) = some ((w.set p (.inr (4, [.ref (p + 1), .int (nI T2.length)]))).set (p + 1) (.inl (.byte, cap, .inl (va_cpy f2 f 0 0 T2.length)))) := by
    unfold cpI
    rw [q2, q3]
    dsimp only
    rw [nI_clamp (show 0 < 2 ^ 31 by omega), nI_clamp (show T2.length < 2 ^ 31 by omega), if_pos]
    refine ⟨rfl, rfl, nI_pos' (by omega), nI_pos' (by omega), nI_pos' (by omega), by omega, by omega, fun i hi => ?_⟩
    rw [Nat.zero_add, e2 i hi]
    exact byS_fits (c2 _ (nth_mem hi))
  have k2 := Chg.st (ks := [p, p + 1]) (w.set p (.inr (4, [.ref (p + 1), .int (nI T2.length)]))) (a := p + 1) (.inl (.byte, cap, .inl (va_cpy f2 f 0 0 T2.length))) (by simp)
  refine ⟨_, ?_, ⟨?_, b2, c2, _, get_set_eq q3, fun j hj => ?_⟩, k1.tr k2⟩
  · rw [f_X4_copy, gI_ob a2 rfl, some_bind', gR_ob a rfl, some_bind', aL_ar d, some_bind', imin_l b2 (by omega), pV_ob a (by simp), some_bind']
    dsimp only [List.set]
    rw [gR_ob q1 rfl, some_bind', gR_ob a1 rfl, some_bind', gI_ob a1 rfl, some_bind', show (0 : Int32) = nI 0 from rfl, hcp, some_bind']
  · rw [get_set_ne (by omega)]; exact a1
  · unfold va_cpy
    rw [if_pos (by omega), Nat.sub_zero, Nat.zero_add]
    exact e2 j hj
/-- an image: sets, tape, told, fault -/
abbrev IT : Type := AS × List Nat × List Nat × Int32 × Int32
/-- what is laid by beside the sets and what can be undone: tape, told, fault, images -/
abbrev RT : Type := List Nat × List Nat × Int32 × Int32 × (Nat → Option IT)
def ImC (w : MW) (k : Nat) (o : Option IT) : Prop := match o with
  | none => (∃ a b, w[96 + 9 * k]? = some (.inr (1, [.ref (97 + 9 * k), .ref (101 + 9 * k), .ref (103 + 9 * k), .int 0, .int a, .int b]))) ∧ SNq w (97 + 9 * k) as0 0 ∧ (∃ T, RW w (101 + 9 * k) 800 T) ∧ ∃ T, RW w (103 + 9 * k) 360 T
  | some I => w[96 + 9 * k]? = some (.inr (1, [.ref (97 + 9 * k), .ref (101 + 9 * k), .ref (103 + 9 * k), .int 1, .int I.2.2.2.1, .int I.2.2.2.2])) ∧ SNP w (97 + 9 * k) I.1 ∧ AOK I.1.1 ∧ FOK I.1 ∧ RW w (101 + 9 * k) 800 I.2.1 ∧ RW w (103 + 9 * k) 360 I.2.2.1
def ImM (ar : Nat → Nat → Int32) (k : Nat) (o : Option IT) : Prop := match o with
  | none => ar 3 k = 0
  | some I => ar 3 k = 1 ∧ M8 (ar 0) (13664 + 2180 * k) I.1 ∧ (∀ j, j < I.2.1.length → ar 0 (13664 + 2180 * k + 976 + j) = nI (nth I.2.1 j)) ∧ (∀ j, j < I.2.2.1.length → ar 0 (13664 + 2180 * k + 1776 + j) = nI (nth I.2.2.1 j)) ∧ ar 0 (13664 + 2180 * k + 2176) = nI I.2.1.length ∧ ar 0 (13664 + 2180 * k + 2177) = I.2.2.2.1 ∧ ar 0 (13664 + 2180 * k + 2178) = I.2.2.2.2 ∧ ar 0 (13664 + 2180 * k + 2179) = nI I.2.2.1.length
def RestC (w : MW) (R : RT) : Prop := w[0]? = some (.inr (10, [.ref 1, .ref 31, .ref 85, .ref 87, .ref 89, .ref 91, .ref 95, .int R.2.2.1, .int R.2.2.2.1])) ∧ RW w 85 800 R.1 ∧ RW w 87 360 R.2.1 ∧ (∃ a b c d e g, w[89]? = some (.inr (5, [.ref 85, .ref 1, .ref 90, .int a, .int b, .int c, .int d, .int e, .int g]))) ∧ (∃ f, w[90]? = some (.inl (.int, 4, .inl f))) ∧ SNq w 91 as0 0 ∧ (∃ f, w[95]? = some (.inl (.object RX1, 3, .inr (.inr (.inr (.inr f))))) ∧ ∀ k, k < 3 → f k = some (96 + 9 * k)) ∧ ∀ k, k < 3 → ImC w k (R.2.2.2.2 k)
def RestM (F : Nat → Int32) (ar : Nat → Nat → Int32) (R : RT) : Prop := F 4 = nI R.1.length ∧ F 5 = nI R.2.1.length ∧ F 6 = R.2.2.1 ∧ F 7 = R.2.2.2.1 ∧ (∀ j, j < R.1.length → ar 1 j = nI (nth R.1 j)) ∧ (∀ j, j < R.2.1.length → ar 2 j = nI (nth R.2.1 j)) ∧ ∀ k, k < 3 → ImM ar k (R.2.2.2.2 k)
theorem SNq.same {w w' : MW} {p i : Nat} {s : AS} (h : SNq w p s i) (hk : ∀ k, p ≤ k → k ≤ p + 3 → w'[k]? = w[k]?) : SNq w' p s i := by
  obtain ⟨h0, es, ss, fs, h1, h2, h3, h4⟩ := h
  exact ⟨by rw [hk p (by omega) (by omega)]; exact h0, es, ss, fs, by rw [hk (p + 1) (by omega) (by omega)]; exact h1, by rw [hk (p + 2) (by omega) (by omega)]; exact h2, by rw [hk (p + 3) (by omega) (by omega)]; exact h3, h4⟩
theorem ImC.same {w w' : MW} {k : Nat} {o : Option IT} (h : ImC w k o) (hk : ∀ q, 96 + 9 * k ≤ q → q ≤ 104 + 9 * k → w'[q]? = w[q]?) : ImC w' k o := by
  cases o with
  | none =>
    obtain ⟨⟨a, b, h1⟩, h2, ⟨T, h3⟩, ⟨T2, h4⟩⟩ := h
    exact ⟨⟨a, b, by rw [hk _ (by omega) (by omega)]; exact h1⟩, h2.same (fun q q1 q2 => hk q (by omega) (by omega)), ⟨T, h3.same (hk _ (by omega) (by omega)) (hk _ (by omega) (by omega))⟩, ⟨T2, h4.same (hk _ (by omega) (by omega)) (hk _ (by omega) (by omega))⟩⟩
  | some I =>
    obtain ⟨h1, h2, h5, h6, h3, h4⟩ := h
    exact ⟨by rw [hk _ (by omega) (by omega)]; exact h1, h2.same (fun q q1 q2 => hk q (by omega) (by omega)), h5, h6, h3.same (hk _ (by omega) (by omega)) (hk _ (by omega) (by omega)), h4.same (hk _ (by omega) (by omega)) (hk _ (by omega) (by omega))⟩
theorem RestC.same {w w' : MW} {R : RT} (h : RestC w R) (hk : ∀ q, q = 0 ∨ (85 ≤ q ∧ q < 123) → w'[q]? = w[q]?) : RestC w' R := by
  obtain ⟨h1, h2, h3, ⟨a, b, c, d, e, g, h4⟩, ⟨f, h5⟩, h6, ⟨f2, h7, h8⟩, h9⟩ := h
  exact ⟨by rw [hk 0 (by omega)]; exact h1, h2.same (hk _ (by omega)) (hk _ (by omega)), h3.same (hk _ (by omega)) (hk _ (by omega)), ⟨a, b, c, d, e, g, by rw [hk 89 (by omega)]; exact h4⟩, ⟨f, by rw [hk 90 (by omega)]; exact h5⟩, h6.same (fun q q1 q2 => hk q (by omega)), ⟨f2, by rw [hk 95 (by omega)]; exact h7, h8⟩, fun k hk3 => (h9 k hk3).same (fun q q1 q2 => hk q (by omega))⟩
theorem ImM.same {ar ar' : Nat → Nat → Int32} {k : Nat} {o : Option IT} (hkk : k < 3) (h : ImM ar k o) (O : ∀ I, o = some I → AOK I.1.1 ∧ I.2.1.length ≤ 800 ∧ I.2.2.1.length ≤ 360) (h3 : ar' 3 k = ar 3 k) (h0 : ∀ q, 13664 + 2180 * k ≤ q → q < 13664 + 2180 * k + 2180 → ar' 0 q = ar 0 q) : ImM ar' k o := by
  cases o with
  | none =>
    have : ar 3 k = 0 := h
    show ar' 3 k = 0
    rw [h3]; exact this
  | some I =>
    obtain ⟨o1, o2, o3⟩ := O I rfl
    obtain ⟨a, b, c, d, e, f, g, i⟩ := h
    refine ⟨by rw [h3]; exact a, b.copy o1.1 (fun q hq => h0 _ (by omega) (by omega)), fun j hj => by rw [h0 _ (by omega) (by omega)]; exact c j hj, fun j hj => by rw [h0 _ (by omega) (by omega)]; exact d j hj, by rw [h0 _ (by omega) (by omega)]; exact e, by rw [h0 _ (by omega) (by omega)]; exact f, by rw [h0 _ (by omega) (by omega)]; exact g, by rw [h0 _ (by omega) (by omega)]; exact i⟩
theorem ImC.bd {w : MW} {k : Nat} {o : Option IT} (h : ImC w k o) : ∀ I, o = some I → AOK I.1.1 ∧ I.2.1.length ≤ 800 ∧ I.2.2.1.length ≤ 360 := by
  intro I hI
  subst hI
  obtain ⟨h1, h2, h5, h6, h3, h4⟩ := h
  exact ⟨h5, h3.2.1, h4.2.1⟩
/-- everything -/
def Inv (w : MW) : Prop := ∃ C F v ar s V n R, w = mW C F v ar ∧ Good C F v ar s V n ∧ RestC (mW C F v ar) R ∧ RestM F ar R
theorem Inv_res {C : MW} {F : Nat → Int32} {v : Int64} {ar : Nat → Nat → Int32} {R : RT} (hC : C.length = 123) (c : RestC (mW C F v ar) R) (m : RestM F ar R) {C' : MW} {F' : Nat → Int32} {v' : Int64} {ar' : Nat → Nat → Int32} {s' : AS} {V' : List AS} {n' : Nat} (G : Good C' F' v' ar' s' V' n') (fr : Fr C F ar C' F' ar') : Inv (mW C' F' v' ar') := by
  obtain ⟨f1, f2, f3, f4⟩ := fr
  obtain ⟨m1, m2, m3, m4, m5, m6, m7⟩ := m
  refine ⟨C', F', v', ar', s', V', n', R, rfl, G, c.same (fun q hq => ?_), by rw [f2 4 (by omega)]; exact m1, by rw [f2 5 (by omega)]; exact m2, by rw [f2 6 (by omega)]; exact m3, by rw [f2 7 (by omega)]; exact m4, fun j hj => by rw [f3 1 (by omega) (by omega)]; exact m5 j hj, fun j hj => by rw [f3 2 (by omega) (by omega)]; exact m6 j hj, fun k hk => ?_⟩
  · rw [mW_low G.1.1 _ _ _ (by omega), mW_low hC _ _ _ (by omega)]
    exact f1 q (fun z => by rw [actKs_iff] at z; omega)
  · exact (m7 k hk).same hk ((c.2.2.2.2.2.2.2 k hk).bd) (by rw [f3 3 (by omega) (by omega)]) (fun q q1 q2 => f4 q (by omega))
