theorem rv_args (ad : Nat → Nat) : ∀ (vs : List Value) (i : Nat), lv_args i (vs.map (rv ad)) = (lv_args i vs).map (fun q => (q.1, rv ad q.2))
  | [], _ => rfl
  | v :: vs, i => by
    have h := rv_cat ad v
    have ih := rv_args ad vs
    simp [lv_args, h, ih]
theorem rv_slots (ad : Nat → Nat) (vs : List Value) : (lg_sl (vs.map (rv ad))).length = (lg_sl vs).length := by
  induction vs with
  | nil => rfl
  | cons v vs ih =>
    have h := rv_cat ad v
    simp only [lg_sl, List.map_cons, List.flatMap_cons, List.length_append] at ih ⊢
    rw [ih]
    simp only [h]
    by_cases hc : v.category = 2 <;> simp [hc]
theorem rv_ext {ad ad' : Nat → Nat} {n : Nat} {v : Value} (h : rOK n v = true) (e : ∀ k, (k < n ∨ 10000 ≤ k) → ad' k = ad k) : rv ad' v = rv ad v := by
  cases v <;> try rfl
  rename_i k
  simp only [rOK, Bool.or_eq_true, decide_eq_true_eq] at h
  simp only [rv]
  rw [e k h]
theorem rvs_ext {ad ad' : Nat → Nat} {n : Nat} {vs : List Value} (h : vs.all (rOK n) = true) (e : ∀ k, (k < n ∨ 10000 ≤ k) → ad' k = ad k) : vs.map (rv ad') = vs.map (rv ad) := by
  apply List.map_congr_left
  intro v hv
  exact rv_ext (List.all_eq_true.mp h v hv) e
theorem cv_ext {dA : FieldType → ClassId} {ad ad' : Nat → Nat} {n : Nat} {x : MC} (h : cOK n x) (e : ∀ k, (k < n ∨ 10000 ≤ k) → ad' k = ad k) : cv dA ad' x = cv dA ad x := by
  rcases x with ⟨ty, k, f | f | f | f | f⟩ | ⟨ci, fs⟩
  · rfl
  · rfl
  · rfl
  · rfl
  · show Sum.inl (dA ty, k, Sum.inr (Sum.inr (Sum.inr (Sum.inr (fun j => (f j).map ad'))))) = Sum.inl (dA ty, k, Sum.inr (Sum.inr (Sum.inr (Sum.inr (fun j => (f j).map ad)))))
    have h1 : (fun j => (f j).map ad') = fun j => (f j).map ad := by
      funext j
      cases hj : f j with
      | none => rfl
      | some q => show some (ad' q) = some (ad q); rw [e q (Or.inl (h j q hj))]
    rw [h1]
  · show Sum.inr (ci, fs.map (rv ad')) = Sum.inr (ci, fs.map (rv ad))
    rw [rvs_ext h e]
theorem wi_ext {dA : FieldType → ClassId} {ad ad' : Nat → Nat} {w : MW} (h : wOK w) (e : ∀ k, (k < w.length ∨ 10000 ≤ k) → ad' k = ad k) : wi dA ad' w = wi dA ad w := by
  unfold wi
  apply List.ext_getElem?
  intro k
  rw [List.getElem?_mapIdx, List.getElem?_mapIdx]
  cases hk : w[k]? with
  | none => rfl
  | some x =>
    have hl : k < w.length := (List.getElem?_eq_some_iff.mp hk).1
    show some (ad' k, cv dA ad' x) = some (ad k, cv dA ad x)
    rw [e k (Or.inl hl), cv_ext (h.2 x (List.mem_of_getElem? hk)) e]
theorem nwC_spec {n0 : Nat} {w w1 : MW} {vs : List Value} {x : MC} (h : nwC n0 w vs x = some w1) : wOK w ∧ vs.all (rOK w.length) = true ∧ n0 ≤ w.length ∧ w1 = w ++ [x] := by
  unfold nwC at h
  split at h
  · rename_i hc; cases h; exact ⟨hc.1, hc.2.1, hc.2.2, rfl⟩
  · cases h
theorem nwC_eq {n0 : Nat} {w : MW} {vs : List Value} {x : MC} (h1 : wOK w) (h2 : vs.all (rOK w.length) = true) (h3 : n0 ≤ w.length) : nwC n0 w vs x = some (w ++ [x]) := by
  unfold nwC
  rw [if_pos ⟨h1, h2, h3⟩]
/-- a call that makes cells: the receiver, and the values held elsewhere -/
noncomputable def clA {α : Type} (n0 : Nat) (w : MW) (ci b : Nat) (vs : List Value) (x : Option α) : Option α := @ite _ (n0 ≤ w.length ∧ vs.all (rOK w.length) = true) (Classical.propDecidable _) (cl w ci b x) none
theorem clA_spec {α : Type} {n0 : Nat} {w : MW} {ci b : Nat} {vs : List Value} {x : Option α} {y : α} (h : clA n0 w ci b vs x = some y) : n0 ≤ w.length ∧ vs.all (rOK w.length) = true ∧ ∃ fs, w[b]? = some (.inr (ci, fs)) ∧ x = some y := by
  unfold clA at h
  split at h
  · rename_i hc; exact ⟨hc.1, hc.2, cl_spec h⟩
  · cases h
theorem clA_eq {α : Type} {n0 : Nat} {w : MW} {ci b : Nat} {vs : List Value} {x : Option α} (h1 : n0 ≤ w.length) (h2 : vs.all (rOK w.length) = true) : clA n0 w ci b vs x = cl w ci b x := by
  unfold clA
  rw [if_pos ⟨h1, h2⟩]
section JK
variable {p : Program} {l : Launch} {e : Env} {R : Room} {s : State} {m : MethodId} {args : Array Value} {below : List Frame} {meth : Method} {c : Code} {Q : State → Prop} {cells slots : Nat}
variable {cc : ByteArray} {nL : Nat} {own : String} {ret : Option FieldType} {D : va_G} {dA : FieldType → ClassId} {A : Nat → Prop} {E : (Nat → Nat) → Prop}
variable {pc : Nat} {L : List (Nat × Value)} {S : List Value} {w : MW} {ρ : Type} {r : ρ}
theorem Pj_blind {ad : Nat → Nat} {as : List Value} {sz : Nat} : FrameBlind (Pj D dA ad as w sz) := fun a U g mk h => ⟨h.1, h.2.1, h.2.2.1, va_K.moved (u := U) (U := U.calling g mk a) (Vm.Alike.refl U.vm) h.2.2.2.1, h.2.2.2.2.1, h.2.2.2.2.2.calling⟩
theorem Aj (C : jcx p s m args meth c cc nL own ret D dA A E) {ad : Nat → Nat} {H : Heap} {locs : List Loc} (hD : va_D A (wi dA ad w)) (hS : va_S A s.heap H locs) : ∀ q, va_A (wi dA ad w) H.size q → A q := by
  intro q h
  rcases h with ⟨k, x, h⟩ | h
  · exact hD.2 k _ h
  · exact C.2.2.2.2.2.2.2.2.1 q (Nat.le_trans hS.1 h)
theorem Pj_ok (C : jcx p s m args meth c cc nL own ret D dA A E) {ad : Nat → Nat} {H : Heap} {locs : List Loc} {as : List Value} (hE : E ad) (hP : va_P D vwCl (wi dA ad w) H) (hD : va_D A (wi dA ad w)) (hS : va_S A s.heap H locs) : ∀ U : State, U.heap = H → s.WarmedH U.vm → Pj D dA ad as w H.size (as.map (rv ad)).toArray U := fun U hU hW =>
  ⟨rfl, by rw [hU], by rw [hU]; exact hP, va_K.moved hW.alike C.2.2.2.2.2.1, hD.weaken (fun _ _ _ _ => trivial), by rw [hU]; exact (((C.2.2.2.2.2.2.2.2.2 ad hE).kept hS.2.1).warm hW).narrow (Aj C hD hS)⟩
theorem J_run (C : jcx p s m args meth c cc nL own ret D dA A E) {Sc : List Value} {v : Option Value} {w' : MW} (hr : ∀ (ad : Nat → Nat) (H : Heap) (locs : List Loc) (ls : Array Slot), E ad → va_P D vwCl (wi dA ad w) H → va_D A (wi dA ad w) → va_S A s.heap H locs → lv_has ls nL (L.map (fun q => (q.1, rv ad q.2))) → ∃ ar, va_Run p l e R s m args below meth c H locs cells slots 0 0 (F0 m pc ls (Sc.map (rv ad))) (S.map (rv ad)) (Qr D dA (EN ad) v w' (va_A (wi dA ad w) H.size) ar) (va_A (wi dA ad w) H.size)) (k : JW p l e R s m args below meth c nL D dA A E Q cells slots (pc + 3) L (v.toList ++ S) w') : JW p l e R s m args below meth c nL D dA A E Q cells slots pc L Sc w := by
  intro ad H locs ls hE hP hD hS hl T hT X
  obtain ⟨ar, hr⟩ := hr ad H locs ls hE hP hD hS hl
  obtain ⟨v1, st₀, t, T', L1, h0, X', hL, e1, e2, ⟨ad', had, hv, hP1, hD1, hz, hk⟩, st⟩ := hr T hT X
  have had : ad' = ad := had
  subst had
  have hv : v1 = v.map (rv ad') := by cases hv; rfl
  subst hv
  rw [h0] at hz hk
  have hA := Aj C hD hS
  have hS1 : va_S A s.heap T'.heap (locs ++ L1) := ⟨Nat.le_trans hS.1 (by rw [e1]; exact hz), fun q h1 h2 => by rw [e1, hk q (Nat.lt_of_lt_of_le h1 hS.1) (fun z => h2 (hA q z))]; exact hS.2.1 q h1 h2, fun q hq => by
    rcases List.mem_append.mp hq with h | h
    · exact hS.2.2 q h
    · exact hA _ (hL q h)⟩
  obtain ⟨t2, a1, b1⟩ := k ad' T'.heap (locs ++ L1) ls hE (by rw [e1]; exact hP1) (hD1.weaken (fun _ _ _ h => hA _ h)) hS1 hl T' rfl X'
  refine ⟨t2, st t2 ?_, b1⟩
  have eS : (v.toList ++ S).map (rv ad') = (v.map (rv ad')).toList ++ S.map (rv ad') := by cases v <;> rfl
  rw [eS] at a1
  exact a1
theorem J_runA (C : jcx p s m args meth c cc nL own ret D dA A E) {Sc : List Value} {v : Option Value} {w' : MW} {mc ms : Nat} (hEE : ∀ ad ad', E ad → EA w.length ad ad' → E ad') (hL0 : (L.map (fun q => q.2)).all (rOK w.length) = true) (hS0 : S.all (rOK w.length) = true) (hr : ∀ (ad : Nat → Nat) (H : Heap) (locs : List Loc) (ls : Array Slot), E ad → va_P D vwCl (wi dA ad w) H → va_D A (wi dA ad w) → va_S A s.heap H locs → lv_has ls nL (L.map (fun q => (q.1, rv ad q.2))) → ∃ ar, va_Run p l e R s m args below meth c H locs cells slots mc ms (F0 m pc ls (Sc.map (rv ad))) (S.map (rv ad)) (Qr D dA (EA w.length ad) v w' (va_A (wi dA ad w) H.size) ar) (va_A (wi dA ad w) H.size)) (k : JW p l e R s m args below meth c nL D dA A E Q (cells + mc) (slots + ms) (pc + 3) L (v.toList ++ S) w') : JW p l e R s m args below meth c nL D dA A E Q cells slots pc L Sc w := by
  intro ad H locs ls hE hP hD hS hl T hT X
  obtain ⟨ar, hr⟩ := hr ad H locs ls hE hP hD hS hl
  obtain ⟨v1, st₀, t, T', L1, h0, X', hL, e1, e2, ⟨ad', had, hv, hP1, hD1, hz, hk⟩, st⟩ := hr T hT X
  have hv : v1 = v.map (rv ad') := by cases hv; rfl
  subst hv
  rw [h0] at hz hk
  have hA := Aj C hD hS
  have hS1 : va_S A s.heap T'.heap (locs ++ L1) := ⟨Nat.le_trans hS.1 (by rw [e1]; exact hz), fun q h1 h2 => by rw [e1, hk q (Nat.lt_of_lt_of_le h1 hS.1) (fun z => h2 (hA q z))]; exact hS.2.1 q h1 h2, fun q hq => by
    rcases List.mem_append.mp hq with h | h
    · exact hS.2.2 q h
    · exact hA _ (hL q h)⟩
  have eL : L.map (fun q => (q.1, rv ad' q.2)) = L.map (fun q => (q.1, rv ad q.2)) := by
    apply List.map_congr_left
    intro q hq
    rw [rv_ext (List.all_eq_true.mp hL0 _ (List.mem_map_of_mem hq)) had]
  obtain ⟨t2, a1, b1⟩ := k ad' T'.heap (locs ++ L1) ls (hEE ad ad' hE had) (by rw [e1]; exact hP1) (hD1.weaken (fun _ _ _ h => hA _ h)) hS1 (by rw [eL]; exact hl) T' rfl X'
  refine ⟨t2, st t2 ?_, b1⟩
  have eS : (v.toList ++ S).map (rv ad') = (v.map (rv ad')).toList ++ S.map (rv ad) := by
    rw [List.map_append, rvs_ext hS0 had]; cases v <;> rfl
  rw [eS] at a1
  exact a1
theorem J_callV (C : jcx p s m args meth c cc nL own ret D dA A E) {y : MethodName} {bytes : ByteArray} {maxL index n : Nat} {ret' : Option FieldType} {rm : Room} {as : List Value} {v : Option Value} {w' : MW} {Sc : List Value} {b ci : Nat} {fs : List Value} (hd : decode cc pc = .ok (.invokevirtual index, 3)) (hM : CT l D dA y bytes maxL ret' rm (.ref b :: as) w v w') (hlk : Cond.methodLink own index y ∈ GT) (hco : Cond.code y bytes maxL ret' ∈ GT) (hini : Cond.initialized y.cls ∈ GT) (hins : Cond.instanceMethod y ∈ GT) (hsel : Cond.selects y.cls y y ∈ GT) {T : u_T} {N : Nat} (hci : vwCl[ci]? = some (y.cls, T, N)) (hy : y.cls ≠ "java/lang/invoke/MethodHandle" ∧ y.cls ≠ "java/lang/invoke/VarHandle" ∧ (parseMethodDescriptor y.desc).map (fun d => d.parameters.length) = some n) (hR : rm.frames + 1 ≤ R.frames ∧ 8 + (maxL + 11) + rm.locals ≤ R.locals) (hcs : cells ≤ R.cells ∧ slots ≤ R.slots) (hrm : rm.cells = 0 ∧ rm.slots = 0) (hb : w[b]? = some (.inr (ci, fs))) (hn : as.length = n) (hst : Sc = as.reverse ++ .ref b :: S) (hW : ∀ ad, ((S.map (rv ad)).map fun v => v.category).sum ≤ 8) (k : JW p l e R s m args below meth c nL D dA A E Q cells slots (pc + 3) L (v.toList ++ S) w') : JW p l e R s m args below meth c nL D dA A E Q cells slots pc L Sc w := by
  refine J_run C (fun ad H locs ls hE hP hD hS hl => ⟨((.ref b :: as).map (rv ad)).toArray, ?_⟩) k
  exact va_runV (C := y.cls) (b := ad b) (As := as.map (rv ad)) (rest := S.map (rv ad)) ⟨C.1, C.2.1, C.2.2.1, C.2.2.2.1, C.2.2.2.2.1⟩ (hM ad H.size) ⟨callB_of n C.2.2.2.2.1 (GT_in hco) rfl hrm.1 hrm.2 (C.2.2.2.2.1 _ hini) (C.2.2.2.2.1 _ hlk) hy hR, C.2.2.2.2.1 _ hins, C.2.2.2.2.1 _ hsel⟩ ⟨Pj_blind, va_recv C.2.2.2.2.2.1 hP (q := (y.cls, T, N)) hci (wi_at hb), Pj_ok C (as := .ref b :: as) hE hP hD hS⟩ rfl (by rw [List.length_map]; exact hn) hl.1 (by subst hst; simp [rv]) (by show 2 * 0 + _ ≤ 8; have := hW ad; omega) hd ⟨hcs.1, hcs.2⟩
theorem J_callS (C : jcx p s m args meth c cc nL own ret D dA A E) {y : MethodName} {bytes : ByteArray} {maxL index n : Nat} {ret' : Option FieldType} {rm : Room} {as : List Value} {v : Option Value} {w' : MW} {Sc : List Value} (hd : decode cc pc = .ok (.invokestatic index, 3)) (hM : CT l D dA y bytes maxL ret' rm (as) w v w') (hlk : Cond.methodLink own index y ∈ GT) (hco : Cond.code y bytes maxL ret' ∈ GT) (hini : Cond.initialized y.cls ∈ GT) (hsta : Cond.static y ∈ GT) (hy : y.cls ≠ "java/lang/invoke/MethodHandle" ∧ y.cls ≠ "java/lang/invoke/VarHandle" ∧ (parseMethodDescriptor y.desc).map (fun d => d.parameters.length) = some n) (hR : rm.frames + 1 ≤ R.frames ∧ 8 + (maxL + 11) + rm.locals ≤ R.locals) (hcs : cells ≤ R.cells ∧ slots ≤ R.slots) (hrm : rm.cells = 0 ∧ rm.slots = 0) (hn : as.length = n) (hst : Sc = as.reverse ++ S) (hW : ∀ ad, ((S.map (rv ad)).map fun v => v.category).sum ≤ 8) (k : JW p l e R s m args below meth c nL D dA A E Q cells slots (pc + 3) L (v.toList ++ S) w') : JW p l e R s m args below meth c nL D dA A E Q cells slots pc L Sc w := by
  refine J_run C (fun ad H locs ls hE hP hD hS hl => ⟨((as).map (rv ad)).toArray, ?_⟩) k
  exact va_runS (As := as.map (rv ad)) (rest := S.map (rv ad)) ⟨C.1, C.2.1, C.2.2.1, C.2.2.2.1, C.2.2.2.2.1⟩ (hM ad H.size) ⟨callB_of n C.2.2.2.2.1 (GT_in hco) rfl hrm.1 hrm.2 (C.2.2.2.2.1 _ hini) (C.2.2.2.2.1 _ hlk) hy hR, C.2.2.2.2.1 _ hsta⟩ ⟨Pj_blind, Pj_ok C (as := as) hE hP hD hS⟩ rfl (by rw [List.length_map]; exact hn) hl.1 (by subst hst; simp [rv]) (by show 2 * 0 + _ ≤ 8; have := hW ad; omega) hd ⟨hcs.1, hcs.2⟩
theorem J_callSN (C : jcx p s m args meth c cc nL own ret D dA A E) {y : MethodName} {bytes : ByteArray} {maxL index n : Nat} {ret' : Option FieldType} {rm : Room} {as : List Value} {v : Option Value} {w' : MW} {Sc : List Value} (hd : decode cc pc = .ok (.invokestatic index, 3)) (hM : CT l D dA y bytes maxL ret' rm (as) w v w') {host : String} (hlk : Cond.methodLinkNest own index y host ∈ NT) (hco : Cond.code y bytes maxL ret' ∈ GT) (hini : Cond.initialized y.cls ∈ GT) (hsta : Cond.static y ∈ GT) (hy : y.cls ≠ "java/lang/invoke/MethodHandle" ∧ y.cls ≠ "java/lang/invoke/VarHandle" ∧ (parseMethodDescriptor y.desc).map (fun d => d.parameters.length) = some n) (hR : rm.frames + 1 ≤ R.frames ∧ 8 + (maxL + 11) + rm.locals ≤ R.locals) (hcs : cells ≤ R.cells ∧ slots ≤ R.slots) (hrm : rm.cells = 0 ∧ rm.slots = 0) (hn : as.length = n) (hst : Sc = as.reverse ++ S) (hW : ∀ ad, ((S.map (rv ad)).map fun v => v.category).sum ≤ 8) (k : JW p l e R s m args below meth c nL D dA A E Q cells slots (pc + 3) L (v.toList ++ S) w') : JW p l e R s m args below meth c nL D dA A E Q cells slots pc L Sc w := by
  refine J_run C (fun ad H locs ls hE hP hD hS hl => ⟨((as).map (rv ad)).toArray, ?_⟩) k
  exact va_runSN (As := as.map (rv ad)) (rest := S.map (rv ad)) ⟨C.1, C.2.1, C.2.2.1, C.2.2.2.1, C.2.2.2.2.1⟩ (hM ad H.size) ⟨va_cnB n C.2.2.2.2.1 (GT_in hco) rfl hrm.1 hrm.2 ((C.2.2.2.2.2.2.2.2.2 ad hE).1 _ hlk) (C.2.2.2.2.1 _ hini) hy hR, C.2.2.2.2.1 _ hsta, trivial⟩ ⟨Pj_blind, Pj_ok C (as := as) hE hP hD hS⟩ rfl (by rw [List.length_map]; exact hn) hl.1 (by subst hst; simp [rv]) (by show 2 * 0 + _ ≤ 8; have := hW ad; omega) hd ⟨hcs.1, hcs.2⟩
theorem J_callI (C : jcx p s m args meth c cc nL own ret D dA A E) {y : MethodName} {bytes : ByteArray} {maxL index n : Nat} {rm : Room} {as : List Value} {v : Option Value} {w' : MW} {Sc : List Value} {b ci : Nat} {fs : List Value} (hd : decode cc pc = .ok (.invokespecial index, 3)) (hM : CT l D dA y bytes maxL none rm (.ref b :: as) w v w') (hlk : Cond.methodLink own index y ∈ GT) (hco : Cond.code y bytes maxL none ∈ GT) (hini : Cond.initialized y.cls ∈ GT) (hins : Cond.instanceMethod y ∈ GT) (hnm : y.name = "<init>") (hy : y.cls ≠ "java/lang/invoke/MethodHandle" ∧ y.cls ≠ "java/lang/invoke/VarHandle" ∧ (parseMethodDescriptor y.desc).map (fun d => d.parameters.length) = some n) (hR : rm.frames + 1 ≤ R.frames ∧ 8 + (maxL + 11) + rm.locals ≤ R.locals) (hcs : cells ≤ R.cells ∧ slots ≤ R.slots) (hrm : rm.cells = 0 ∧ rm.slots = 0) (hb : w[b]? = some (.inr (ci, fs))) (hn : as.length = n) (hst : Sc = as.reverse ++ .ref b :: S) (hW : ∀ ad, ((S.map (rv ad)).map fun v => v.category).sum ≤ 8) (k : JW p l e R s m args below meth c nL D dA A E Q cells slots (pc + 3) L (v.toList ++ S) w') : JW p l e R s m args below meth c nL D dA A E Q cells slots pc L Sc w := by
  refine J_run C (fun ad H locs ls hE hP hD hS hl => ⟨((.ref b :: as).map (rv ad)).toArray, ?_⟩) k
  exact va_runI (b := ad b) (As := as.map (rv ad)) (rest := S.map (rv ad)) ⟨C.1, C.2.1, C.2.2.1, C.2.2.2.1, C.2.2.2.2.1⟩ (hM ad H.size) ⟨callB_of n C.2.2.2.2.1 (GT_in hco) rfl hrm.1 hrm.2 (C.2.2.2.2.1 _ hini) (C.2.2.2.2.1 _ hlk) hy hR, hnm, C.2.2.2.2.1 _ hins⟩ ⟨Pj_blind, Pj_ok C (as := .ref b :: as) hE hP hD hS⟩ rfl (by rw [List.length_map]; exact hn) hl.1 (by subst hst; simp [rv]) (by show 2 * 0 + _ ≤ 8; have := hW ad; omega) hd ⟨hcs.1, hcs.2⟩
theorem J_callIN (C : jcx p s m args meth c cc nL own ret D dA A E) {y : MethodName} {bytes : ByteArray} {maxL index n : Nat} {rm : Room} {as : List Value} {v : Option Value} {w' : MW} {Sc : List Value} {b ci : Nat} {fs : List Value} (hd : decode cc pc = .ok (.invokespecial index, 3)) (hM : CT l D dA y bytes maxL none rm (.ref b :: as) w v w') {host : String} (hlk : Cond.methodLinkNest own index y host ∈ NT) (hco : Cond.code y bytes maxL none ∈ GT) (hini : Cond.initialized y.cls ∈ GT) (hins : Cond.instanceMethod y ∈ GT) (hnm : y.name = "<init>") (hy : y.cls ≠ "java/lang/invoke/MethodHandle" ∧ y.cls ≠ "java/lang/invoke/VarHandle" ∧ (parseMethodDescriptor y.desc).map (fun d => d.parameters.length) = some n) (hR : rm.frames + 1 ≤ R.frames ∧ 8 + (maxL + 11) + rm.locals ≤ R.locals) (hcs : cells ≤ R.cells ∧ slots ≤ R.slots) (hrm : rm.cells = 0 ∧ rm.slots = 0) (hb : w[b]? = some (.inr (ci, fs))) (hn : as.length = n) (hst : Sc = as.reverse ++ .ref b :: S) (hW : ∀ ad, ((S.map (rv ad)).map fun v => v.category).sum ≤ 8) (k : JW p l e R s m args below meth c nL D dA A E Q cells slots (pc + 3) L (v.toList ++ S) w') : JW p l e R s m args below meth c nL D dA A E Q cells slots pc L Sc w := by
  refine J_run C (fun ad H locs ls hE hP hD hS hl => ⟨((.ref b :: as).map (rv ad)).toArray, ?_⟩) k
  exact va_runIN (b := ad b) (As := as.map (rv ad)) (rest := S.map (rv ad)) ⟨C.1, C.2.1, C.2.2.1, C.2.2.2.1, C.2.2.2.2.1⟩ (hM ad H.size) ⟨va_cnB n C.2.2.2.2.1 (GT_in hco) rfl hrm.1 hrm.2 ((C.2.2.2.2.2.2.2.2.2 ad hE).1 _ hlk) (C.2.2.2.2.1 _ hini) hy hR, hnm, C.2.2.2.2.1 _ hins⟩ ⟨Pj_blind, Pj_ok C (as := .ref b :: as) hE hP hD hS⟩ rfl (by rw [List.length_map]; exact hn) hl.1 (by subst hst; simp [rv]) (by show 2 * 0 + _ ≤ 8; have := hW ad; omega) hd ⟨hcs.1, hcs.2⟩
theorem J_callIA (C : jcx p s m args meth c cc nL own ret D dA A E) {y : MethodName} {bytes : ByteArray} {maxL index n : Nat} {rm : Room} {as : List Value} {v : Option Value} {w' : MW} {Sc : List Value} {b ci : Nat} {fs : List Value} {mc ms : Nat} (hd : decode cc pc = .ok (.invokespecial index, 3)) (hM : CA l D dA y bytes maxL none rm mc ms (.ref b :: as) w v w') (hlk : Cond.methodLink own index y ∈ GT) (hco : Cond.code y bytes maxL none ∈ GT) (hini : Cond.initialized y.cls ∈ GT) (hins : Cond.instanceMethod y ∈ GT) (hnm : y.name = "<init>") (hy : y.cls ≠ "java/lang/invoke/MethodHandle" ∧ y.cls ≠ "java/lang/invoke/VarHandle" ∧ (parseMethodDescriptor y.desc).map (fun d => d.parameters.length) = some n) (hR : rm.frames + 1 ≤ R.frames ∧ 8 + (maxL + 11) + rm.locals ≤ R.locals) (hcs : cells + mc ≤ R.cells ∧ slots + ms ≤ R.slots) (hrm : rm.cells = mc ∧ rm.slots = ms) (hb : w[b]? = some (.inr (ci, fs))) (hn : as.length = n) (hst : Sc = as.reverse ++ .ref b :: S) (hW : ∀ ad, ((S.map (rv ad)).map fun v => v.category).sum ≤ 8) {n0 : Nat} (hEE : ∀ (w1 : MW) (ad ad' : Nat → Nat), n0 ≤ w1.length → E ad → EA w1.length ad ad' → E ad') (hn0 : n0 ≤ w.length) (vs : List Value) (hvs : L.map (fun q => q.2) ++ S = vs) (hv0 : vs.all (rOK w.length) = true) (k : JW p l e R s m args below meth c nL D dA A E Q (cells + mc) (slots + ms) (pc + 3) L (v.toList ++ S) w') : JW p l e R s m args below meth c nL D dA A E Q cells slots pc L Sc w := by
  refine J_runA C (fun ad ad' => hEE w ad ad' hn0) (by rw [← hvs, List.all_append, Bool.and_eq_true] at hv0; exact hv0.1) (by rw [← hvs, List.all_append, Bool.and_eq_true] at hv0; exact hv0.2) (fun ad H locs ls hE hP hD hS hl => ⟨((.ref b :: as).map (rv ad)).toArray, ?_⟩) k
  exact va_runI (b := ad b) (As := as.map (rv ad)) (rest := S.map (rv ad)) ⟨C.1, C.2.1, C.2.2.1, C.2.2.2.1, C.2.2.2.2.1⟩ (hM ad H.size) ⟨callB_of n C.2.2.2.2.1 (GT_in hco) rfl hrm.1 hrm.2 (C.2.2.2.2.1 _ hini) (C.2.2.2.2.1 _ hlk) hy hR, hnm, C.2.2.2.2.1 _ hins⟩ ⟨Pj_blind, Pj_ok C (as := .ref b :: as) hE hP hD hS⟩ rfl (by rw [List.length_map]; exact hn) hl.1 (by subst hst; simp [rv]) (by show 2 * 0 + _ ≤ 8; have := hW ad; omega) hd ⟨hcs.1, hcs.2⟩
theorem J_callINA (C : jcx p s m args meth c cc nL own ret D dA A E) {y : MethodName} {bytes : ByteArray} {maxL index n : Nat} {rm : Room} {as : List Value} {v : Option Value} {w' : MW} {Sc : List Value} {b ci : Nat} {fs : List Value} {mc ms : Nat} (hd : decode cc pc = .ok (.invokespecial index, 3)) (hM : CA l D dA y bytes maxL none rm mc ms (.ref b :: as) w v w') {host : String} (hlk : Cond.methodLinkNest own index y host ∈ NT) (hco : Cond.code y bytes maxL none ∈ GT) (hini : Cond.initialized y.cls ∈ GT) (hins : Cond.instanceMethod y ∈ GT) (hnm : y.name = "<init>") (hy : y.cls ≠ "java/lang/invoke/MethodHandle" ∧ y.cls ≠ "java/lang/invoke/VarHandle" ∧ (parseMethodDescriptor y.desc).map (fun d => d.parameters.length) = some n) (hR : rm.frames + 1 ≤ R.frames ∧ 8 + (maxL + 11) + rm.locals ≤ R.locals) (hcs : cells + mc ≤ R.cells ∧ slots + ms ≤ R.slots) (hrm : rm.cells = mc ∧ rm.slots = ms) (hb : w[b]? = some (.inr (ci, fs))) (hn : as.length = n) (hst : Sc = as.reverse ++ .ref b :: S) (hW : ∀ ad, ((S.map (rv ad)).map fun v => v.category).sum ≤ 8) {n0 : Nat} (hEE : ∀ (w1 : MW) (ad ad' : Nat → Nat), n0 ≤ w1.length → E ad → EA w1.length ad ad' → E ad') (hn0 : n0 ≤ w.length) (vs : List Value) (hvs : L.map (fun q => q.2) ++ S = vs) (hv0 : vs.all (rOK w.length) = true) (k : JW p l e R s m args below meth c nL D dA A E Q (cells + mc) (slots + ms) (pc + 3) L (v.toList ++ S) w') : JW p l e R s m args below meth c nL D dA A E Q cells slots pc L Sc w := by
  refine J_runA C (fun ad ad' => hEE w ad ad' hn0) (by rw [← hvs, List.all_append, Bool.and_eq_true] at hv0; exact hv0.1) (by rw [← hvs, List.all_append, Bool.and_eq_true] at hv0; exact hv0.2) (fun ad H locs ls hE hP hD hS hl => ⟨((.ref b :: as).map (rv ad)).toArray, ?_⟩) k
  exact va_runIN (b := ad b) (As := as.map (rv ad)) (rest := S.map (rv ad)) ⟨C.1, C.2.1, C.2.2.1, C.2.2.2.1, C.2.2.2.2.1⟩ (hM ad H.size) ⟨va_cnB n C.2.2.2.2.1 (GT_in hco) rfl hrm.1 hrm.2 ((C.2.2.2.2.2.2.2.2.2 ad hE).1 _ hlk) (C.2.2.2.2.1 _ hini) hy hR, hnm, C.2.2.2.2.1 _ hins⟩ ⟨Pj_blind, Pj_ok C (as := .ref b :: as) hE hP hD hS⟩ rfl (by rw [List.length_map]; exact hn) hl.1 (by subst hst; simp [rv]) (by show 2 * 0 + _ ≤ 8; have := hW ad; omega) hd ⟨hcs.1, hcs.2⟩
/-- a callee's words, in one -/
def YV (y : MethodName) (bytes : ByteArray) (maxL : Nat) (ret' : Option FieldType) (rm : Room) (ci n : Nat) : Prop := Cond.code y bytes maxL ret' ∈ GT ∧ Cond.initialized y.cls ∈ GT ∧ Cond.instanceMethod y ∈ GT ∧ Cond.selects y.cls y y ∈ GT ∧ (∃ (T : u_T) (N : Nat), vwCl[ci]? = some (y.cls, T, N)) ∧ (y.cls ≠ "java/lang/invoke/MethodHandle" ∧ y.cls ≠ "java/lang/invoke/VarHandle" ∧ (parseMethodDescriptor y.desc).map (fun d => d.parameters.length) = some n) ∧ (rm.cells = 0 ∧ rm.slots = 0)
def YS (y : MethodName) (bytes : ByteArray) (maxL : Nat) (ret' : Option FieldType) (rm : Room) (n : Nat) : Prop := Cond.code y bytes maxL ret' ∈ GT ∧ Cond.initialized y.cls ∈ GT ∧ Cond.static y ∈ GT ∧ (y.cls ≠ "java/lang/invoke/MethodHandle" ∧ y.cls ≠ "java/lang/invoke/VarHandle" ∧ (parseMethodDescriptor y.desc).map (fun d => d.parameters.length) = some n) ∧ (rm.cells = 0 ∧ rm.slots = 0)
def YI (y : MethodName) (bytes : ByteArray) (maxL : Nat) (rm : Room) (mc ms n : Nat) : Prop := Cond.code y bytes maxL none ∈ GT ∧ Cond.initialized y.cls ∈ GT ∧ Cond.instanceMethod y ∈ GT ∧ y.name = "<init>" ∧ (y.cls ≠ "java/lang/invoke/MethodHandle" ∧ y.cls ≠ "java/lang/invoke/VarHandle" ∧ (parseMethodDescriptor y.desc).map (fun d => d.parameters.length) = some n) ∧ (rm.cells = mc ∧ rm.slots = ms)
theorem J_cV (C : jcx p s m args meth c cc nL own ret D dA A E) {y : MethodName} {bytes : ByteArray} {maxL index n : Nat} {ret' : Option FieldType} {rm : Room} {as : List Value} {v : Option Value} {w' : MW} {Sc : List Value} {b ci : Nat} {fs : List Value} (hd : decode cc pc = .ok (.invokevirtual index, 3)) (hM : CT l D dA y bytes maxL ret' rm (.ref b :: as) w v w') (hlk : Cond.methodLink own index y ∈ GT) (Y : YV y bytes maxL ret' rm ci n) (hR : rm.frames + 1 ≤ R.frames ∧ 8 + (maxL + 11) + rm.locals ≤ R.locals) (hcs : cells ≤ R.cells ∧ slots ≤ R.slots) (hb : w[b]? = some (.inr (ci, fs))) (hn : as.length = n) (hst : Sc = as.reverse ++ .ref b :: S) (hW : ∀ ad, ((S.map (rv ad)).map fun v => v.category).sum ≤ 8) (k : JW p l e R s m args below meth c nL D dA A E Q cells slots (pc + 3) L (v.toList ++ S) w') : JW p l e R s m args below meth c nL D dA A E Q cells slots pc L Sc w := by
  obtain ⟨y1, y2, y3, y4, ⟨T, N, y5⟩, y6, y7⟩ := Y
  exact J_callV C hd hM hlk y1 y2 y3 y4 y5 y6 hR hcs y7 hb hn hst hW k
theorem J_cS (C : jcx p s m args meth c cc nL own ret D dA A E) {y : MethodName} {bytes : ByteArray} {maxL index n : Nat} {ret' : Option FieldType} {rm : Room} {as : List Value} {v : Option Value} {w' : MW} {Sc : List Value} (hd : decode cc pc = .ok (.invokestatic index, 3)) (hM : CT l D dA y bytes maxL ret' rm as w v w') (hlk : Cond.methodLink own index y ∈ GT) (Y : YS y bytes maxL ret' rm n) (hR : rm.frames + 1 ≤ R.frames ∧ 8 + (maxL + 11) + rm.locals ≤ R.locals) (hcs : cells ≤ R.cells ∧ slots ≤ R.slots) (hn : as.length = n) (hst : Sc = as.reverse ++ S) (hW : ∀ ad, ((S.map (rv ad)).map fun v => v.category).sum ≤ 8) (k : JW p l e R s m args below meth c nL D dA A E Q cells slots (pc + 3) L (v.toList ++ S) w') : JW p l e R s m args below meth c nL D dA A E Q cells slots pc L Sc w := by
  obtain ⟨y1, y2, y3, y6, y7⟩ := Y
  exact J_callS C hd hM hlk y1 y2 y3 y6 hR hcs y7 hn hst hW k
theorem J_cSN (C : jcx p s m args meth c cc nL own ret D dA A E) {y : MethodName} {bytes : ByteArray} {maxL index n : Nat} {ret' : Option FieldType} {rm : Room} {as : List Value} {v : Option Value} {w' : MW} {Sc : List Value} {host : String} (hd : decode cc pc = .ok (.invokestatic index, 3)) (hM : CT l D dA y bytes maxL ret' rm as w v w') (hlk : Cond.methodLinkNest own index y host ∈ NT) (Y : YS y bytes maxL ret' rm n) (hR : rm.frames + 1 ≤ R.frames ∧ 8 + (maxL + 11) + rm.locals ≤ R.locals) (hcs : cells ≤ R.cells ∧ slots ≤ R.slots) (hn : as.length = n) (hst : Sc = as.reverse ++ S) (hW : ∀ ad, ((S.map (rv ad)).map fun v => v.category).sum ≤ 8) (k : JW p l e R s m args below meth c nL D dA A E Q cells slots (pc + 3) L (v.toList ++ S) w') : JW p l e R s m args below meth c nL D dA A E Q cells slots pc L Sc w := by
  obtain ⟨y1, y2, y3, y6, y7⟩ := Y
  exact J_callSN C hd hM hlk y1 y2 y3 y6 hR hcs y7 hn hst hW k
theorem J_cI (C : jcx p s m args meth c cc nL own ret D dA A E) {y : MethodName} {bytes : ByteArray} {maxL index n : Nat} {rm : Room} {as : List Value} {v : Option Value} {w' : MW} {Sc : List Value} {b ci : Nat} {fs : List Value} (hd : decode cc pc = .ok (.invokespecial index, 3)) (hM : CT l D dA y bytes maxL none rm (.ref b :: as) w v w') (hlk : Cond.methodLink own index y ∈ GT) (Y : YI y bytes maxL rm 0 0 n) (hR : rm.frames + 1 ≤ R.frames ∧ 8 + (maxL + 11) + rm.locals ≤ R.locals) (hcs : cells ≤ R.cells ∧ slots ≤ R.slots) (hb : w[b]? = some (.inr (ci, fs))) (hn : as.length = n) (hst : Sc = as.reverse ++ .ref b :: S) (hW : ∀ ad, ((S.map (rv ad)).map fun v => v.category).sum ≤ 8) (k : JW p l e R s m args below meth c nL D dA A E Q cells slots (pc + 3) L (v.toList ++ S) w') : JW p l e R s m args below meth c nL D dA A E Q cells slots pc L Sc w := by
  obtain ⟨y1, y2, y3, y4, y6, y7⟩ := Y
  exact J_callI C hd hM hlk y1 y2 y3 y4 y6 hR hcs y7 hb hn hst hW k
theorem J_cIA (C : jcx p s m args meth c cc nL own ret D dA A E) {y : MethodName} {bytes : ByteArray} {maxL index n : Nat} {rm : Room} {as : List Value} {v : Option Value} {w' : MW} {Sc : List Value} {b ci mc ms : Nat} {fs : List Value} (hd : decode cc pc = .ok (.invokespecial index, 3)) (hM : CA l D dA y bytes maxL none rm mc ms (.ref b :: as) w v w') (hlk : Cond.methodLink own index y ∈ GT) (Y : YI y bytes maxL rm mc ms n) (hR : rm.frames + 1 ≤ R.frames ∧ 8 + (maxL + 11) + rm.locals ≤ R.locals) (hcs : cells + mc ≤ R.cells ∧ slots + ms ≤ R.slots) (hb : w[b]? = some (.inr (ci, fs))) (hn : as.length = n) (hst : Sc = as.reverse ++ .ref b :: S) (hW : ∀ ad, ((S.map (rv ad)).map fun v => v.category).sum ≤ 8) {n0 : Nat} (hEE : ∀ (w1 : MW) (ad ad' : Nat → Nat), n0 ≤ w1.length → E ad → EA w1.length ad ad' → E ad') (hn0 : n0 ≤ w.length) (vs : List Value) (hvs : L.map (fun q => q.2) ++ S = vs) (hv0 : vs.all (rOK w.length) = true) (k : JW p l e R s m args below meth c nL D dA A E Q (cells + mc) (slots + ms) (pc + 3) L (v.toList ++ S) w') : JW p l e R s m args below meth c nL D dA A E Q cells slots pc L Sc w := by
  obtain ⟨y1, y2, y3, y4, y6, y7⟩ := Y
  exact J_callIA C hd hM hlk y1 y2 y3 y4 y6 hR hcs y7 hb hn hst hW hEE hn0 vs hvs hv0 k
theorem J_cIN (C : jcx p s m args meth c cc nL own ret D dA A E) {y : MethodName} {bytes : ByteArray} {maxL index n : Nat} {rm : Room} {as : List Value} {v : Option Value} {w' : MW} {Sc : List Value} {b ci : Nat} {fs : List Value} (hd : decode cc pc = .ok (.invokespecial index, 3)) (hM : CT l D dA y bytes maxL none rm (.ref b :: as) w v w') {host : String} (hlk : Cond.methodLinkNest own index y host ∈ NT) (Y : YI y bytes maxL rm 0 0 n) (hR : rm.frames + 1 ≤ R.frames ∧ 8 + (maxL + 11) + rm.locals ≤ R.locals) (hcs : cells ≤ R.cells ∧ slots ≤ R.slots) (hb : w[b]? = some (.inr (ci, fs))) (hn : as.length = n) (hst : Sc = as.reverse ++ .ref b :: S) (hW : ∀ ad, ((S.map (rv ad)).map fun v => v.category).sum ≤ 8) (k : JW p l e R s m args below meth c nL D dA A E Q cells slots (pc + 3) L (v.toList ++ S) w') : JW p l e R s m args below meth c nL D dA A E Q cells slots pc L Sc w := by
  obtain ⟨y1, y2, y3, y4, y6, y7⟩ := Y
  exact J_callIN C hd hM hlk y1 y2 y3 y4 y6 hR hcs y7 hb hn hst hW k
theorem J_cINA (C : jcx p s m args meth c cc nL own ret D dA A E) {y : MethodName} {bytes : ByteArray} {maxL index n : Nat} {rm : Room} {as : List Value} {v : Option Value} {w' : MW} {Sc : List Value} {b ci mc ms : Nat} {fs : List Value} (hd : decode cc pc = .ok (.invokespecial index, 3)) (hM : CA l D dA y bytes maxL none rm mc ms (.ref b :: as) w v w') {host : String} (hlk : Cond.methodLinkNest own index y host ∈ NT) (Y : YI y bytes maxL rm mc ms n) (hR : rm.frames + 1 ≤ R.frames ∧ 8 + (maxL + 11) + rm.locals ≤ R.locals) (hcs : cells + mc ≤ R.cells ∧ slots + ms ≤ R.slots) (hb : w[b]? = some (.inr (ci, fs))) (hn : as.length = n) (hst : Sc = as.reverse ++ .ref b :: S) (hW : ∀ ad, ((S.map (rv ad)).map fun v => v.category).sum ≤ 8) {n0 : Nat} (hEE : ∀ (w1 : MW) (ad ad' : Nat → Nat), n0 ≤ w1.length → E ad → EA w1.length ad ad' → E ad') (hn0 : n0 ≤ w.length) (vs : List Value) (hvs : L.map (fun q => q.2) ++ S = vs) (hv0 : vs.all (rOK w.length) = true) (k : JW p l e R s m args below meth c nL D dA A E Q (cells + mc) (slots + ms) (pc + 3) L (v.toList ++ S) w') : JW p l e R s m args below meth c nL D dA A E Q cells slots pc L Sc w := by
  obtain ⟨y1, y2, y3, y4, y6, y7⟩ := Y
  exact J_callINA C hd hM hlk y1 y2 y3 y4 y6 hR hcs y7 hb hn hst hW hEE hn0 vs hvs hv0 k
theorem J_iret (C : jcx p s m args meth c cc nL own ret D dA A E) {x y : Int32} {ty : FieldType} {w' : MW} (hr : ret = some ty) (hn : narrow ty (.int x) = .int x) (hd : decode cc pc = .ok (.ireturn, 1)) (hf : some (x, w) = some (y, w')) : JW p l e R s m args below meth c nL D dA A E (MQ below (Qr D dA E (some (.int y)) w' A) args s cells slots A) cells slots pc L [.int x] w := by
  cases hf
  intro ad H locs ls hE hP hD hS hl
  exact W.zret C.1 C.2.1 (C.2.2.2.2.2.2.1.trans hr) hn (fun t ht hW => ⟨ad, hE, rfl, by rw [ht]; exact hP, hD, hS.F ht⟩) hS.2.2 hd C.2.2.2.2.2.2.2.1
theorem J_iretP (C : jcx p s m args meth c cc nL own ret D dA A E) {x y : Int32} {ty : FieldType} (hr : ret = some ty) (hn : narrow ty (.int x) = .int x) (hd : decode cc pc = .ok (.ireturn, 1)) (hf : some x = some y) : JW p l e R s m args below meth c nL D dA A E (MQ below (Qr D dA E (some (.int y)) w A) args s cells slots A) cells slots pc L [.int x] w := J_iret C hr hn hd (by rw [Option.some.inj hf])
theorem J_iretT (C : jcx p s m args meth c cc nL own ret D dA A E) {x y : Int32} {ty : FieldType} (hr : ret = some ty) (hn : narrow ty (.int x) = .int x) (hd : decode cc pc = .ok (.ireturn, 1)) (hf : x = y) : JW p l e R s m args below meth c nL D dA A E (MQ below (Qr D dA E (some (.int y)) w A) args s cells slots A) cells slots pc L [.int x] w := J_iret C hr hn hd (by rw [hf])
theorem J_vret (C : jcx p s m args meth c cc nL own ret D dA A E) {w' : MW} (hr : ret = none) (hd : decode cc pc = .ok (.return_, 1)) (hf : some w = some w') : JW p l e R s m args below meth c nL D dA A E (MQ below (Qr D dA E none w' A) args s cells slots A) cells slots pc L [] w := by
  cases hf
  intro ad H locs ls hE hP hD hS hl
  exact W.vret C.1 C.2.1 (C.2.2.2.2.2.2.1.trans hr) (fun t ht hW => ⟨ad, hE, rfl, by rw [ht]; exact hP, hD, hS.F ht⟩) hS.2.2 hd C.2.2.2.2.2.2.2.1
theorem J_aret (C : jcx p s m args meth c cc nL own ret D dA A E) {x y : Nat} {ty : FieldType} {w' : MW} (hr : ret = some ty) (ho : (∃ n, ty = .object n) ∨ ∃ t, ty = .array t) (hd : decode cc pc = .ok (.areturn, 1)) (hf : some (x, w) = some (y, w')) : JW p l e R s m args below meth c nL D dA A E (MQ below (Qr D dA E (some (.ref y)) w' A) args s cells slots A) cells slots pc L [.ref x] w := by
  cases hf
  intro ad H locs ls hE hP hD hS hl
  exact W.aret C.1 C.2.1 (C.2.2.2.2.2.2.1.trans hr) ho (Or.inr ⟨_, rfl⟩) (fun t ht hW => ⟨ad, hE, rfl, by rw [ht]; exact hP, hD, hS.F ht⟩) hS.2.2 hd C.2.2.2.2.2.2.2.1
theorem J_aretP (C : jcx p s m args meth c cc nL own ret D dA A E) {x y : Nat} {ty : FieldType} (hr : ret = some ty) (ho : (∃ n, ty = .object n) ∨ ∃ t, ty = .array t) (hd : decode cc pc = .ok (.areturn, 1)) (hf : some x = some y) : JW p l e R s m args below meth c nL D dA A E (MQ below (Qr D dA E (some (.ref y)) w A) args s cells slots A) cells slots pc L [.ref x] w := J_aret C hr ho hd (by rw [Option.some.inj hf])
theorem J_aretO (C : jcx p s m args meth c cc nL own ret D dA A E) {x : Nat} {y : Option Nat} {ty : FieldType} (hr : ret = some ty) (ho : (∃ n, ty = .object n) ∨ ∃ t, ty = .array t) (hd : decode cc pc = .ok (.areturn, 1)) (hf : some (some x) = some y) : JW p l e R s m args below meth c nL D dA A E (MQ below (Qr D dA E (some (va_rf y)) w A) args s cells slots A) cells slots pc L [.ref x] w := by
  cases hf
  exact J_aret C hr ho hd rfl
theorem J_aretON (C : jcx p s m args meth c cc nL own ret D dA A E) {y : Option Nat} {ty : FieldType} (hr : ret = some ty) (ho : (∃ n, ty = .object n) ∨ ∃ t, ty = .array t) (hd : decode cc pc = .ok (.areturn, 1)) (hf : some (none : Option Nat) = some y) : JW p l e R s m args below meth c nL D dA A E (MQ below (Qr D dA E (some (va_rf y)) w A) args s cells slots A) cells slots pc L [.null] w := by
  cases hf
  intro ad H locs ls hE hP hD hS hl
  exact W.aret C.1 C.2.1 (C.2.2.2.2.2.2.1.trans hr) ho (Or.inl rfl) (fun t ht hW => ⟨ad, hE, rfl, by rw [ht]; exact hP, hD, hS.F ht⟩) hS.2.2 hd C.2.2.2.2.2.2.2.1
theorem J_widen {k n : Nat} (h1 : cells ≤ k) (h2 : slots ≤ n) (kk : JW p l e R s m args below meth c nL D dA A E Q k n pc L S w) : JW p l e R s m args below meth c nL D dA A E Q cells slots pc L S w := fun ad H locs ls hE hP hD hS hl => W.widen h1 h2 (kk ad H locs ls hE hP hD hS hl)
theorem J_new (C : jcx p s m args meth c cc nL own ret D dA A E) {Cn : String} {T : u_T} {N ci index : Nat} {fs : List Value} {K : MW → Option ρ} (hd : decode cc pc = .ok (.new index, 3)) (hc : vwCl[ci]? = some (Cn, T, N)) (hin : ∀ x ∈ u_ws Cn T N, x ∈ GT) (ty0 : Nat → FieldType) (hty : ∀ k, k < N → parseFieldDescriptor (T k).2.2.1 = some (ty0 k)) (hcl : Cond.classLink own index Cn ∈ GT) (hins : Cond.instantiable Cn N ∈ GT) (hini : Cond.initialized Cn ∈ GT) (hfs : ∀ j, j < N → defaultValue (ty0 j) = vp_V fs j) (hrf : ∀ ad, fs.map (rv ad) = fs) (hcs : cells + 1 ≤ R.cells ∧ slots + N ≤ R.slots) {n0 : Nat} (hEE : ∀ (w1 : MW) (ad ad' : Nat → Nat), n0 ≤ w1.length → E ad → EA w1.length ad ad' → E ad') (vs : List Value) (hvs : L.map (fun q => q.2) ++ S = vs) (hf : (nwC n0 w vs (.inr (ci, fs))).bind K = some r) (k : ∀ w1, K w1 = some r → JW p l e R s m args below meth c nL D dA A E Q (cells + 1) (slots + N) (pc + 3) L (.ref w.length :: S) w1) : JW p l e R s m args below meth c nL D dA A E Q cells slots pc L S w := by
  obtain ⟨w1, h1, h2⟩ := bind_ok hf
  obtain ⟨g1, g2, g3, rfl⟩ := nwC_spec h1
  intro ad H locs ls hE hP hD hS hl
  refine va_new (ci := ci) (fs := fs) (C := Cn) (T := T) (N := N) C.1 C.2.1 C.2.2.2.2.1 hin ty0 hty C.2.2.2.1 (C.2.2.2.2.1 _ hcl) (C.2.2.2.2.1 _ hins) (C.2.2.2.2.1 _ hini) C.2.2.2.2.2.1 hP hD hS C.2.2.2.2.2.2.2.2.1 hc hfs hcs.1 hcs.2 hd (fun q H1 hP1 hD1 hS1 => ?_)
  have hvs1 := hvs
  rw [← hvs1, List.all_append, Bool.and_eq_true] at g2
  have had : EA w.length ad (fun k => if k = w.length then q else ad k) := fun k hk => by
    have := g1.1
    rcases hk with hk | hk
    · exact if_neg (by omega)
    · exact if_neg (by omega)
  generalize hg : (fun k => if k = w.length then q else ad k) = ad' at had
  have hq : ad' w.length = q := by rw [← hg]; exact if_pos rfl
  have ew : wi dA ad w ++ [(q, .inr (ci, fs))] = wi dA ad' (w ++ [.inr (ci, fs)]) := by
    rw [← wi_push, hq, wi_ext g1 had]; show _ = _ ++ [(q, Sum.inr (ci, fs.map (rv ad')))]; rw [hrf]
  have eL : L.map (fun q => (q.1, rv ad' q.2)) = L.map (fun q => (q.1, rv ad q.2)) := by
    apply List.map_congr_left
    intro z hz
    rw [rv_ext (List.all_eq_true.mp g2.1 _ (List.mem_map_of_mem hz)) had]
  have eS : (.ref w.length :: S).map (rv ad') = .ref q :: S.map (rv ad) := by
    show Value.ref (ad' w.length) :: S.map (rv ad') = _
    rw [hq, rvs_ext g2.2 had]
  have := k _ h2 ad' H1 locs ls (hEE w ad ad' g3 hE had) (by rw [← ew]; exact hP1) (by rw [← ew]; exact hD1) hS1 (by rw [eL]; exact hl)
  rw [eS] at this
  exact this
theorem J_newa (C : jcx p s m args meth c cc nL own ret D dA A E) {aty : ArrayType} {ty : FieldType} {x : Int32} {N : Nat} {K : MW → Option ρ} (t0 : Nat) (ht0 : ∀ dA, (tyL dA)[t0]? = some (dA ty, ty)) (hd : decode cc pc = .ok (.newarray aty, 2)) (hty : newarray.typeOf aty = ty) (hw : Cond.arrayClass (newarray.typeOf aty) ∈ GT) (hz : ∀ cA : ClassId, vp_cell cA (N, .inl (fun _ => 0)) = arrV cA N (fun _ => defaultValue ty)) (hra : ∀ cA : ClassId, ∀ U : State, va_RA U cA ty → U.vm.findClass ("[" ++ ty.toString) = some cA) (hn : ¬ x < 0) (hN : x.toNatClampNeg = N) (hby : N * componentBytes ty ≤ 536870912) (hcs : cells + 1 ≤ R.cells ∧ slots + N ≤ R.slots) {n0 : Nat} (hEE : ∀ (w1 : MW) (ad ad' : Nat → Nat), n0 ≤ w1.length → E ad → EA w1.length ad ad' → E ad') (vs : List Value) (hvs : L.map (fun q => q.2) ++ S = vs) (hf : (nwC n0 w vs (.inl (ty, N, .inl (fun _ => 0)))).bind K = some r) (k : ∀ w1, K w1 = some r → JW p l e R s m args below meth c nL D dA A E Q (cells + 1) (slots + N) (pc + 2) L (.ref w.length :: S) w1) : JW p l e R s m args below meth c nL D dA A E Q cells slots pc L (.int x :: S) w := by
  obtain ⟨w1, h1, h2⟩ := bind_ok hf
  obtain ⟨g1, g2, g3, rfl⟩ := nwC_spec h1
  intro ad H locs ls hE hP hD hS hl
  refine va_newa (atype := aty) (a0 := (N, .inl (fun _ => 0))) C.1 C.2.1 (C.2.2.2.2.1 _ hw) hty C.2.2.2.2.2.1 hP hD hS C.2.2.2.2.2.2.2.2.1 hz hn hN hby hcs.1 hcs.2 hd (fun q cA H1 hK1 hP1 hD1 hS1 => ?_)
  have eA : cA = dA ty := by
    have h5 := hra cA s (hK1.2 (tyL dA).length (cA, ty) (by simp)).2
    have h6 := hra (dA ty) s (C.2.2.2.2.2.1.2 t0 _ (ht0 dA)).2
    exact Option.some.inj (h5.symm.trans h6)
  subst eA
  have hvs1 := hvs
  rw [← hvs1, List.all_append, Bool.and_eq_true] at g2
  have had : EA w.length ad (fun k => if k = w.length then q else ad k) := fun k hk => by
    have := g1.1
    rcases hk with hk | hk
    · exact if_neg (by omega)
    · exact if_neg (by omega)
  generalize hg : (fun k => if k = w.length then q else ad k) = ad' at had
  have hq : ad' w.length = q := by rw [← hg]; exact if_pos rfl
  have ew : wi dA ad w ++ [(q, .inl (dA ty, N, .inl (fun _ => 0)))] = wi dA ad' (w ++ [.inl (ty, N, .inl (fun _ => 0))]) := by
    rw [← wi_push, hq, wi_ext g1 had]; rfl
  have eL : L.map (fun q => (q.1, rv ad' q.2)) = L.map (fun q => (q.1, rv ad q.2)) := by
    apply List.map_congr_left
    intro z hz
    rw [rv_ext (List.all_eq_true.mp g2.1 _ (List.mem_map_of_mem hz)) had]
  have eS : (.ref w.length :: S).map (rv ad') = .ref q :: S.map (rv ad) := by
    show Value.ref (ad' w.length) :: S.map (rv ad') = _
    rw [hq, rvs_ext g2.2 had]
  have := k _ h2 ad' H1 locs ls (hEE w ad ad' g3 hE had) (by rw [← ew]; exact hP1) (by rw [← ew]; exact hD1) hS1 (by rw [eL]; exact hl)
  rw [eS] at this
  exact this
theorem J_newq (C : jcx p s m args meth c cc nL own ret D dA A E) {Cn : String} {index : Nat} {x : Int32} {N : Nat} {K : MW → Option ρ} (t0 : Nat) (ht0 : ∀ dA, (tyL dA)[t0]? = some (dA (.object Cn), .object Cn)) (hmem : Cn ∈ [RX0, RX6, RX1]) (hd : decode cc pc = .ok (.anewarray index, 3)) (hcl : Cond.classLink own index Cn ∈ GT) (hn : ¬ x < 0) (hN : x.toNatClampNeg = N) (hby : N * 4 ≤ 536870912) (hcs : cells + 1 ≤ R.cells ∧ slots + N ≤ R.slots) {n0 : Nat} (hEE : ∀ (w1 : MW) (ad ad' : Nat → Nat), n0 ≤ w1.length → E ad → EA w1.length ad ad' → E ad') (vs : List Value) (hvs : L.map (fun q => q.2) ++ S = vs) (hf : (nwC n0 w vs (.inl (.object Cn, N, .inr (.inr (.inr (.inr (fun _ => none))))))).bind K = some r) (k : ∀ w1, K w1 = some r → JW p l e R s m args below meth c nL D dA A E Q (cells + 1) (slots + N) (pc + 3) L (.ref w.length :: S) w1) : JW p l e R s m args below meth c nL D dA A E Q cells slots pc L (.int x :: S) w := by
  obtain ⟨w1, h1, h2⟩ := bind_ok hf
  obtain ⟨g1, g2, g3, rfl⟩ := nwC_spec h1
  intro ad H locs ls hE hP hD hS hl
  refine va_newq (C := Cn) C.1 C.2.1 C.2.2.2.1 (C.2.2.2.2.1 _ hcl) ((C.2.2.2.2.2.2.2.2.2 ad hE).2.2.2.2.1 Cn hmem) C.2.2.2.2.2.1 hP hD hS C.2.2.2.2.2.2.2.2.1 hn hN hby hcs.1 hcs.2 hd (fun q cA H1 hK1 hP1 hD1 hS1 => ?_)
  have eA : cA = dA (.object Cn) := by
    obtain ⟨_, _, -, -, -, h5⟩ := (hK1.2 (tyL dA).length (cA, .object Cn) (by simp)).2
    obtain ⟨_, _, -, -, -, h6⟩ := (C.2.2.2.2.2.1.2 t0 _ (ht0 dA)).2
    exact Option.some.inj (h5.symm.trans h6)
  subst eA
  have hvs1 := hvs
  rw [← hvs1, List.all_append, Bool.and_eq_true] at g2
  have had : EA w.length ad (fun k => if k = w.length then q else ad k) := fun k hk => by
    have := g1.1
    rcases hk with hk | hk
    · exact if_neg (by omega)
    · exact if_neg (by omega)
  generalize hg : (fun k => if k = w.length then q else ad k) = ad' at had
  have hq : ad' w.length = q := by rw [← hg]; exact if_pos rfl
  have ew : wi dA ad w ++ [(q, .inl (dA (.object Cn), N, .inr (.inr (.inr (.inr (fun _ => none))))))] = wi dA ad' (w ++ [.inl (.object Cn, N, .inr (.inr (.inr (.inr (fun _ => none)))))]) := by
    rw [← wi_push, hq, wi_ext g1 had]; rfl
  have eL : L.map (fun q => (q.1, rv ad' q.2)) = L.map (fun q => (q.1, rv ad q.2)) := by
    apply List.map_congr_left
    intro z hz
    rw [rv_ext (List.all_eq_true.mp g2.1 _ (List.mem_map_of_mem hz)) had]
  have eS : (.ref w.length :: S).map (rv ad') = .ref q :: S.map (rv ad) := by
    show Value.ref (ad' w.length) :: S.map (rv ad') = _
    rw [hq, rvs_ext g2.2 had]
  have := k _ h2 ad' H1 locs ls (hEE w ad ad' g3 hE had) (by rw [← ew]; exact hP1) (by rw [← ew]; exact hD1) hS1 (by rw [eL]; exact hl)
  rw [eS] at this
  exact this
end JK
/-- a method's contract out of its body -/
theorem J_met {l : Launch} {D : va_G} {dA : FieldType → ClassId} {y : MethodName} {cc : ByteArray} {maxL : Nat} {ret : Option FieldType} {rm : Room} {as : List Value} {w w' : MW} {v : Option Value} {own : String} (hy : plainName y.cls = true) (ho : y.cls = own) (hlen : (lg_sl as).length ≤ maxL)
    (body : ∀ (p : Program) (e : Env) (s : State) (m : MethodId) (args : Array Value) (below : List Frame) (meth : Method) (c : Code) (A : Nat → Prop) (E : (Nat → Nat) → Prop), jcx p s m args meth c cc maxL own ret D dA A E → JW p l e rm s m args below meth c maxL D dA A E (MQ below (Qr D dA E v w' A) args s 0 0 A) 0 0 0 (lv_args 0 as) [] w) : CT l D dA y cc maxL ret rm as w v w' := by
  intro ad sz
  refine Met.ofW (cc := cc) (maxL := maxL) (ret := ret) hy rfl ?_
  intro p e s m args below meth c s₁ B hml hv
  obtain ⟨rfl, hsz, hP, hK, hD0, hSW⟩ := hv
  subst hsz
  have hD := hD0.self (sz := s.heap.size)
  have hown : s.vm.findClass own = some m.cls := ho ▸ findClass_of_methodNamed B.named
  have hts := atoms_spec (ws := .code y cc maxL ret :: GT) B.pre
  have hl := lv_entry (as.map (rv ad)) (n := maxL) (by rw [rv_slots]; exact hlen)
  rw [lg_entry_eq]
  rw [rv_args] at hl
  exact body p e s m _ below meth c (va_A (wi dA ad w) s.heap.size) (EN ad) ⟨B.exec, B.bytes, hml, hown, fun x hx => hts x (List.mem_cons_of_mem _ hx), hK, B.returns, B.notSynchronized, fun q h => Or.inr h, fun ad' h => by rw [show ad' = ad from h]; exact hSW⟩ ad s.heap [] _ rfl hP hD va_S.rf hl
theorem J_metA {l : Launch} {D : va_G} {dA : FieldType → ClassId} {y : MethodName} {cc : ByteArray} {maxL : Nat} {ret : Option FieldType} {rm : Room} {mc ms : Nat} {as : List Value} {w w' : MW} {v : Option Value} {own : String} (hy : plainName y.cls = true) (ho : y.cls = own) (hlen : (lg_sl as).length ≤ maxL)
    (body : ∀ (p : Program) (e : Env) (s : State) (m : MethodId) (args : Array Value) (below : List Frame) (meth : Method) (c : Code) (A : Nat → Prop) (E : (Nat → Nat) → Prop), jcx p s m args meth c cc maxL own ret D dA A E → meth.name = y.name → (∀ (w1 : MW) (ad ad' : Nat → Nat), w.length ≤ w1.length → E ad → EA w1.length ad ad' → E ad') → JW p l e rm s m args below meth c maxL D dA A E (MQ below (Qr D dA E v w' A) args s mc ms A) 0 0 0 (lv_args 0 as) [] w) : CA l D dA y cc maxL ret rm mc ms as w v w' := by
  intro ad sz
  refine Met.ofW (cc := cc) (maxL := maxL) (ret := ret) hy rfl ?_
  intro p e s m args below meth c s₁ B hml hv
  obtain ⟨rfl, hsz, hP, hK, hD0, hSW⟩ := hv
  subst hsz
  have hD := hD0.self (sz := s.heap.size)
  have hown : s.vm.findClass own = some m.cls := ho ▸ findClass_of_methodNamed B.named
  have hts := atoms_spec (ws := .code y cc maxL ret :: GT) B.pre
  have hl := lv_entry (as.map (rv ad)) (n := maxL) (by rw [rv_slots]; exact hlen)
  rw [lg_entry_eq]
  rw [rv_args] at hl
  exact body p e s m _ below meth c (va_A (wi dA ad w) s.heap.size) (EA w.length ad) ⟨B.exec, B.bytes, hml, hown, fun x hx => hts x (List.mem_cons_of_mem _ hx), hK, B.returns, B.notSynchronized, fun q h => Or.inr h, fun ad' h => hSW.ad (fun k hk => h k (Or.inr hk))⟩ (name_of_methodNamed B.named B.method).1 (fun w1 a1 a2 h1 h2 h3 k hk => (h3 k (hk.elim (fun h => Or.inl (Nat.lt_of_lt_of_le h h1)) Or.inr)).trans (h2 k hk)) ad s.heap [] _ (fun _ _ => rfl) hP hD va_S.rf hl
