/-! A WORLD as a list of cells whose references are places in that list; the rules that turn the machine's judgement into one over such worlds -/
abbrev MC : Type := (FieldType × vp_A) ⊕ (Nat × List Value)
abbrev MW : Type := List MC
/-- a value, its place turned into an address -/
def rv (ad : Nat → Nat) : Value → Value
  | .ref k => .ref (ad k)
  | .int x => .int x
  | .long x => .long x
  | .null => .null
  | v => v
def av (ad : Nat → Nat) : vp_A → vp_A
  | (n, .inr (.inr (.inr (.inr f)))) => (n, .inr (.inr (.inr (.inr (fun j => (f j).map ad)))))
  | (n, .inl f) => (n, .inl f)
  | a => a
def cv (dA : FieldType → ClassId) (ad : Nat → Nat) : MC → va_E
  | .inl (ty, a) => .inl (dA ty, av ad a)
  | .inr (c, fs) => .inr (c, fs.map (rv ad))
def wi (dA : FieldType → ClassId) (ad : Nat → Nat) (w : MW) : va_W := w.mapIdx (fun k c => (ad k, cv dA ad c))
theorem wi_at {dA : FieldType → ClassId} {ad : Nat → Nat} {w : MW} {k : Nat} {c : MC} (h : w[k]? = some c) : (wi dA ad w)[k]? = some (ad k, cv dA ad c) := by
  simp [wi, h]
theorem wi_set {dA : FieldType → ClassId} {ad : Nat → Nat} (w : MW) (k : Nat) (c : MC) : (wi dA ad w).set k (ad k, cv dA ad c) = wi dA ad (w.set k c) := by
  simp [wi, List.mapIdx_set]
theorem wi_push {dA : FieldType → ClassId} {ad : Nat → Nat} (w : MW) (c : MC) : wi dA ad w ++ [(ad w.length, cv dA ad c)] = wi dA ad (w ++ [c]) := by
  simp [wi, List.mapIdx_append]
theorem rv_cat (ad : Nat → Nat) (v : Value) : (rv ad v).category = v.category := by cases v <;> rfl
/-- reading and writing -/
def gI (w : MW) (c h k : Nat) : Option Int32 := match w[h]? with
  | some (.inr (c', fs)) => if c' = c then (match fs[k]? with | some (.int x) => some x | _ => none) else none
  | _ => none
def gJ (w : MW) (c h k : Nat) : Option Int64 := match w[h]? with
  | some (.inr (c', fs)) => if c' = c then (match fs[k]? with | some (.long x) => some x | _ => none) else none
  | _ => none
def gR (w : MW) (c h k : Nat) : Option Nat := match w[h]? with
  | some (.inr (c', fs)) => if c' = c then (match fs[k]? with | some (.ref x) => some x | _ => none) else none
  | _ => none
def pV (w : MW) (c h k : Nat) (v : Value) : Option MW := match w[h]? with
  | some (.inr (c', fs)) => if c' = c ∧ k < fs.length then some (w.set h (.inr (c, fs.set k v))) else none
  | _ => none
def aI (w : MW) (ty : FieldType) (a : Nat) (i : Int32) : Option Int32 := match w[a]? with
  | some (.inl (ty', n, .inl f)) => if ty' = ty ∧ 0 ≤ i ∧ i.toNatClampNeg < n then some (f i.toNatClampNeg) else none
  | _ => none
def aR (w : MW) (ty : FieldType) (a : Nat) (i : Int32) : Option (Option Nat) := match w[a]? with
  | some (.inl (ty', n, .inr (.inr (.inr (.inr f))))) => if ty' = ty ∧ 0 ≤ i ∧ i.toNatClampNeg < n then some (f i.toNatClampNeg) else none
  | _ => none
def sI (w : MW) (ty : FieldType) (a : Nat) (i x : Int32) : Option MW := match w[a]? with
  | some (.inl (ty', n, .inl f)) => if ty' = ty ∧ 0 ≤ i ∧ i.toNatClampNeg < n then some (w.set a (.inl (ty, n, .inl (upd f i.toNatClampNeg x)))) else none
  | _ => none
def sR (w : MW) (C : String) (ci : Nat) (a : Nat) (i : Int32) (x : Nat) : Option MW := match w[a]?, w[x]? with
  | some (.inl (ty', n, .inr (.inr (.inr (.inr f))))), some (.inr (c', _)) => if ty' = .object C ∧ c' = ci ∧ 0 ≤ i ∧ i.toNatClampNeg < n then some (w.set a (.inl (.object C, n, .inr (.inr (.inr (.inr (va_up f i.toNatClampNeg (some x)))))))) else none
  | _, _ => none
def aL (w : MW) (ty : FieldType) (a : Nat) : Option Int32 := match w[a]? with
  | some (.inl (ty', x)) => if ty' = ty then some (Int32.ofNat x.1) else none
  | _ => none
/-- System.arraycopy between arrays of whole numbers -/
def cpI (w : MW) (ty : FieldType) (a0 : Nat) (sp : Int32) (a1 : Nat) (dp n : Int32) : Option MW := match w[a0]?, w[a1]? with
  | some (.inl (t0, n0, .inl f)), some (.inl (t1, n1, .inl g)) =>
    if t0 = ty ∧ t1 = ty ∧ 0 ≤ sp ∧ 0 ≤ dp ∧ 0 ≤ n ∧ sp.toNatClampNeg + n.toNatClampNeg ≤ n0 ∧ dp.toNatClampNeg + n.toNatClampNeg ≤ n1 ∧ (∀ i, i < n.toNatClampNeg → fits ty (.int (f (sp.toNatClampNeg + i))) = true)
    then some (w.set a1 (.inl (ty, n1, .inl (va_cpy f g sp.toNatClampNeg dp.toNatClampNeg n.toNatClampNeg)))) else none
  | _, _ => none
/-- a call's receiver is an object of class ci -/
def cl {α : Type} (w : MW) (ci b : Nat) (x : Option α) : Option α := match w[b]? with
  | some (.inr (c', _)) => if c' = ci then x else none
  | _ => none
/-- a name for a value -/
def bnd {α β : Type} (x : α) (k : α → β) : β := k x
def rOK (n : Nat) : Value → Bool
  | .ref k => decide (k < n) || decide (10000 ≤ k)
  | _ => true
def cOK (n : Nat) : MC → Prop
  | .inl (_, _, .inr (.inr (.inr (.inr f)))) => ∀ j k, f j = some k → k < n
  | .inl _ => True
  | .inr (_, fs) => fs.all (rOK n) = true
/-- all references are to cells of the world -/
def wOK (w : MW) : Prop := w.length < 10000 ∧ ∀ c ∈ w, cOK w.length c
/-- a new cell; vs: the values that are held elsewhere -/
noncomputable def nwC (n0 : Nat) (w : MW) (vs : List Value) (c : MC) : Option MW := @ite _ (wOK w ∧ vs.all (rOK w.length) = true ∧ n0 ≤ w.length) (Classical.propDecidable _) (some (w ++ [c])) none
theorem gI_spec {w : MW} {c h k : Nat} {x : Int32} (e : gI w c h k = some x) : ∃ fs, w[h]? = some (.inr (c, fs)) ∧ fs[k]? = some (.int x) := by
  unfold gI at e
  split at e
  · rename_i c' fs hw
    split at e
    · rename_i hc
      subst hc
      split at e
      · rename_i y hy
        cases e
        exact ⟨fs, hw, hy⟩
      · cases e
    · cases e
  · cases e
theorem gJ_spec {w : MW} {c h k : Nat} {x : Int64} (e : gJ w c h k = some x) : ∃ fs, w[h]? = some (.inr (c, fs)) ∧ fs[k]? = some (.long x) := by
  unfold gJ at e
  split at e
  · rename_i c' fs hw
    split at e
    · rename_i hc
      subst hc
      split at e
      · rename_i y hy
        cases e
        exact ⟨fs, hw, hy⟩
      · cases e
    · cases e
  · cases e
theorem gR_spec {w : MW} {c h k : Nat} {x : Nat} (e : gR w c h k = some x) : ∃ fs, w[h]? = some (.inr (c, fs)) ∧ fs[k]? = some (.ref x) := by
  unfold gR at e
  split at e
  · rename_i c' fs hw
    split at e
    · rename_i hc
      subst hc
      split at e
      · rename_i y hy
        cases e
        exact ⟨fs, hw, hy⟩
      · cases e
    · cases e
  · cases e
theorem pV_spec {w w1 : MW} {c h k : Nat} {v : Value} (e : pV w c h k v = some w1) : ∃ fs, w[h]? = some (.inr (c, fs)) ∧ k < fs.length ∧ w1 = w.set h (.inr (c, fs.set k v)) := by
  unfold pV at e
  split at e
  · rename_i c' fs hw
    split at e
    · rename_i hc
      obtain ⟨rfl, hk⟩ := hc
      cases e
      exact ⟨fs, hw, hk, rfl⟩
    · cases e
  · cases e
theorem aI_spec {w : MW} {ty : FieldType} {a : Nat} {i x : Int32} (e : aI w ty a i = some x) : ∃ n f, w[a]? = some (.inl (ty, n, .inl f)) ∧ vp_in i n ∧ x = f i.toNatClampNeg := by
  unfold aI at e
  split at e
  · rename_i ty' n f hw
    split at e
    · rename_i hc
      obtain ⟨rfl, h1, h2⟩ := hc
      cases e
      exact ⟨n, f, hw, fun h => h.elim (fun h => absurd h1 (Int32.not_le.mpr h)) (fun h => absurd h2 (Nat.not_lt.mpr h)), rfl⟩
    · cases e
  · cases e
theorem aR_spec {w : MW} {ty : FieldType} {a : Nat} {i : Int32} {x : Option Nat} (e : aR w ty a i = some x) : ∃ n f, w[a]? = some (.inl (ty, n, .inr (.inr (.inr (.inr f))))) ∧ vp_in i n ∧ x = f i.toNatClampNeg := by
  unfold aR at e
  split at e
  · rename_i ty' n f hw
    split at e
    · rename_i hc
      obtain ⟨rfl, h1, h2⟩ := hc
      cases e
      exact ⟨n, f, hw, fun h => h.elim (fun h => absurd h1 (Int32.not_le.mpr h)) (fun h => absurd h2 (Nat.not_lt.mpr h)), rfl⟩
    · cases e
  · cases e
theorem sI_spec {w w1 : MW} {ty : FieldType} {a : Nat} {i x : Int32} (e : sI w ty a i x = some w1) : ∃ n f, w[a]? = some (.inl (ty, n, .inl f)) ∧ vp_in i n ∧ w1 = w.set a (.inl (ty, n, .inl (upd f i.toNatClampNeg x))) := by
  unfold sI at e
  split at e
  · rename_i ty' n f hw
    split at e
    · rename_i hc
      obtain ⟨rfl, h1, h2⟩ := hc
      cases e
      exact ⟨n, f, hw, fun h => h.elim (fun h => absurd h1 (Int32.not_le.mpr h)) (fun h => absurd h2 (Nat.not_lt.mpr h)), rfl⟩
    · cases e
  · cases e
theorem sR_spec {w w1 : MW} {C : String} {ci a : Nat} {i : Int32} {x : Nat} (e : sR w C ci a i x = some w1) : ∃ n f fs, w[a]? = some (.inl (.object C, n, .inr (.inr (.inr (.inr f))))) ∧ w[x]? = some (.inr (ci, fs)) ∧ vp_in i n ∧ w1 = w.set a (.inl (.object C, n, .inr (.inr (.inr (.inr (va_up f i.toNatClampNeg (some x))))))) := by
  unfold sR at e
  split at e
  · rename_i ty' n f c' fs hw hx
    split at e
    · rename_i hc
      obtain ⟨rfl, rfl, h1, h2⟩ := hc
      cases e
      exact ⟨n, f, fs, hw, hx, fun h => h.elim (fun h => absurd h1 (Int32.not_le.mpr h)) (fun h => absurd h2 (Nat.not_lt.mpr h)), rfl⟩
    · cases e
  · cases e
theorem aL_spec {w : MW} {ty : FieldType} {a : Nat} {x : Int32} (e : aL w ty a = some x) : ∃ y, w[a]? = some (.inl (ty, y)) ∧ x = Int32.ofNat y.1 := by
  unfold aL at e
  split at e
  · rename_i ty' y hw
    split at e
    · rename_i hc
      subst hc
      cases e
      exact ⟨y, hw, rfl⟩
    · cases e
  · cases e
theorem cl_spec {α : Type} {w : MW} {ci b : Nat} {x : Option α} {y : α} (e : cl w ci b x = some y) : ∃ fs, w[b]? = some (.inr (ci, fs)) ∧ x = some y := by
  unfold cl at e
  split at e
  · rename_i c' fs hw
    split at e
    · rename_i hc
      subst hc
      exact ⟨fs, hw, e⟩
    · cases e
  · cases e
theorem cpI_spec {w w1 : MW} {ty : FieldType} {a0 a1 : Nat} {sp dp n : Int32} (e : cpI w ty a0 sp a1 dp n = some w1) : ∃ n0 f n1 g, w[a0]? = some (.inl (ty, n0, .inl f)) ∧ w[a1]? = some (.inl (ty, n1, .inl g)) ∧ ¬ sp < 0 ∧ ¬ dp < 0 ∧ ¬ n < 0 ∧ sp.toNatClampNeg + n.toNatClampNeg ≤ n0 ∧ dp.toNatClampNeg + n.toNatClampNeg ≤ n1 ∧ (∀ i, i < n.toNatClampNeg → fits ty (.int (f (sp.toNatClampNeg + i))) = true) ∧ w1 = w.set a1 (.inl (ty, n1, .inl (va_cpy f g sp.toNatClampNeg dp.toNatClampNeg n.toNatClampNeg))) := by
  unfold cpI at e
  split at e
  · rename_i t0 n0 f t1 n1 g hw0 hw1
    split at e
    · rename_i hc
      obtain ⟨rfl, rfl, h1, h2, h3, h4, h5, h6⟩ := hc
      cases e
      exact ⟨n0, f, n1, g, hw0, hw1, Int32.not_lt.mpr h1, Int32.not_lt.mpr h2, Int32.not_lt.mpr h3, h4, h5, h6, rfl⟩
    · cases e
  · cases e
/-- the tables' words that hold at every state of the run; those of nest mates -/
def GT : List Cond := lw_tbl.filter goodWord
def isNest : Cond → Bool
  | .fieldLinkNest _ _ _ _ _ _ => true
  | .methodLinkNest _ _ _ _ => true
  | _ => false
def NT : List Cond := lw_tbl.filter isNest
theorem mGT (i : Nat) {x : Cond} (h : lw_tbl[i]? = some x) (hg : goodWord x = true) : x ∈ GT := List.mem_filter.mpr ⟨List.mem_of_getElem? h, hg⟩
theorem mNT (i : Nat) {x : Cond} (h : lw_tbl[i]? = some x) (hg : isNest x = true) : x ∈ NT := List.mem_filter.mpr ⟨List.mem_of_getElem? h, hg⟩
theorem GT_good : ∀ x ∈ GT, (x.onTables && x.keeps) = true ∨ ∃ ty, x = .arrayClass ty := fun _ h => good_of_word (List.mem_filter.mp h).2
theorem GT_in {x : Cond} (hx : x ∈ GT) : GoodIn GT (x :: GT) := fun y hy => by
  rcases List.mem_cons.mp hy with rfl | h
  · exact ⟨hx, GT_good _ hx⟩
  · exact ⟨h, GT_good _ h⟩
/-- the class's texts -/
def sIx : List Nat := [78, 84, 86, 88, 90, 92, 94, 101, 103, 105, 107, 109, 111]
def sTx : List String := ["set", "mark", "cut", "join", "melt", "shift", "move", "s", "skk", "sks", "sb", "skks", "ss"]
def sLn : List Nat := [3, 4, 3, 4, 4, 5, 4, 1, 3, 3, 2, 4, 2]
def sBy : List (List Int32) := [[115, 101, 116], [109, 97, 114, 107], [99, 117, 116], [106, 111, 105, 110], [109, 101, 108, 116], [115, 104, 105, 102, 116], [109, 111, 118, 101], [115], [115, 107, 107], [115, 107, 115], [115, 98], [115, 107, 107, 115], [115, 115]]
/-- what stays as it is at every state: links of nest mates, texts, and a static of String's -/
def SW (ad : Nat → Nat) (A : Nat → Prop) (U : State) (H : Heap) : Prop :=
  (∀ x ∈ NT, va_Nw x U) ∧ (∀ i, i < 13 → vk_R RX5 (sIx.getD i 0) (sTx.getD i "") (ad (10000 + i)) U) ∧ vk_S 13 sLn sBy (fun i => ad (10000 + i)) (fun i => ad (20000 + i)) A U H ∧ va_Z "java/lang/String" "COMPACT_STRINGS" "Z" (.int 1) A U H ∧ (∀ C ∈ [RX0, RX6, RX1], va_AO C U) ∧ (va_Z "jdk/internal/util/Preconditions" "SIOOBE_FORMATTER" "Ljava/util/function/BiFunction;" .null A U H ∨ va_Z "jdk/internal/util/Preconditions" "SIOOBE_FORMATTER" "Ljava/util/function/BiFunction;" (.ref (ad 30000)) A U H)
theorem SW.warm {ad : Nat → Nat} {A : Nat → Prop} {s U : State} {H : Heap} (hW : s.WarmedH U.vm) (h : SW ad A s H) : SW ad A U H := by
  obtain ⟨h1, h2, h3, h4, h5, h6⟩ := h
  refine ⟨fun x hx => ?_, fun i hi => (h2 i hi).warm hW, h3.moved hW.alike, h4.moved hW.alike, fun C hC => (h5 C hC).moved hW.alike, h6.imp (fun h => h.moved hW.alike) (fun h => h.moved hW.alike)⟩
  have hn := (List.mem_filter.mp hx).2
  have hb := h1 x hx
  cases x <;> first | exact va_Nw.warmF hW hb | exact va_Nw.warmM hW hb | exact absurd hn (by simp [isNest])
theorem SW.kept {ad : Nat → Nat} {A : Nat → Prop} {U : State} {H H1 : Heap} (h : SW ad A U H) (hq : ∀ a : Nat, a < H.size → ¬ A a → H1[a]? = H[a]?) : SW ad A U H1 := by
  obtain ⟨h1, h2, h3, h4, h5, h6⟩ := h
  exact ⟨h1, h2, h3.kept hq, h4.kept hq, h5, h6.imp (fun h => h.kept hq) (fun h => h.kept hq)⟩
theorem SW.narrow {ad : Nat → Nat} {A B : Nat → Prop} {U : State} {H : Heap} (h : SW ad A U H) (hAB : ∀ q, B q → A q) : SW ad B U H := by
  obtain ⟨h1, h2, h3, h4, h5, h6⟩ := h
  exact ⟨h1, h2, h3.narrow hAB, h4.narrow hAB, h5, h6.imp (fun h => h.narrow hAB) (fun h => h.narrow hAB)⟩
theorem SW.calling {ad : Nat → Nat} {A : Nat → Prop} {U : State} {H : Heap} {g : JFrame} {mk : MethodId} {a : Array Value} (h : SW ad A U H) : SW ad A (U.calling g mk a) H := by
  obtain ⟨h1, h2, h3, h4, h5, h6⟩ := h
  refine ⟨fun x hx => ?_, fun i hi => (h2 i hi).same (U := U.calling g mk a) rfl, h3.moved (U := U.calling g mk a) (Vm.Alike.refl U.vm), h4.moved (U := U.calling g mk a) (Vm.Alike.refl U.vm), fun C hC => (h5 C hC).moved (U := U.calling g mk a) (Vm.Alike.refl U.vm), h6.imp (fun h => h.moved (U := U.calling g mk a) (Vm.Alike.refl U.vm)) (fun h => h.moved (U := U.calling g mk a) (Vm.Alike.refl U.vm))⟩
  have hn := (List.mem_filter.mp hx).2
  refine va_Nw.same ?_ (rfl : U.vm = (U.calling g mk a).vm) (h1 x hx)
  cases x <;> first | rfl | exact absurd hn (by simp [isNest])
theorem SW.ad {ad ad' : Nat → Nat} {A : Nat → Prop} {U : State} {H : Heap} (h : SW ad A U H) (e : ∀ k, 10000 ≤ k → ad' k = ad k) : SW ad' A U H := by
  obtain ⟨h1, h2, h3, h4, h5, h6⟩ := h
  have e2 : (fun i => ad' (10000 + i)) = fun i => ad (10000 + i) := funext fun i => e _ (Nat.le_add_right _ _)
  have e3 : (fun i => ad' (20000 + i)) = fun i => ad (20000 + i) := funext fun i => e _ (by omega)
  refine ⟨h1, fun i hi => ?_, ?_, h4, h5, by rw [e 30000 (by omega)]; exact h6⟩
  · rw [e _ (Nat.le_add_right _ _)]; exact h2 i hi
  · rw [e2, e3]; exact h3
def tyL (dA : FieldType → ClassId) : List (ClassId × FieldType) := [(dA .int, .int), (dA .byte, .byte), (dA .boolean, .boolean), (dA (.object RX0), .object RX0), (dA (.object RX6), .object RX6), (dA (.object RX1), .object RX1)]
/-- what holds all through a method's body -/
def jcx (p : Program) (s : State) (m : MethodId) (args : Array Value) (meth : Method) (c : Code) (cc : ByteArray) (nL : Nat) (own : String) (ret : Option FieldType) (D : va_G) (dA : FieldType → ClassId) (A : Nat → Prop) (E : (Nat → Nat) → Prop) : Prop :=
  p.tables.exec = Jvm.exec ∧ c.code = cc ∧ c.maxLocals = nL ∧ s.vm.findClass own = some m.cls ∧ (∀ x ∈ GT, x.before args s = true) ∧ va_K D vwCl (tyL dA) s ∧ meth.sig.returnType = ret ∧ meth.locks = false ∧ (∀ q, s.heap.size ≤ q → A q) ∧ (∀ ad, E ad → SW ad A s s.heap)
/-- the machine's judgement over a world -/
def JW (p : Program) (l : Launch) (e : Env) (R : Room) (s : State) (m : MethodId) (args : Array Value) (below : List Frame) (meth : Method) (c : Code) (nL : Nat) (D : va_G) (dA : FieldType → ClassId) (A : Nat → Prop) (E : (Nat → Nat) → Prop) (Q : State → Prop) (cells slots pc : Nat) (L : List (Nat × Value)) (S : List Value) (w : MW) : Prop :=
  ∀ (ad : Nat → Nat) (H : Heap) (locs : List Loc) (ls : Array Slot), E ad → va_P D vwCl (wi dA ad w) H → va_D A (wi dA ad w) → va_S A s.heap H locs → lv_has ls nL (L.map (fun q => (q.1, rv ad q.2))) → W p l e R s m args below meth c H locs cells slots Q (F0 m pc ls (S.map (rv ad)))
/-- a method's end -/
def Qr (D : va_G) (dA : FieldType → ClassId) (E : (Nat → Nat) → Prop) (r : Option Value) (w' : MW) (A : Nat → Prop) : Array Value → State → Outcome → State → Prop := fun _ st o t =>
  ∃ ad, E ad ∧ o = .returned (r.map (rv ad)) ∧ va_P D vwCl (wi dA ad w') t.heap ∧ va_D A (wi dA ad w') ∧ va_F A st t
/-- a method's start -/
def Pj (D : va_G) (dA : FieldType → ClassId) (ad : Nat → Nat) (as : List Value) (w : MW) (sz : Nat) : Array Value → State → Prop :=
  va_Pc (as.map (rv ad)) (fun U => U.heap.size = sz ∧ va_P D vwCl (wi dA ad w) U.heap ∧ va_K D vwCl (tyL dA) U ∧ va_D (fun _ => True) (wi dA ad w) ∧ SW ad (va_A (wi dA ad w) sz) U U.heap)
def EN (ad : Nat → Nat) : (Nat → Nat) → Prop := fun ad' => ad' = ad
def EA (n : Nat) (ad : Nat → Nat) : (Nat → Nat) → Prop := fun ad' => ∀ k, (k < n ∨ 10000 ≤ k) → ad' k = ad k
/-- a method's contract: it makes no cell -/
def CT (l : Launch) (D : va_G) (dA : FieldType → ClassId) (y : MethodName) (cc : ByteArray) (maxL : Nat) (ret : Option FieldType) (rm : Room) (as : List Value) (w : MW) (r : Option Value) (w' : MW) : Prop :=
  ∀ (ad : Nat → Nat) (sz : Nat), Met l y (.code y cc maxL ret :: GT) rm (Pj D dA ad as w sz) (Qr D dA (EN ad) r w' (va_A (wi dA ad w) sz)) 0 0 (va_A (wi dA ad w) sz)
/-- a method's contract: it makes cells -/
def CA (l : Launch) (D : va_G) (dA : FieldType → ClassId) (y : MethodName) (cc : ByteArray) (maxL : Nat) (ret : Option FieldType) (rm : Room) (mc ms : Nat) (as : List Value) (w : MW) (r : Option Value) (w' : MW) : Prop :=
  ∀ (ad : Nat → Nat) (sz : Nat), Met l y (.code y cc maxL ret :: GT) rm (Pj D dA ad as w sz) (Qr D dA (EA w.length ad) r w' (va_A (wi dA ad w) sz)) mc ms (va_A (wi dA ad w) sz)
