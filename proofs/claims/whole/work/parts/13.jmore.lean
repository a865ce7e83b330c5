def zr (ty : FieldType) (x : Int32) : Option Int32 := if narrow ty (.int x) = .int x then some x else none
theorem zr_spec {ty : FieldType} {x z : Int32} (h : zr ty x = some z) : narrow ty (.int x) = .int x ∧ z = x := by
  unfold zr at h
  split at h
  · rename_i hc; cases h; exact ⟨hc, rfl⟩
  · cases h
def stL (b : Nat) : Option Int32 := if 10000 ≤ b ∧ b < 10013 then some (nI (sLn.getD (b - 10000) 0)) else none
def stC (b : Nat) (i : Int32) : Option Int32 := if 10000 ≤ b ∧ b < 10013 ∧ 0 ≤ i ∧ i.toNatClampNeg < sLn.getD (b - 10000) 0 then some ((sBy.getD (b - 10000) []).getD i.toNatClampNeg 0) else none
section JX
variable {p : Program} {l : Launch} {e : Env} {R : Room} {s : State} {m : MethodId} {args : Array Value} {below : List Frame} {meth : Method} {c : Code} {Q : State → Prop} {cells slots : Nat}
variable {cc : ByteArray} {nL : Nat} {own : String} {ret : Option FieldType} {D : va_G} {dA : FieldType → ClassId} {A : Nat → Prop} {E : (Nat → Nat) → Prop}
variable {pc : Nat} {L : List (Nat × Value)} {S : List Value} {w : MW} {ρ : Type} {r : ρ}
theorem J_storeL (C : jcx p s m args meth c cc nL own ret D dA A E) {n : Fin 4} {i : Nat} {v : Int32} (hd : decode cc pc = .ok (.istore_n n, 1)) (hi : (n : Nat) = i) (hn : i < nL) (L1 : List (Nat × Value)) (hL : lst i (.int v) L = L1) (k : JW p l e R s m args below meth c nL D dA A E Q cells slots (pc + 1) L1 S w) : JW p l e R s m args below meth c nL D dA A E Q cells slots pc L (.int v :: S) w := by
  subst hL
  exact fun ad H locs ls hE hP hD hS hl => lv_istore_n C.1 C.2.1 hd hi hl hn rfl (fun ls hl => k ad H locs ls hE hP hD hS (by rw [lvm_fil] at hl; exact hl))
theorem J_idivL (C : jcx p s m args meth c cc nL own ret D dA A E) {x y : Int32} (hd : decode cc pc = .ok (.idiv, 1)) (h : ¬ y = 0) (k : JW p l e R s m args below meth c nL D dA A E Q cells slots (pc + 1) L (.int (x / y) :: S) w) : JW p l e R s m args below meth c nL D dA A E Q cells slots pc L (.int y :: .int x :: S) w := fun ad H locs ls hE hP hD hS hl => lv_idiv C.1 C.2.1 hd h (k ad H locs ls hE hP hD hS hl)
theorem J_iremL (C : jcx p s m args meth c cc nL own ret D dA A E) {x y : Int32} (hd : decode cc pc = .ok (.irem, 1)) (h : ¬ y = 0) (k : JW p l e R s m args below meth c nL D dA A E Q cells slots (pc + 1) L (.int (x - x / y * y) :: S) w) : JW p l e R s m args below meth c nL D dA A E Q cells slots pc L (.int y :: .int x :: S) w := fun ad H locs ls hE hP hD hS hl => lv_irem C.1 C.2.1 hd h (k ad H locs ls hE hP hD hS hl)
theorem J_iincL (C : jcx p s m args meth c cc nL own ret D dA A E) {i : Nat} {n : Int} {x v : Int32} (hd : decode cc pc = .ok (.iinc i n, 3)) (j : Nat) (hj : L[j]? = some (i, .int x)) (hv : x + Int32.ofInt n = v) (hn : i < nL) (L1 : List (Nat × Value)) (hL : lst i (.int v) L = L1) (k : JW p l e R s m args below meth c nL D dA A E Q cells slots (pc + 3) L1 S w) : JW p l e R s m args below meth c nL D dA A E Q cells slots pc L S w := fun ad H locs ls hE hP hD hS hl => lv_iinc C.1 C.2.1 hd hl (k := j) (by rw [List.getElem?_map, hj]; rfl) hv hn rfl (fun ls hl => k ad H locs ls hE hP hD hS (by rw [← hL]; rw [lvm_fil] at hl; exact hl))
theorem J_stL (C : jcx p s m args meth c cc nL own ret D dA A E) {index b : Nat} {K : Int32 → Option ρ} (hd : decode cc pc = .ok (.invokevirtual index, 3)) (hlk : Cond.methodLink own index yJ0_length_8abf5 ∈ GT) (hR : 6 ≤ R.frames ∧ 153 ≤ R.locals) (hcs : cells ≤ R.cells ∧ slots ≤ R.slots) (hW : ∀ ad, ((S.map (rv ad)).map fun v => v.category).sum ≤ 8) (hf : (stL b).bind K = some r) (k : ∀ v, K v = some r → JW p l e R s m args below meth c nL D dA A E Q cells slots (pc + 3) L (.int v :: S) w) : JW p l e R s m args below meth c nL D dA A E Q cells slots pc L (.ref b :: S) w := by
  sorry
theorem J_stC (C : jcx p s m args meth c cc nL own ret D dA A E) {index b : Nat} {i : Int32} {K : Int32 → Option ρ} (hd : decode cc pc = .ok (.invokevirtual index, 3)) (hlk : Cond.methodLink own index yJ0_charAt_5068e ∈ GT) (hR : 6 ≤ R.frames ∧ 153 ≤ R.locals) (hcs : cells ≤ R.cells ∧ slots ≤ R.slots) (hW : ∀ ad, ((S.map (rv ad)).map fun v => v.category).sum ≤ 8) (hf : (stC b i).bind K = some r) (k : ∀ v, K v = some r → JW p l e R s m args below meth c nL D dA A E Q cells slots (pc + 3) L (.int v :: S) w) : JW p l e R s m args below meth c nL D dA A E Q cells slots pc L (.int i :: .ref b :: S) w := by
  sorry
end JX
theorem J_metI {l : Launch} {D : va_G} {dA : FieldType → ClassId} {y : MethodName} {cc : ByteArray} {maxL : Nat} {ret : Option FieldType} {rm : Room} {as : List Value} {w w' : MW} {v : Option Value} {own : String} (hy : plainName y.cls = true) (ho : y.cls = own) (hlen : (lg_sl as).length ≤ maxL)
    (body : ∀ (p : Program) (e : Env) (s : State) (m : MethodId) (args : Array Value) (below : List Frame) (meth : Method) (c : Code) (A : Nat → Prop) (E : (Nat → Nat) → Prop), jcx p s m args meth c cc maxL own ret D dA A E → meth.name = y.name → JW p l e rm s m args below meth c maxL D dA A E (MQ below (Qr D dA E v w' A) args s 0 0 A) 0 0 0 (lv_args 0 as) [] w) : CT l D dA y cc maxL ret rm as w v w' := by
  intro ad sz
  refine Met.ofW (cc := cc) (maxL := maxL) (ret := ret) hy rfl ?_
  intro p e s m args below meth c s₁ B hml hv
  obtain ⟨rfl, hsz, hP, hK, hD0, hSW⟩ := hv
  subst hsz
  have hD := hD0.self (sz := s.heap.size)
  have hown : s.vm.findClass own = some m.cls := ho ▸ findClass_of_methodNamed B.named
  have hts := atoms_spec (ws := .code y cc maxL ret :: GT) B.pre
  have hl := lv_entry (as.map (rv ad)) (n := maxL) (by rw [rv_slots]; exact hlen)
  rw [lg_entry_eq]
  rw [rv_args] at hl
  exact body p e s m _ below meth c (va_A (wi dA ad w) s.heap.size) (EN ad) ⟨B.exec, B.bytes, hml, hown, fun x hx => hts x (List.mem_cons_of_mem _ hx), hK, B.returns, B.notSynchronized, fun q h => Or.inr h, fun ad' h => by rw [show ad' = ad from h]; exact hSW⟩ (name_of_methodNamed B.named B.method).1 ad s.heap [] _ rfl hP hD va_S.rf hl
