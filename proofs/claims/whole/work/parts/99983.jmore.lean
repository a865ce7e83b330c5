section JX
variable {p : Program} {l : Launch} {e : Env} {R : Room} {s : State} {m : MethodId} {args : Array Value} {below : List Frame} {meth : Method} {c : Code} {Q : State → Prop} {cells slots : Nat}
variable {cc : ByteArray} {nL : Nat} {own : String} {ret : Option FieldType} {D : va_G} {dA : FieldType → ClassId} {A : Nat → Prop} {E : (Nat → Nat) → Prop}
variable {pc : Nat} {L : List (Nat × Value)} {S : List Value} {w : MW} {ρ : Type} {r : ρ}
theorem J_storeL (C : jcx p s m args meth c cc nL own ret D dA A E) {n : Fin 4} {i : Nat} {v : Int32} (hd : decode cc pc = .ok (.istore_n n, 1)) (hi : (n : Nat) = i) (hn : i < nL) (L1 : List (Nat × Value)) (hL : lst i (.int v) L = L1) (k : JW p l e R s m args below meth c nL D dA A E Q cells slots (pc + 1) L1 S w) : JW p l e R s m args below meth c nL D dA A E Q cells slots pc L (.int v :: S) w := by
  subst hL
  exact fun ad H locs ls hE hP hD hS hl => lv_istore_n C.1 C.2.1 hd hi hl hn rfl (fun ls hl => k ad H locs ls hE hP hD hS (by rw [lvm_fil] at hl; exact hl))
theorem J_idivL (C : jcx p s m args meth c cc nL own ret D dA A E) {x y : Int32} (hd : decode cc pc = .ok (.idiv, 1)) (h : ¬ y = 0) (k : JW p l e R s m args below meth c nL D dA A E Q cells slots (pc + 1) L (.int (x / y) :: S) w) : JW p l e R s m args below meth c nL D dA A E Q cells slots pc L (.int y :: .int x :: S) w := fun ad H locs ls hE hP hD hS hl => lv_idiv C.1 C.2.1 hd h (k ad H locs ls hE hP hD hS hl)
theorem J_iremL (C : jcx p s m args meth c cc nL own ret D dA A E) {x y : Int32} (hd : decode cc pc = .ok (.irem, 1)) (h : ¬ y = 0) (k : JW p l e R s m args below meth c nL D dA A E Q cells slots (pc + 1) L (.int (x - x / y * y) :: S) w) : JW p l e R s m args below meth c nL D dA A E Q cells slots pc L (.int y :: .int x :: S) w := fun ad H locs ls hE hP hD hS hl => lv_irem C.1 C.2.1 hd h (k ad H locs ls hE hP hD hS hl)
theorem J_iincL (C : jcx p s m args meth c cc nL own ret D dA A E) {i : Nat} {n : Int} {x v : Int32} (hd : decode cc pc = .ok (.iinc i n, 3)) (j : Nat) (hj : L[j]? = some (i, .int x)) (hv : x + Int32.ofInt n = v) (hn : i < nL) (L1 : List (Nat × Value)) (hL : lst i (.int v) L = L1) (k : JW p l e R s m args below meth c nL D dA A E Q cells slots (pc + 3) L1 S w) : JW p l e R s m args below meth c nL D dA A E Q cells slots pc L S w := fun ad H locs ls hE hP hD hS hl => lv_iinc C.1 C.2.1 hd hl (k := j) (by rw [List.getElem?_map, hj]; rfl) hv hn rfl (fun ls hl => k ad H locs ls hE hP hD hS (by rw [← hL]; rw [lvm_fil] at hl; exact hl))
theorem J_gets (C : jcx p s m args meth c cc nL own ret D dA A E) {Cn n d : String} {index : Nat} {x : Value} (hd : decode cc pc = .ok (.getstatic index, 3)) (hZ : ∀ ad, E ad → va_Z Cn n d (rv ad x) A s s.heap) (hk : Cond.fieldLink own index Cn n d ∈ GT) (k : JW p l e R s m args below meth c nL D dA A E Q cells slots (pc + 3) L (x :: S) w) : JW p l e R s m args below meth c nL D dA A E Q cells slots pc L S w := fun ad H locs ls hE hP hD hS hl => va_gets C.1 C.2.1 (hZ ad hE) hS C.2.2.2.1 (C.2.2.2.2.1 _ hk) (fun _ h => h) hd (k ad H locs ls hE hP hD hS hl)
theorem J_sV (C : jcx p s m args meth c cc nL own ret D dA A E) {index : Nat} (i : Nat) (hi : i < 13) (hd : decode cc pc = .ok (.getfield index, 3)) (hk : Cond.fieldLink own index "java/lang/String" "value" "[B" ∈ GT) (k : JW p l e R s m args below meth c nL D dA A E Q cells slots (pc + 3) L (.ref (20000 + i) :: S) w) : JW p l e R s m args below meth c nL D dA A E Q cells slots pc L (.ref (10000 + i) :: S) w := fun ad H locs ls hE hP hD hS hl => vk_getf C.1 C.2.1 ((C.2.2.2.2.2.2.2.2.2 ad hE).2.2.1.1 i hi).2.2.1 hS C.2.2.2.1 (C.2.2.2.2.1 _ hk) (fun _ h => h) hd (k ad H locs ls hE hP hD hS hl)
theorem J_sC (C : jcx p s m args meth c cc nL own ret D dA A E) {index : Nat} (i : Nat) (hi : i < 13) (hd : decode cc pc = .ok (.getfield index, 3)) (hk : Cond.fieldLink own index "java/lang/String" "coder" "B" ∈ GT) (k : JW p l e R s m args below meth c nL D dA A E Q cells slots (pc + 3) L (.int 0 :: S) w) : JW p l e R s m args below meth c nL D dA A E Q cells slots pc L (.ref (10000 + i) :: S) w := fun ad H locs ls hE hP hD hS hl => vk_getf C.1 C.2.1 ((C.2.2.2.2.2.2.2.2.2 ad hE).2.2.1.1 i hi).2.1 hS C.2.2.2.1 (C.2.2.2.2.1 _ hk) (fun _ h => h) hd (k ad H locs ls hE hP hD hS hl)
theorem J_sL (C : jcx p s m args meth c cc nL own ret D dA A E) (i : Nat) (hi : i < 13) (hd : decode cc pc = .ok (.arraylength, 1)) (k : JW p l e R s m args below meth c nL D dA A E Q cells slots (pc + 1) L (.int (nI (sLn.getD i 0)) :: S) w) : JW p l e R s m args below meth c nL D dA A E Q cells slots pc L (.ref (20000 + i) :: S) w := fun ad H locs ls hE hP hD hS hl => va_tlen C.1 C.2.1 ((C.2.2.2.2.2.2.2.2.2 ad hE).2.2.1.1 i hi).2.2.2 hS rfl hd (k ad H locs ls hE hP hD hS hl)
theorem J_sB (C : jcx p s m args meth c cc nL own ret D dA A E) {x : Int32} (i : Nat) (hi : i < 13) (hx : vp_in x (sLn.getD i 0)) (hd : decode cc pc = .ok (.baload, 1)) (k : JW p l e R s m args below meth c nL D dA A E Q cells slots (pc + 1) L (.int ((sBy.getD i []).getD x.toNatClampNeg 0) :: S) w) : JW p l e R s m args below meth c nL D dA A E Q cells slots pc L (.int x :: .ref (20000 + i) :: S) w := fun ad H locs ls hE hP hD hS hl => va_tb C.1 C.2.1 ((C.2.2.2.2.2.2.2.2.2 ad hE).2.2.1.1 i hi).2.2.2 hS hx rfl hd (k ad H locs ls hE hP hD hS hl)
theorem J_cVS (C : jcx p s m args meth c cc nL own ret D dA A E) {y : MethodName} {bytes : ByteArray} {maxL index n : Nat} {ret' : Option FieldType} {rm : Room} {as : List Value} {v : Option Value} {Sc : List Value} (i : Nat) (hi : i < 13) (hd : decode cc pc = .ok (.invokevirtual index, 3)) (hM : CT l D dA y bytes maxL ret' rm (.ref (10000 + i) :: as) w v w) (hlk : Cond.methodLink own index y ∈ GT) (hco : Cond.code y bytes maxL ret' ∈ GT) (hini : Cond.initialized y.cls ∈ GT) (hins : Cond.instanceMethod y ∈ GT) (hsel : Cond.selects "java/lang/String" y y ∈ GT) (hy : y.cls ≠ "java/lang/invoke/MethodHandle" ∧ y.cls ≠ "java/lang/invoke/VarHandle" ∧ (parseMethodDescriptor y.desc).map (fun d => d.parameters.length) = some n) (hR : rm.frames + 1 ≤ R.frames ∧ 8 + (maxL + 11) + rm.locals ≤ R.locals) (hcs : cells ≤ R.cells ∧ slots ≤ R.slots) (hrm : rm.cells = 0 ∧ rm.slots = 0) (hn : as.length = n) (hst : Sc = as.reverse ++ .ref (10000 + i) :: S) (hW : ∀ ad, ((S.map (rv ad)).map fun v => v.category).sum ≤ 8) (k : JW p l e R s m args below meth c nL D dA A E Q cells slots (pc + 3) L (v.toList ++ S) w) : JW p l e R s m args below meth c nL D dA A E Q cells slots pc L Sc w := by
  refine J_run C (fun ad H locs ls hE hP hD hS hl => ⟨((.ref (10000 + i) :: as).map (rv ad)).toArray, ?_⟩) k
  exact va_runV (C := "java/lang/String") (b := ad (10000 + i)) (As := as.map (rv ad)) (rest := S.map (rv ad)) ⟨C.1, C.2.1, C.2.2.1, C.2.2.2.1, C.2.2.2.2.1⟩ (hM ad H.size) ⟨callB_of n C.2.2.2.2.1 (GT_in hco) rfl hrm.1 hrm.2 (C.2.2.2.2.1 _ hini) (C.2.2.2.2.1 _ hlk) hy hR, C.2.2.2.2.1 _ hins, C.2.2.2.2.1 _ hsel⟩ ⟨Pj_blind, vk_recv (adK := fun i => ad (10000 + i)) (i := i) (C.2.2.2.2.2.2.2.2.2 ad hE).2.2.1 hi hS, Pj_ok C (as := .ref (10000 + i) :: as) hE hP hD hS⟩ rfl (by rw [List.length_map]; exact hn) hl.1 (by subst hst; simp [rv]) (by show 2 * 0 + _ ≤ 8; have := hW ad; omega) hd ⟨hcs.1, hcs.2⟩
end JX
theorem str_ch : ∀ i, i < 13 → ∀ k, k < 5 → (i2cF ((sBy.getD i []).getD k 0 &&& 255) = (sBy.getD i []).getD k 0 ∧ narrow .char (.int ((sBy.getD i []).getD k 0)) = .int ((sBy.getD i []).getD k 0)) := by decide +kernel
theorem str_ln : ∀ i, i < 13 → sLn.getD i 0 ≤ 5 := by decide +kernel
abbrev rm00 : Room := { frames := 0, cells := 0, slots := 0, locals := 0 }
set_option maxRecDepth 100000 in
theorem cs_coder {l : Launch} {D : va_G} {dA : FieldType → ClassId} (w : MW) (i : Nat) (hi : i < 13) : CT l D dA yJ0_coder_7d493 cJ0_coder_7d493 1 (some .byte) rm00 [.ref (10000 + i)] w (some (.int 0)) w := by
  refine J_met (by decide) rfl (Nat.le_of_ble_eq_true rfl) (fun p e s m args below meth c A E C => ?_)
  refine J_sub [0] (L1 := [(0, .ref (10000 + i))]) rfl ?_
  refine J_gets (pc := 0) C dJ0_coder_7d493_0 (x := .int 1) (fun ad hE => (C.2.2.2.2.2.2.2.2.2 ad hE).2.2.2.1) (mGT 484 (by decide +kernel) (by decide)) ?_
  refine J_if_eq (ρ := Unit) (T := ()) (F := ()) (r := ()) (pc := 3) C dJ0_coder_7d493_3 (tgt := 13) (by decide) (by simp) (fun h _ => absurd h (by decide)) (fun _ _ => ?_)
  refine J_aload_n (pc := 6) C dJ0_coder_7d493_6 rfl 0 rfl ?_
  refine J_sC (pc := 7) C i hi dJ0_coder_7d493_7 (mGT 1460 (by decide +kernel) (by decide)) ?_
  refine J_goto (pc := 10) C dJ0_coder_7d493_10 (tgt := 14) (by decide) ?_
  exact J_iretP (pc := 14) C rfl (by decide) dJ0_coder_7d493_14 rfl
set_option maxRecDepth 100000 in
theorem cs_isLatin1 {l : Launch} {D : va_G} {dA : FieldType → ClassId} (w : MW) (i : Nat) (hi : i < 13) : CT l D dA yJ0_isLatin1_aae02 cJ0_isLatin1_aae02 1 (some .boolean) rm00 [.ref (10000 + i)] w (some (.int 1)) w := by
  refine J_met (by decide) rfl (Nat.le_of_ble_eq_true rfl) (fun p e s m args below meth c A E C => ?_)
  refine J_sub [0] (L1 := [(0, .ref (10000 + i))]) rfl ?_
  refine J_gets (pc := 0) C dJ0_isLatin1_aae02_0 (x := .int 1) (fun ad hE => (C.2.2.2.2.2.2.2.2.2 ad hE).2.2.2.1) (mGT 484 (by decide +kernel) (by decide)) ?_
  refine J_if_eq (ρ := Unit) (T := ()) (F := ()) (r := ()) (pc := 3) C dJ0_isLatin1_aae02_3 (tgt := 17) (by decide) (by simp) (fun h _ => absurd h (by decide)) (fun _ _ => ?_)
  refine J_aload_n (pc := 6) C dJ0_isLatin1_aae02_6 rfl 0 rfl ?_
  refine J_sC (pc := 7) C i hi dJ0_isLatin1_aae02_7 (mGT 1460 (by decide +kernel) (by decide)) ?_
  refine J_if_ne (ρ := Unit) (T := ()) (F := ()) (r := ()) (pc := 10) C dJ0_isLatin1_aae02_10 (tgt := 17) (by decide) (by simp) (fun h _ => absurd rfl h) (fun _ _ => ?_)
  refine J_iconst (pc := 13) C dJ0_isLatin1_aae02_13 (v := 1) (by decide) ?_
  refine J_goto (pc := 14) C dJ0_isLatin1_aae02_14 (tgt := 18) (by decide) ?_
  exact J_iretP (pc := 18) C rfl (by decide) dJ0_isLatin1_aae02_18 rfl
set_option maxRecDepth 100000 in
theorem cs_pre {l : Launch} {D : va_G} {dA : FieldType → ClassId} (w : MW) (a n : Int32) (x : Value) (hx : x.category = 1) (h1 : ¬ a < 0) (h2 : a < n) : CT l D dA yJ3_checkIndex_8e157 cJ3_checkIndex_8e157 3 (some .int) rm00 [.int a, .int n, x] w (some (.int a)) w := by
  refine J_met (by decide) rfl (by simp [lg_sl, hx, show (Value.int a).category = 1 from rfl, show (Value.int n).category = 1 from rfl]) (fun p e s m args below meth c A E C => ?_)
  refine J_sub [0, 1] (L1 := [(0, .int a), (1, .int n)]) rfl ?_
  refine J_iload_n (pc := 0) C dJ3_checkIndex_8e157_0 rfl 0 rfl ?_
  refine J_if_lt (ρ := Unit) (T := ()) (F := ()) (r := ()) (pc := 1) C dJ3_checkIndex_8e157_1 (tgt := 9) (by decide) (by simp) (fun h _ => absurd h h1) (fun _ _ => ?_)
  refine J_iload_n (pc := 4) C dJ3_checkIndex_8e157_4 rfl 0 rfl ?_
  refine J_iload_n (pc := 5) C dJ3_checkIndex_8e157_5 rfl 1 rfl ?_
  refine J_icmp_lt (ρ := Unit) (T := ()) (F := ()) (r := ()) (pc := 6) C dJ3_checkIndex_8e157_6 (tgt := 16) (by decide) (by simp) (fun _ _ => ?_) (fun h _ => absurd h2 h)
  refine J_iload_n (pc := 16) C dJ3_checkIndex_8e157_16 rfl 0 rfl ?_
  exact J_iretP (pc := 17) C rfl rfl dJ3_checkIndex_8e157_17 rfl
abbrev rm01 : Room := { frames := 1, cells := 0, slots := 0, locals := 22 }
set_option maxRecDepth 100000 in
theorem cs_chk {l : Launch} {D : va_G} {dA : FieldType → ClassId} (w : MW) (a n : Int32) (h1 : ¬ a < 0) (h2 : a < n) : CT l D dA yJ0_checkIndex_df160 cJ0_checkIndex_df160 2 none rm01 [.int a, .int n] w none w := by
  refine J_met (by decide) rfl (Nat.le_of_ble_eq_true rfl) (fun p e s m args below meth c A E C => ?_)
  refine J_sub [0, 1] (L1 := [(0, .int a), (1, .int n)]) rfl ?_
  refine J_iload_n (pc := 0) C dJ0_checkIndex_df160_0 rfl 0 rfl ?_
  refine J_iload_n (pc := 1) C dJ0_checkIndex_df160_1 rfl 1 rfl ?_
  have G : ∀ x : Value, x.category = 1 → (∀ ad, E ad → va_Z "jdk/internal/util/Preconditions" "SIOOBE_FORMATTER" "Ljava/util/function/BiFunction;" (rv ad x) A s s.heap) → JW p l e rm01 s m args below meth c 2 D dA A E (MQ below (Qr D dA E none w A) args s 0 0 A) 0 0 2 [(0, .int a), (1, .int n)] [.int n, .int a] w := by
    intro x hx hZ
    refine J_gets (pc := 2) C dJ0_checkIndex_df160_2 (x := x) hZ (mGT 500 (by decide +kernel) (by decide)) ?_
    refine J_cS (S := []) (n := 3) (pc := 5) C dJ0_checkIndex_df160_5 (cs_pre w a n x hx h1 h2) (mGT 502 (by decide +kernel) (by decide)) ⟨(mGT 504 (by decide +kernel) (by decide)), (mGT 92 (by decide +kernel) (by decide)), (mGT 503 (by decide +kernel) (by decide)), ⟨by decide, by decide, by decide +kernel⟩, ⟨rfl, rfl⟩⟩ ⟨Nat.le_of_ble_eq_true rfl, Nat.le_of_ble_eq_true rfl⟩ ⟨Nat.le_of_ble_eq_true rfl, Nat.le_of_ble_eq_true rfl⟩ rfl rfl (fun _ => Nat.le_of_ble_eq_true rfl) ?_
    refine J_pop (pc := 8) C dJ0_checkIndex_df160_8 rfl ?_
    exact J_vret (pc := 9) C rfl dJ0_checkIndex_df160_9 rfl
  by_cases hq : va_Z "jdk/internal/util/Preconditions" "SIOOBE_FORMATTER" "Ljava/util/function/BiFunction;" .null A s s.heap
  · exact G .null rfl (fun _ _ => hq)
  · exact G (.ref 30000) rfl (fun ad hE => ((C.2.2.2.2.2.2.2.2.2 ad hE).2.2.2.2.2).resolve_left hq)
abbrev rm02 : Room := { frames := 2, cells := 0, slots := 0, locals := 43 }
set_option maxRecDepth 100000 in
theorem cs_l1 {l : Launch} {D : va_G} {dA : FieldType → ClassId} (w : MW) (i k : Nat) (hi : i < 13) (hk : k < sLn.getD i 0) : CT l D dA yJ1_charAt_3b067 cJ1_charAt_3b067 2 (some .char) rm02 [.ref (20000 + i), .int (nI k)] w (some (.int ((sBy.getD i []).getD k 0))) w := by
  have hl := str_ln i hi
  have hc := str_ch i hi k (by omega)
  have ek : (nI k).toNatClampNeg = k := nI_clamp (by omega)
  refine J_met (by decide) rfl (Nat.le_of_ble_eq_true rfl) (fun p e s m args below meth c A E C => ?_)
  refine J_sub [0, 1] (L1 := [(0, .ref (20000 + i)), (1, .int (nI k))]) rfl ?_
  refine J_iload_n (pc := 0) C dJ1_charAt_3b067_0 rfl 1 rfl ?_
  refine J_aload_n (pc := 1) C dJ1_charAt_3b067_1 rfl 0 rfl ?_
  refine J_sL (pc := 2) C i hi dJ1_charAt_3b067_2 ?_
  refine J_cS (S := []) (n := 2) (pc := 3) C dJ1_charAt_3b067_3 (cs_chk w _ _ (nI_pos (by omega)) (nI_lt hk (by omega))) (mGT 497 (by decide +kernel) (by decide)) ⟨(mGT 499 (by decide +kernel) (by decide)), (mGT 90 (by decide +kernel) (by decide)), (mGT 498 (by decide +kernel) (by decide)), ⟨by decide, by decide, by decide +kernel⟩, ⟨rfl, rfl⟩⟩ ⟨Nat.le_of_ble_eq_true rfl, Nat.le_of_ble_eq_true rfl⟩ ⟨Nat.le_of_ble_eq_true rfl, Nat.le_of_ble_eq_true rfl⟩ rfl rfl (fun _ => Nat.le_of_ble_eq_true rfl) ?_
  refine J_aload_n (pc := 6) C dJ1_charAt_3b067_6 rfl 0 rfl ?_
  refine J_iload_n (pc := 7) C dJ1_charAt_3b067_7 rfl 1 rfl ?_
  refine J_sB (pc := 8) C i hi (vp_in_nI hk (by omega)) dJ1_charAt_3b067_8 ?_
  rw [ek]
  refine J_sipush (pc := 9) C dJ1_charAt_3b067_9 (v := 255) (by decide) ?_
  refine J_iand (pc := 12) C dJ1_charAt_3b067_12 ?_
  refine J_i2c (pc := 13) C dJ1_charAt_3b067_13 ?_
  rw [hc.1]
  exact J_iretP (pc := 14) C rfl hc.2 dJ1_charAt_3b067_14 rfl
abbrev rm03 : Room := { frames := 3, cells := 0, slots := 0, locals := 64 }
set_option maxRecDepth 100000 in
theorem cs_charAt {l : Launch} {D : va_G} {dA : FieldType → ClassId} (w : MW) (i k : Nat) (hi : i < 13) (hk : k < sLn.getD i 0) : CT l D dA yJ0_charAt_5068e cJ0_charAt_5068e 2 (some .char) rm03 [.ref (10000 + i), .int (nI k)] w (some (.int ((sBy.getD i []).getD k 0))) w := by
  have hl := str_ln i hi
  have hc := str_ch i hi k (by omega)
  refine J_met (by decide) rfl (Nat.le_of_ble_eq_true rfl) (fun p e s m args below meth c A E C => ?_)
  refine J_sub [0, 1] (L1 := [(0, .ref (10000 + i)), (1, .int (nI k))]) rfl ?_
  refine J_aload_n (pc := 0) C dJ0_charAt_5068e_0 rfl 0 rfl ?_
  refine J_cVS (S := []) (pc := 1) C i hi dJ0_charAt_5068e_1 (cs_isLatin1 w i hi) (mGT 490 (by decide +kernel) (by decide)) (mGT 493 (by decide +kernel) (by decide)) (mGT 90 (by decide +kernel) (by decide)) (mGT 491 (by decide +kernel) (by decide)) (mGT 492 (by decide +kernel) (by decide)) ⟨by decide, by decide, by decide +kernel⟩ ⟨Nat.le_of_ble_eq_true rfl, Nat.le_of_ble_eq_true rfl⟩ ⟨Nat.le_of_ble_eq_true rfl, Nat.le_of_ble_eq_true rfl⟩ ⟨rfl, rfl⟩ rfl rfl (fun _ => Nat.le_of_ble_eq_true rfl) ?_
  refine J_if_eq (ρ := Unit) (T := ()) (F := ()) (r := ()) (pc := 4) C dJ0_charAt_5068e_4 (tgt := 16) (by decide) (by simp) (fun h _ => absurd h (by decide)) (fun _ _ => ?_)
  refine J_aload_n (pc := 7) C dJ0_charAt_5068e_7 rfl 0 rfl ?_
  refine J_sV (pc := 8) C i hi dJ0_charAt_5068e_8 (mGT 1459 (by decide +kernel) (by decide)) ?_
  refine J_iload_n (pc := 11) C dJ0_charAt_5068e_11 rfl 1 rfl ?_
  refine J_cS (S := []) (n := 2) (pc := 12) C dJ0_charAt_5068e_12 (cs_l1 w i k hi hk) (mGT 494 (by decide +kernel) (by decide)) ⟨(mGT 496 (by decide +kernel) (by decide)), (mGT 91 (by decide +kernel) (by decide)), (mGT 495 (by decide +kernel) (by decide)), ⟨by decide, by decide, by decide +kernel⟩, ⟨rfl, rfl⟩⟩ ⟨Nat.le_of_ble_eq_true rfl, Nat.le_of_ble_eq_true rfl⟩ ⟨Nat.le_of_ble_eq_true rfl, Nat.le_of_ble_eq_true rfl⟩ rfl rfl (fun _ => Nat.le_of_ble_eq_true rfl) ?_
  exact J_iretP (pc := 15) C rfl hc.2 dJ0_charAt_5068e_15 rfl
abbrev rm04 : Room := { frames := 1, cells := 0, slots := 0, locals := 20 }
set_option maxRecDepth 100000 in
theorem cs_length {l : Launch} {D : va_G} {dA : FieldType → ClassId} (w : MW) (i : Nat) (hi : i < 13) : CT l D dA yJ0_length_8abf5 cJ0_length_8abf5 1 (some .int) rm04 [.ref (10000 + i)] w (some (.int (nI (sLn.getD i 0)))) w := by
  have hl := str_ln i hi
  refine J_met (by decide) rfl (Nat.le_of_ble_eq_true rfl) (fun p e s m args below meth c A E C => ?_)
  refine J_sub [0] (L1 := [(0, .ref (10000 + i))]) rfl ?_
  refine J_aload_n (pc := 0) C dJ0_length_8abf5_0 rfl 0 rfl ?_
  refine J_sV (pc := 1) C i hi dJ0_length_8abf5_1 (mGT 1459 (by decide +kernel) (by decide)) ?_
  refine J_sL (pc := 4) C i hi dJ0_length_8abf5_4 ?_
  refine J_aload_n (pc := 5) C dJ0_length_8abf5_5 rfl 0 rfl ?_
  refine J_cVS (S := [.int (nI (sLn.getD i 0))]) (pc := 6) C i hi dJ0_length_8abf5_6 (cs_coder w i hi) (mGT 480 (by decide +kernel) (by decide)) (mGT 483 (by decide +kernel) (by decide)) (mGT 90 (by decide +kernel) (by decide)) (mGT 481 (by decide +kernel) (by decide)) (mGT 482 (by decide +kernel) (by decide)) ⟨by decide, by decide, by decide +kernel⟩ ⟨Nat.le_of_ble_eq_true rfl, Nat.le_of_ble_eq_true rfl⟩ ⟨Nat.le_of_ble_eq_true rfl, Nat.le_of_ble_eq_true rfl⟩ ⟨rfl, rfl⟩ rfl rfl (fun _ => Nat.le_of_ble_eq_true rfl) ?_
  refine J_ishr (pc := 9) C dJ0_length_8abf5_9 ?_
  rw [sc_shr0 (by omega)]
  exact J_iretP (pc := 10) C rfl rfl dJ0_length_8abf5_10 rfl
section JY
variable {p : Program} {l : Launch} {e : Env} {R : Room} {s : State} {m : MethodId} {args : Array Value} {below : List Frame} {meth : Method} {c : Code} {Q : State → Prop} {cells slots : Nat}
variable {cc : ByteArray} {nL : Nat} {own : String} {ret : Option FieldType} {D : va_G} {dA : FieldType → ClassId} {A : Nat → Prop} {E : (Nat → Nat) → Prop}
variable {pc : Nat} {L : List (Nat × Value)} {S : List Value} {w : MW} {ρ : Type} {r : ρ}
theorem J_stL (C : jcx p s m args meth c cc nL own ret D dA A E) {index b : Nat} {K : Int32 → Option ρ} (hd : decode cc pc = .ok (.invokevirtual index, 3)) (hlk : Cond.methodLink own index yJ0_length_8abf5 ∈ GT) (hR : 6 ≤ R.frames ∧ 153 ≤ R.locals) (hcs : cells ≤ R.cells ∧ slots ≤ R.slots) (hW : ∀ ad, ((S.map (rv ad)).map fun v => v.category).sum ≤ 8) (hf : (stL b).bind K = some r) (k : ∀ v, K v = some r → JW p l e R s m args below meth c nL D dA A E Q cells slots (pc + 3) L (.int v :: S) w) : JW p l e R s m args below meth c nL D dA A E Q cells slots pc L (.ref b :: S) w := by
  obtain ⟨v, h1, h2⟩ := bind_ok hf
  unfold stL at h1
  split at h1
  · rename_i hb
    obtain ⟨i, rfl⟩ : ∃ i, b = 10000 + i := ⟨b - 10000, by omega⟩
    rw [Nat.add_sub_cancel_left] at h1
    have e1 := Option.some.inj h1
    rw [← e1] at h2
    exact J_cVS (S := S) (as := []) C i (by omega) hd (cs_length w i (by omega)) hlk (mGT 479 (by decide +kernel) (by decide)) (mGT 90 (by decide +kernel) (by decide)) (mGT 477 (by decide +kernel) (by decide)) (mGT 478 (by decide +kernel) (by decide)) ⟨by decide, by decide, by decide +kernel⟩ ⟨by show 1 + 1 ≤ _; omega, by show 8 + (1 + 11) + 20 ≤ _; omega⟩ hcs ⟨rfl, rfl⟩ rfl rfl hW (k _ h2)
  · cases h1
theorem J_stC (C : jcx p s m args meth c cc nL own ret D dA A E) {index b : Nat} {i : Int32} {K : Int32 → Option ρ} (hd : decode cc pc = .ok (.invokevirtual index, 3)) (hlk : Cond.methodLink own index yJ0_charAt_5068e ∈ GT) (hR : 6 ≤ R.frames ∧ 153 ≤ R.locals) (hcs : cells ≤ R.cells ∧ slots ≤ R.slots) (hW : ∀ ad, ((S.map (rv ad)).map fun v => v.category).sum ≤ 8) (hf : (stC b i).bind K = some r) (k : ∀ v, K v = some r → JW p l e R s m args below meth c nL D dA A E Q cells slots (pc + 3) L (.int v :: S) w) : JW p l e R s m args below meth c nL D dA A E Q cells slots pc L (.int i :: .ref b :: S) w := by
  obtain ⟨v, h1, h2⟩ := bind_ok hf
  unfold stC at h1
  split at h1
  · rename_i hb
    obtain ⟨j, rfl⟩ : ∃ j, b = 10000 + j := ⟨b - 10000, by omega⟩
    rw [Nat.add_sub_cancel_left] at hb h1
    obtain ⟨q, hq, rfl⟩ := nI_of (Int32.not_lt.mpr hb.2.2.1)
    rw [nI_clamp hq] at hb h1
    have e1 := Option.some.inj h1
    rw [← e1] at h2
    exact J_cVS (S := S) (as := [.int (nI q)]) (n := 1) C j (by omega) hd (cs_charAt w j q (by omega) hb.2.2.2) hlk (mGT 489 (by decide +kernel) (by decide)) (mGT 90 (by decide +kernel) (by decide)) (mGT 487 (by decide +kernel) (by decide)) (mGT 488 (by decide +kernel) (by decide)) ⟨by decide, by decide, by decide +kernel⟩ ⟨by show 3 + 1 ≤ _; omega, by show 8 + (2 + 11) + 64 ≤ _; omega⟩ hcs ⟨rfl, rfl⟩ rfl rfl hW (k _ h2)
  · cases h1
end JY
theorem J_metI {l : Launch} {D : va_G} {dA : FieldType → ClassId} {y : MethodName} {cc : ByteArray} {maxL : Nat} {ret : Option FieldType} {rm : Room} {as : List Value} {w w' : MW} {v : Option Value} {own : String} (hy : plainName y.cls = true) (ho : y.cls = own) (hlen : (lg_sl as).length ≤ maxL)
    (body : ∀ (p : Program) (e : Env) (s : State) (m : MethodId) (args : Array Value) (below : List Frame) (meth : Method) (c : Code) (A : Nat → Prop) (E : (Nat → Nat) → Prop), jcx p s m args meth c cc maxL own ret D dA A E → meth.name = y.name → JW p l e rm s m args below meth c maxL D dA A E (MQ below (Qr D dA E v w' A) args s 0 0 A) 0 0 0 (lv_args 0 as) [] w) : CT l D dA y cc maxL ret rm as w v w' := by
  intro ad sz
  refine Met.ofW (cc := cc) (maxL := maxL) (ret := ret) hy rfl ?_
  intro p e s m args below meth c s₁ B hml hv
  obtain ⟨rfl, hsz, hP, hK, hD0, hSW⟩ := hv
  subst hsz
  have hD := hD0.self (sz := s.heap.size)
  have hown : s.vm.findClass own = some m.cls := ho ▸ findClass_of_methodNamed B.named
  have hts := atoms_spec (ws := .code y cc maxL ret :: GT) B.pre
  have hl := lv_entry (as.map (rv ad)) (n := maxL) (by rw [rv_slots]; exact hlen)
  rw [lg_entry_eq]
  rw [rv_args] at hl
  exact body p e s m _ below meth c (va_A (wi dA ad w) s.heap.size) (EN ad) ⟨B.exec, B.bytes, hml, hown, fun x hx => hts x (List.mem_cons_of_mem _ hx), hK, B.returns, B.notSynchronized, fun q h => Or.inr h, fun ad' h => by rw [show ad' = ad from h]; exact hSW⟩ (name_of_methodNamed B.named B.method).1 ad s.heap [] _ rfl hP hD va_S.rf hl
