def R_law : String := "MeltingHeapsLaw"
def lw_P (b : Addr) (xs : List Int32) (args : Array Value) (s : State) : Prop := args = #[.ref b] ∧ s.IntsAt b xs ∧ xs.length ≤ 3072 ∧ (Jvm.Cond.and given_1 narrow_1).before args s = true
def lw_Q (_ : Array Value) (s : State) (o : Outcome) (t : State) : Prop := o = .returned (some (.int 1)) ∧ Framed s o t [] 600000 7302250
def lw_Z (below : List Frame) (a : Array Value) (s : State) : State → Prop := fun t => ∃ o, t.status = .running ∧ Ended t below o ∧ lw_Q a s o t
/-- the law's own end, with 1 on the stack, nothing written that was there before, its room as the claim has it -/
theorem lw_ret {p : Program} {l : Launch} {e : Env} {s : State} {m : MethodId} {below : List Frame} {meth : Method} {c : Code} {b : Nat} (hx : p.tables.exec = Jvm.exec) (hb : c.code = code) (hr : meth.sig.returnType = ret) (hlocks : meth.locks = false) {pc : Nat} {H : Heap} {ls : Array Slot} (hdg : decode code pc = .ok (.ireturn, 1)) : W p l e room_1 s m #[Value.ref b] below meth c H [] 600000 7302250 (lw_Z below #[Value.ref b] s) (F0 m pc ls [.int 1]) := by
  intro T hT X
  obtain ⟨fs, hret, hrun, hended, hW, hframe⟩ := X.leave (v := some (.int 1)) (hlocks := hlocks) (fun h => by rw [hr] at h; cases h)
  have hmeth' : T.vm.method? m = some meth := X.method'
  refine ⟨T.setFrames fs, ?_, .returned (some (.int 1)), hrun, hended, rfl, ⟨_, rfl⟩, hW, hframe⟩
  jvm_step X.here [X.here.top, hx, hb, hdg, hmeth', hr, ret, narrow_b1]
  (try refine ⟨rfl, ?_⟩); (try refine ⟨rfl, ?_⟩)
  first | (intro acts; rw [hret _ acts rfl rfl rfl]) | rw [hret _ _ rfl rfl rfl]
  exact Steps.refl _
abbrev RETC : Option FieldType := ret
/-- what holds at the law's entry: the machine, the code, the tables' words (any of lw_tbl by 'hts w (by decide +kernel)'), the script of L ints xs at the cell b, what the Statement gives of the start (any of its parts by flat_of_before) -/
def lw_At (p : Program) (s : State) (m : MethodId) (meth : Method) (c : Code) (b L : Nat) (xs : Nat → Int32) : Prop :=
  p.tables.exec = Jvm.exec ∧ c.code = code ∧ meth.sig.returnType = ret ∧ c.maxLocals = 4 ∧ s.vm.findClass R_law = some m.cls ∧ (∀ w ∈ lw_tbl, w.before #[Value.ref b] s = true) ∧ va_X b L xs s s.heap ∧ b < s.heap.size ∧ meth.locks = false ∧ (Jvm.Cond.and given_1 narrow_1).before #[Value.ref b] s = true
section JZ
variable {p : Program} {l : Launch} {e : Env} {R : Room} {s : State} {m : MethodId} {args : Array Value} {below : List Frame} {meth : Method} {c : Code} {Q : State → Prop} {cells slots : Nat}
variable {cc : ByteArray} {nL : Nat} {own : String} {ret : Option FieldType} {D : va_G} {dA : FieldType → ClassId} {A : Nat → Prop} {E : (Nat → Nat) → Prop}
variable {pc : Nat} {L : List (Nat × Value)} {S : List Value} {w : MW} {ρ : Type} {r : ρ}
theorem J_sld (C : jcx p s m args meth c cc nL own ret D dA A E) {b Ln : Nat} {xs : Nat → Int32} {i : Int32} {K : Int32 → Option ρ} (hd : decode cc pc = .ok (.iaload, 1)) (hX : va_X b Ln xs s s.heap ∧ ∀ ad, E ad → ad 40000 = b) (hbl : b < s.heap.size) (hbA : ¬ A b) (hf : (scr Ln xs i).bind K = some r) (k : ∀ v, K v = some r → JW p l e R s m args below meth c nL D dA A E Q cells slots (pc + 1) L (.int v :: S) w) : JW p l e R s m args below meth c nL D dA A E Q cells slots pc L (.int i :: .ref 40000 :: S) w := by
  obtain ⟨v, h1, h2⟩ := bind_ok hf
  unfold scr at h1
  split at h1
  · rename_i hc
    have e1 := Option.some.inj h1
    subst e1
    intro ad H locs ls hE hP hD hS hl
    have hin : vp_in i Ln := fun h => h.elim (fun h => absurd hc.1 (Int32.not_le.mpr h)) (fun h => absurd hc.2 (Nat.not_lt.mpr h))
    show W p l e R s m args below meth c H locs cells slots Q (F0 m pc ls (.int i :: .ref (ad 40000) :: S.map (rv ad)))
    rw [hX.2 ad hE]
    exact va_sld C.1 C.2.1 hX.1 hbl hbA hS hin hd (k _ h2 ad H locs ls hE hP hD hS hl)
  · cases h1
theorem J_slen (C : jcx p s m args meth c cc nL own ret D dA A E) {b Ln : Nat} {xs : Nat → Int32} (hd : decode cc pc = .ok (.arraylength, 1)) (hX : va_X b Ln xs s s.heap ∧ ∀ ad, E ad → ad 40000 = b) (hbl : b < s.heap.size) (hbA : ¬ A b) (k : JW p l e R s m args below meth c nL D dA A E Q cells slots (pc + 1) L (.int (nI Ln) :: S) w) : JW p l e R s m args below meth c nL D dA A E Q cells slots pc L (.ref 40000 :: S) w := by
  intro ad H locs ls hE hP hD hS hl
  show W p l e R s m args below meth c H locs cells slots Q (F0 m pc ls (.ref (ad 40000) :: S.map (rv ad)))
  rw [hX.2 ad hE]
  exact va_slen C.1 C.2.1 hX.1 hbl hbA hS hd (k ad H locs ls hE hP hD hS hl)
theorem J_lawret {b : Nat} (C : jcx p s m #[Value.ref b] meth c cL_law nL own RETC D dA (fun q : Nat => s.heap.size ≤ q) E) (h1 : cells ≤ 600000) (h2 : slots ≤ 7302250) (hd : decode cL_law pc = .ok (.ireturn, 1)) : JW p l e room_1 s m #[Value.ref b] below meth c nL D dA (fun q : Nat => s.heap.size ≤ q) E (lw_Z below #[Value.ref b] s) cells slots pc L [.int 1] w := by
  intro ad H locs ls hE hP hD hS hl
  refine va_forget (fun q hq => hS.2.2 q hq) ?_
  refine W.widen h1 h2 ?_
  exact lw_ret C.1 C.2.1 C.2.2.2.2.2.2.1 C.2.2.2.2.2.2.2.1 hd
end JZ
set_option maxRecDepth 100000 in
set_option maxHeartbeats 8000000 in
theorem law_ok {p : Program} {l : Launch} {e : Env} {s : State} {m : MethodId} {below : List Frame} {meth : Method} {c : Code} {D : va_G} {dA : FieldType → ClassId} {E : (Nat → Nat) → Prop} {A : Nat → Prop} {b Ln : Nat} {xs : Nat → Int32} (hA : A = fun q : Nat => s.heap.size ≤ q) (C : jcx p s m #[Value.ref b] meth c cL_law 4 RL RETC D dA A E) (hX : va_X b Ln xs s s.heap ∧ ∀ ad, E ad → ad 40000 = b) (hbl : b < s.heap.size) (hEE : ∀ (w1 : MW) (ad ad' : Nat → Nat), 0 ≤ w1.length → E ad → EA w1.length ad ad' → E ad') (fu : Nat) (hf : f_law fu Ln xs = some 1) : JW p l e room_1 s m #[Value.ref b] below meth c 4 D dA A E (lw_Z below #[Value.ref b] s) 0 0 0 [(0, .ref 40000)] [] [] := by
  subst hA
  have hbA : ¬ (fun q : Nat => s.heap.size ≤ q) b := Nat.not_le.mpr hbl
  have B1196 : ∀ (lr18 : MW → Nat → Nat → Int32 → Option Int32) (lh18 : ∀ (w : MW) (v1 : Nat) (v2 : Nat) (v3 : Int32), lr18 w v1 v2 v3 = some 1 → JW p l e room_1 s m #[Value.ref b] below meth c 4 D dA (fun q : Nat => s.heap.size ≤ q) E (lw_Z below #[Value.ref b] s) 130 31603 18 [(0, .ref 40000), (1, .ref v1), (2, .ref v2), (3, .int v3)] [] w) (w : MW) (v1 : Nat) (v2 : Nat) (v3 : Int32), f_law_1196 fu Ln xs lr18 w v1 v2 v3 = some 1 → JW p l e room_1 s m #[Value.ref b] below meth c 4 D dA (fun q : Nat => s.heap.size ≤ q) E (lw_Z below #[Value.ref b] s) 130 31603 1196 [(0, .ref 40000), (1, .ref v1), (2, .ref v2), (3, .int v3)] [] w := by
    intro lr18 lh18 w v1 v2 v3 hf
    rw [f_law_1196] at hf
    refine J_iinc (pc := 1196) C dL_law_1196 3 rfl (y := v3 + 6) rfl (by decide) hf (fun q => [(3, .int q), (0, .ref 40000), (1, .ref v1), (2, .ref v2)]) (fun _ => rfl) (fun x19 hf => ?_)
    refine J_goto (pc := 1199) C dL_law_1199 (tgt := 18) (by decide) ?_
    refine J_sub [1, 2, 3, 0] (L1 := [(0, .ref 40000), (1, .ref v1), (2, .ref v2), (3, .int x19)]) rfl ?_
    exact lh18 w v1 v2 x19 hf
  have B612 : ∀ (lr18 : MW → Nat → Nat → Int32 → Option Int32) (lh18 : ∀ (w : MW) (v1 : Nat) (v2 : Nat) (v3 : Int32), lr18 w v1 v2 v3 = some 1 → JW p l e room_1 s m #[Value.ref b] below meth c 4 D dA (fun q : Nat => s.heap.size ≤ q) E (lw_Z below #[Value.ref b] s) 130 31603 18 [(0, .ref 40000), (1, .ref v1), (2, .ref v2), (3, .int v3)] [] w) (w : MW) (v1 : Nat) (v2 : Nat) (v3 : Int32) (s0 : Int32) (s1 : Nat) (s2 : Int32) (s3 : Int32) (s4 : Int32) (s5 : Int32), f_law_612 fu Ln xs lr18 w v1 v2 v3 s0 s1 s2 s3 s4 s5 = some 1 → JW p l e room_1 s m #[Value.ref b] below meth c 4 D dA (fun q : Nat => s.heap.size ≤ q) E (lw_Z below #[Value.ref b] s) 130 31603 612 [(0, .ref 40000), (1, .ref v1), (2, .ref v2), (3, .int v3)] [.int s5, .int s4, .int s3, .int s2, .ref s1, .int s0] w := by
    intro lr18 lh18 w v1 v2 v3 s0 s1 s2 s3 s4 s5 hf
    rw [f_law_612] at hf
    obtain ⟨q140, h141, hf⟩ := bind_ok hf
    obtain ⟨_, g142, h141⟩ := cl_spec h141
    refine J_cV (S := [.int s0]) (pc := 612) C dL_law_612 (c_X11_mark _ _ _ _ _ _ _ h141) k_1231 ys_X11_mark ⟨Nat.le_of_ble_eq_true rfl, Nat.le_of_ble_eq_true rfl⟩ ⟨Nat.le_of_ble_eq_true rfl, Nat.le_of_ble_eq_true rfl⟩ g142 rfl rfl (fun _ => Nat.le_of_ble_eq_true rfl) ?_
    refine J_icmp_eq (pc := 615) C dL_law_615 (tgt := 1196) (by decide) hf (fun _ hf => ?_) (fun _ hf => ?_)
    · refine J_sub [0, 1, 2, 3] (L1 := [(0, .ref 40000), (1, .ref v1), (2, .ref v2), (3, .int v3)]) rfl ?_
      exact B1196 lr18 lh18 q140.2 v1 v2 v3 hf
    · refine J_iconst (pc := 618) C dL_law_618 (v := 0) (by decide) ?_
      exact absurd (Option.some.inj hf) (by decide)
  have B580 : ∀ (lr18 : MW → Nat → Nat → Int32 → Option Int32) (lh18 : ∀ (w : MW) (v1 : Nat) (v2 : Nat) (v3 : Int32), lr18 w v1 v2 v3 = some 1 → JW p l e room_1 s m #[Value.ref b] below meth c 4 D dA (fun q : Nat => s.heap.size ≤ q) E (lw_Z below #[Value.ref b] s) 130 31603 18 [(0, .ref 40000), (1, .ref v1), (2, .ref v2), (3, .int v3)] [] w) (w : MW) (v1 : Nat) (v2 : Nat) (v3 : Int32) (s0 : Nat) (s1 : Int32) (s2 : Int32) (s3 : Int32) (s4 : Int32), f_law_580 fu Ln xs lr18 w v1 v2 v3 s0 s1 s2 s3 s4 = some 1 → JW p l e room_1 s m #[Value.ref b] below meth c 4 D dA (fun q : Nat => s.heap.size ≤ q) E (lw_Z below #[Value.ref b] s) 130 31603 580 [(0, .ref 40000), (1, .ref v1), (2, .ref v2), (3, .int v3)] [.int s4, .int s3, .int s2, .int s1, .ref s0] w := by
    intro lr18 lh18 w v1 v2 v3 s0 s1 s2 s3 s4 hf
    rw [f_law_580] at hf
    obtain ⟨q133, h134, hf⟩ := bind_ok hf
    obtain ⟨_, g135, h134⟩ := cl_spec h134
    refine J_cV (S := []) (pc := 580) C dL_law_580 (c_X10_mark _ _ _ _ _ _ _ h134) k_739 ys_X10_mark ⟨Nat.le_of_ble_eq_true rfl, Nat.le_of_ble_eq_true rfl⟩ ⟨Nat.le_of_ble_eq_true rfl, Nat.le_of_ble_eq_true rfl⟩ g135 rfl rfl (fun _ => Nat.le_of_ble_eq_true rfl) ?_
    refine J_aload_n (pc := 583) C dL_law_583 rfl 2 rfl ?_
    refine J_aload_n (pc := 584) C dL_law_584 rfl 0 rfl ?_
    refine J_iload_n (pc := 585) C dL_law_585 rfl 3 rfl ?_
    refine J_iconst (pc := 586) C dL_law_586 (v := 1) (by decide) ?_
    refine J_iadd (pc := 587) C dL_law_587 ?_
    refine J_sld (pc := 588) C dL_law_588 hX hbl hbA hf (fun x136 hf => ?_)
    refine J_aload_n (pc := 589) C dL_law_589 rfl 0 rfl ?_
    refine J_iload_n (pc := 590) C dL_law_590 rfl 3 rfl ?_
    refine J_iconst (pc := 591) C dL_law_591 (v := 2) (by decide) ?_
    refine J_iadd (pc := 592) C dL_law_592 ?_
    refine J_sld (pc := 593) C dL_law_593 hX hbl hbA hf (fun x137 hf => ?_)
    refine J_aload_n (pc := 594) C dL_law_594 rfl 0 rfl ?_
    refine J_iload_n (pc := 595) C dL_law_595 rfl 3 rfl ?_
    refine J_iconst (pc := 596) C dL_law_596 (v := 3) (by decide) ?_
    refine J_iadd (pc := 597) C dL_law_597 ?_
    refine J_sld (pc := 598) C dL_law_598 hX hbl hbA hf (fun x138 hf => ?_)
    refine J_aload_n (pc := 599) C dL_law_599 rfl 0 rfl ?_
    refine J_iload_n (pc := 600) C dL_law_600 rfl 3 rfl ?_
    refine J_iconst (pc := 601) C dL_law_601 (v := 4) (by decide) ?_
    refine J_iadd (pc := 602) C dL_law_602 ?_
    refine J_sld (pc := 603) C dL_law_603 hX hbl hbA hf (fun x139 hf => ?_)
    refine J_if_eq (pc := 604) C dL_law_604 (tgt := 611) (by decide) hf (fun _ hf => ?_) (fun _ hf => ?_)
    · refine J_iconst (pc := 611) C dL_law_611 (v := 0) (by decide) ?_
      refine J_sub [0, 1, 2, 3] (L1 := [(0, .ref 40000), (1, .ref v1), (2, .ref v2), (3, .int v3)]) rfl ?_
      exact B612 lr18 lh18 q133.2 v1 v2 v3 q133.1 v2 x136 x137 x138 (0 : Int32) hf
    · refine J_iconst (pc := 607) C dL_law_607 (v := 1) (by decide) ?_
      refine J_goto (pc := 608) C dL_law_608 (tgt := 612) (by decide) ?_
      refine J_sub [0, 1, 2, 3] (L1 := [(0, .ref 40000), (1, .ref v1), (2, .ref v2), (3, .int v3)]) rfl ?_
      exact B612 lr18 lh18 q133.2 v1 v2 v3 q133.1 v2 x136 x137 x138 (1 : Int32) hf
  have B836 : ∀ (lr18 : MW → Nat → Nat → Int32 → Option Int32) (lh18 : ∀ (w : MW) (v1 : Nat) (v2 : Nat) (v3 : Int32), lr18 w v1 v2 v3 = some 1 → JW p l e room_1 s m #[Value.ref b] below meth c 4 D dA (fun q : Nat => s.heap.size ≤ q) E (lw_Z below #[Value.ref b] s) 130 31603 18 [(0, .ref 40000), (1, .ref v1), (2, .ref v2), (3, .int v3)] [] w) (w : MW) (v1 : Nat) (v2 : Nat) (v3 : Int32) (s0 : Int32) (s1 : Nat) (s2 : Int32) (s3 : Int32) (s4 : Int32) (s5 : Int32), f_law_836 fu Ln xs lr18 w v1 v2 v3 s0 s1 s2 s3 s4 s5 = some 1 → JW p l e room_1 s m #[Value.ref b] below meth c 4 D dA (fun q : Nat => s.heap.size ≤ q) E (lw_Z below #[Value.ref b] s) 130 31603 836 [(0, .ref 40000), (1, .ref v1), (2, .ref v2), (3, .int v3)] [.int s5, .int s4, .int s3, .int s2, .ref s1, .int s0] w := by
    intro lr18 lh18 w v1 v2 v3 s0 s1 s2 s3 s4 s5 hf
    rw [f_law_836] at hf
    obtain ⟨q208, h209, hf⟩ := bind_ok hf
    obtain ⟨_, g210, h209⟩ := cl_spec h209
    refine J_cV (S := [.int s0]) (pc := 836) C dL_law_836 (c_X11_within _ _ _ _ _ _ _ h209) k_1300 ys_X11_within ⟨Nat.le_of_ble_eq_true rfl, Nat.le_of_ble_eq_true rfl⟩ ⟨Nat.le_of_ble_eq_true rfl, Nat.le_of_ble_eq_true rfl⟩ g210 rfl rfl (fun _ => Nat.le_of_ble_eq_true rfl) ?_
    refine J_icmp_eq (pc := 839) C dL_law_839 (tgt := 1196) (by decide) hf (fun _ hf => ?_) (fun _ hf => ?_)
    · refine J_sub [0, 1, 2, 3] (L1 := [(0, .ref 40000), (1, .ref v1), (2, .ref v2), (3, .int v3)]) rfl ?_
      exact B1196 lr18 lh18 w v1 v2 v3 hf
    · refine J_iconst (pc := 842) C dL_law_842 (v := 0) (by decide) ?_
      exact absurd (Option.some.inj hf) (by decide)
  have B804 : ∀ (lr18 : MW → Nat → Nat → Int32 → Option Int32) (lh18 : ∀ (w : MW) (v1 : Nat) (v2 : Nat) (v3 : Int32), lr18 w v1 v2 v3 = some 1 → JW p l e room_1 s m #[Value.ref b] below meth c 4 D dA (fun q : Nat => s.heap.size ≤ q) E (lw_Z below #[Value.ref b] s) 130 31603 18 [(0, .ref 40000), (1, .ref v1), (2, .ref v2), (3, .int v3)] [] w) (w : MW) (v1 : Nat) (v2 : Nat) (v3 : Int32) (s0 : Nat) (s1 : Int32) (s2 : Int32) (s3 : Int32) (s4 : Int32), f_law_804 fu Ln xs lr18 w v1 v2 v3 s0 s1 s2 s3 s4 = some 1 → JW p l e room_1 s m #[Value.ref b] below meth c 4 D dA (fun q : Nat => s.heap.size ≤ q) E (lw_Z below #[Value.ref b] s) 130 31603 804 [(0, .ref 40000), (1, .ref v1), (2, .ref v2), (3, .int v3)] [.int s4, .int s3, .int s2, .int s1, .ref s0] w := by
    intro lr18 lh18 w v1 v2 v3 s0 s1 s2 s3 s4 hf
    rw [f_law_804] at hf
    obtain ⟨q201, h202, hf⟩ := bind_ok hf
    obtain ⟨_, g203, h202⟩ := cl_spec h202
    refine J_cV (S := []) (pc := 804) C dL_law_804 (c_X10_within _ _ _ _ _ _ _ h202) k_872 ys_X10_within ⟨Nat.le_of_ble_eq_true rfl, Nat.le_of_ble_eq_true rfl⟩ ⟨Nat.le_of_ble_eq_true rfl, Nat.le_of_ble_eq_true rfl⟩ g203 rfl rfl (fun _ => Nat.le_of_ble_eq_true rfl) ?_
    refine J_aload_n (pc := 807) C dL_law_807 rfl 2 rfl ?_
    refine J_aload_n (pc := 808) C dL_law_808 rfl 0 rfl ?_
    refine J_iload_n (pc := 809) C dL_law_809 rfl 3 rfl ?_
    refine J_iconst (pc := 810) C dL_law_810 (v := 1) (by decide) ?_
    refine J_iadd (pc := 811) C dL_law_811 ?_
    refine J_sld (pc := 812) C dL_law_812 hX hbl hbA hf (fun x204 hf => ?_)
    refine J_aload_n (pc := 813) C dL_law_813 rfl 0 rfl ?_
    refine J_iload_n (pc := 814) C dL_law_814 rfl 3 rfl ?_
    refine J_iconst (pc := 815) C dL_law_815 (v := 2) (by decide) ?_
    refine J_iadd (pc := 816) C dL_law_816 ?_
    refine J_sld (pc := 817) C dL_law_817 hX hbl hbA hf (fun x205 hf => ?_)
    refine J_aload_n (pc := 818) C dL_law_818 rfl 0 rfl ?_
    refine J_iload_n (pc := 819) C dL_law_819 rfl 3 rfl ?_
    refine J_iconst (pc := 820) C dL_law_820 (v := 3) (by decide) ?_
    refine J_iadd (pc := 821) C dL_law_821 ?_
    refine J_sld (pc := 822) C dL_law_822 hX hbl hbA hf (fun x206 hf => ?_)
    refine J_aload_n (pc := 823) C dL_law_823 rfl 0 rfl ?_
    refine J_iload_n (pc := 824) C dL_law_824 rfl 3 rfl ?_
    refine J_iconst (pc := 825) C dL_law_825 (v := 4) (by decide) ?_
    refine J_iadd (pc := 826) C dL_law_826 ?_
    refine J_sld (pc := 827) C dL_law_827 hX hbl hbA hf (fun x207 hf => ?_)
    refine J_if_eq (pc := 828) C dL_law_828 (tgt := 835) (by decide) hf (fun _ hf => ?_) (fun _ hf => ?_)
    · refine J_iconst (pc := 835) C dL_law_835 (v := 0) (by decide) ?_
      refine J_sub [0, 1, 2, 3] (L1 := [(0, .ref 40000), (1, .ref v1), (2, .ref v2), (3, .int v3)]) rfl ?_
      exact B836 lr18 lh18 w v1 v2 v3 q201 v2 x204 x205 x206 (0 : Int32) hf
    · refine J_iconst (pc := 831) C dL_law_831 (v := 1) (by decide) ?_
      refine J_goto (pc := 832) C dL_law_832 (tgt := 836) (by decide) ?_
      refine J_sub [0, 1, 2, 3] (L1 := [(0, .ref 40000), (1, .ref v1), (2, .ref v2), (3, .int v3)]) rfl ?_
      exact B836 lr18 lh18 w v1 v2 v3 q201 v2 x204 x205 x206 (1 : Int32) hf
  have B1073 : ∀ (lr18 : MW → Nat → Nat → Int32 → Option Int32) (lh18 : ∀ (w : MW) (v1 : Nat) (v2 : Nat) (v3 : Int32), lr18 w v1 v2 v3 = some 1 → JW p l e room_1 s m #[Value.ref b] below meth c 4 D dA (fun q : Nat => s.heap.size ≤ q) E (lw_Z below #[Value.ref b] s) 130 31603 18 [(0, .ref 40000), (1, .ref v1), (2, .ref v2), (3, .int v3)] [] w) (w : MW) (v1 : Nat) (v2 : Nat) (v3 : Int32) (s0 : Int32) (s1 : Nat) (s2 : Int32) (s3 : Int32) (s4 : Int32), f_law_1073 fu Ln xs lr18 w v1 v2 v3 s0 s1 s2 s3 s4 = some 1 → JW p l e room_1 s m #[Value.ref b] below meth c 4 D dA (fun q : Nat => s.heap.size ≤ q) E (lw_Z below #[Value.ref b] s) 130 31603 1073 [(0, .ref 40000), (1, .ref v1), (2, .ref v2), (3, .int v3)] [.int s4, .int s3, .int s2, .ref s1, .int s0] w := by
    intro lr18 lh18 w v1 v2 v3 s0 s1 s2 s3 s4 hf
    rw [f_law_1073] at hf
    obtain ⟨q283, h284, hf⟩ := bind_ok hf
    obtain ⟨_, g285, h284⟩ := cl_spec h284
    refine J_cV (S := [.int s0]) (pc := 1073) C dL_law_1073 (c_X11_would _ _ _ _ _ _ h284) k_1341 ys_X11_would ⟨Nat.le_of_ble_eq_true rfl, Nat.le_of_ble_eq_true rfl⟩ ⟨Nat.le_of_ble_eq_true rfl, Nat.le_of_ble_eq_true rfl⟩ g285 rfl rfl (fun _ => Nat.le_of_ble_eq_true rfl) ?_
    refine J_icmp_eq (pc := 1076) C dL_law_1076 (tgt := 1196) (by decide) hf (fun _ hf => ?_) (fun _ hf => ?_)
    · refine J_sub [0, 1, 2, 3] (L1 := [(0, .ref 40000), (1, .ref v1), (2, .ref v2), (3, .int v3)]) rfl ?_
      exact B1196 lr18 lh18 q283.2 v1 v2 v3 hf
    · refine J_iconst (pc := 1079) C dL_law_1079 (v := 0) (by decide) ?_
      exact absurd (Option.some.inj hf) (by decide)
  have B1046 : ∀ (lr18 : MW → Nat → Nat → Int32 → Option Int32) (lh18 : ∀ (w : MW) (v1 : Nat) (v2 : Nat) (v3 : Int32), lr18 w v1 v2 v3 = some 1 → JW p l e room_1 s m #[Value.ref b] below meth c 4 D dA (fun q : Nat => s.heap.size ≤ q) E (lw_Z below #[Value.ref b] s) 130 31603 18 [(0, .ref 40000), (1, .ref v1), (2, .ref v2), (3, .int v3)] [] w) (w : MW) (v1 : Nat) (v2 : Nat) (v3 : Int32) (s0 : Nat) (s1 : Int32) (s2 : Int32) (s3 : Int32), f_law_1046 fu Ln xs lr18 w v1 v2 v3 s0 s1 s2 s3 = some 1 → JW p l e room_1 s m #[Value.ref b] below meth c 4 D dA (fun q : Nat => s.heap.size ≤ q) E (lw_Z below #[Value.ref b] s) 130 31603 1046 [(0, .ref 40000), (1, .ref v1), (2, .ref v2), (3, .int v3)] [.int s3, .int s2, .int s1, .ref s0] w := by
    intro lr18 lh18 w v1 v2 v3 s0 s1 s2 s3 hf
    rw [f_law_1046] at hf
    obtain ⟨q277, h278, hf⟩ := bind_ok hf
    obtain ⟨_, g279, h278⟩ := cl_spec h278
    refine J_cV (S := []) (pc := 1046) C dL_law_1046 (c_X10_would _ _ _ _ _ _ h278) k_950 ys_X10_would ⟨Nat.le_of_ble_eq_true rfl, Nat.le_of_ble_eq_true rfl⟩ ⟨Nat.le_of_ble_eq_true rfl, Nat.le_of_ble_eq_true rfl⟩ g279 rfl rfl (fun _ => Nat.le_of_ble_eq_true rfl) ?_
    refine J_aload_n (pc := 1049) C dL_law_1049 rfl 2 rfl ?_
    refine J_aload_n (pc := 1050) C dL_law_1050 rfl 0 rfl ?_
    refine J_iload_n (pc := 1051) C dL_law_1051 rfl 3 rfl ?_
    refine J_iconst (pc := 1052) C dL_law_1052 (v := 1) (by decide) ?_
    refine J_iadd (pc := 1053) C dL_law_1053 ?_
    refine J_sld (pc := 1054) C dL_law_1054 hX hbl hbA hf (fun x280 hf => ?_)
    refine J_aload_n (pc := 1055) C dL_law_1055 rfl 0 rfl ?_
    refine J_iload_n (pc := 1056) C dL_law_1056 rfl 3 rfl ?_
    refine J_iconst (pc := 1057) C dL_law_1057 (v := 2) (by decide) ?_
    refine J_iadd (pc := 1058) C dL_law_1058 ?_
    refine J_sld (pc := 1059) C dL_law_1059 hX hbl hbA hf (fun x281 hf => ?_)
    refine J_aload_n (pc := 1060) C dL_law_1060 rfl 0 rfl ?_
    refine J_iload_n (pc := 1061) C dL_law_1061 rfl 3 rfl ?_
    refine J_iconst (pc := 1062) C dL_law_1062 (v := 3) (by decide) ?_
    refine J_iadd (pc := 1063) C dL_law_1063 ?_
    refine J_sld (pc := 1064) C dL_law_1064 hX hbl hbA hf (fun x282 hf => ?_)
    refine J_if_eq (pc := 1065) C dL_law_1065 (tgt := 1072) (by decide) hf (fun _ hf => ?_) (fun _ hf => ?_)
    · refine J_iconst (pc := 1072) C dL_law_1072 (v := 0) (by decide) ?_
      refine J_sub [0, 1, 2, 3] (L1 := [(0, .ref 40000), (1, .ref v1), (2, .ref v2), (3, .int v3)]) rfl ?_
      exact B1073 lr18 lh18 q277.2 v1 v2 v3 q277.1 v2 x280 x281 (0 : Int32) hf
    · refine J_iconst (pc := 1068) C dL_law_1068 (v := 1) (by decide) ?_
      refine J_goto (pc := 1069) C dL_law_1069 (tgt := 1073) (by decide) ?_
      refine J_sub [0, 1, 2, 3] (L1 := [(0, .ref 40000), (1, .ref v1), (2, .ref v2), (3, .int v3)]) rfl ?_
      exact B1073 lr18 lh18 q277.2 v1 v2 v3 q277.1 v2 x280 x281 (1 : Int32) hf
  have B18 : ∀ (n : Nat) (w : MW) (v1 : Nat) (v2 : Nat) (v3 : Int32), f_law_18 fu Ln xs n w v1 v2 v3 = some 1 → JW p l e room_1 s m #[Value.ref b] below meth c 4 D dA (fun q : Nat => s.heap.size ≤ q) E (lw_Z below #[Value.ref b] s) 130 31603 18 [(0, .ref 40000), (1, .ref v1), (2, .ref v2), (3, .int v3)] [] w := by
    intro n
    induction n with
    | zero => intro w v1 v2 v3 hf; rw [f_law_18] at hf; cases hf
    | succ n ih =>
      intro w v1 v2 v3 hf
      rw [f_law_18] at hf
      refine J_iload_n (pc := 18) C dL_law_18 rfl 3 rfl ?_
      refine J_aload_n (pc := 19) C dL_law_19 rfl 0 rfl ?_
      refine J_slen (pc := 20) C dL_law_20 hX hbl hbA ?_
      refine J_bipush (pc := 21) C dL_law_21 (v := 6) (by decide) ?_
      refine J_isub (pc := 23) C dL_law_23 ?_
      refine J_icmp_gt (pc := 24) C dL_law_24 (tgt := 1202) (by decide) hf (fun _ hf => ?_) (fun _ hf => ?_)
      · refine J_iconst (pc := 1202) C dL_law_1202 (v := 1) (by decide) ?_
        exact J_lawret (pc := 1203) C (by decide) (by decide) dL_law_1203
      · refine J_aload_n (pc := 27) C dL_law_27 rfl 0 rfl ?_
        refine J_iload_n (pc := 28) C dL_law_28 rfl 3 rfl ?_
        refine J_sld (pc := 29) C dL_law_29 hX hbl hbA hf (fun x1 hf => ?_)
        refine J_bipush (pc := 30) C dL_law_30 (v := 31) (by decide) ?_
        refine J_iand (pc := 32) C dL_law_32 ?_
        refine J_case (v := 0) hf (fun g2 hf => ?_) (fun g2 hf => ?_)
        · refine J_tabIn (pc := 33) C dL_law_33 (tgt := 168) (by rw [g2]; decide) (by rw [g2]; decide) (by rw [g2]; rfl) (by decide) ?_
          refine J_aload_n (pc := 168) C dL_law_168 rfl 1 rfl ?_
          refine J_aload_n (pc := 169) C dL_law_169 rfl 0 rfl ?_
          refine J_iload_n (pc := 170) C dL_law_170 rfl 3 rfl ?_
          refine J_iconst (pc := 171) C dL_law_171 (v := 1) (by decide) ?_
          refine J_iadd (pc := 172) C dL_law_172 ?_
          refine J_sld (pc := 173) C dL_law_173 hX hbl hbA hf (fun x3 hf => ?_)
          refine J_aload_n (pc := 174) C dL_law_174 rfl 0 rfl ?_
          refine J_iload_n (pc := 175) C dL_law_175 rfl 3 rfl ?_
          refine J_iconst (pc := 176) C dL_law_176 (v := 2) (by decide) ?_
          refine J_iadd (pc := 177) C dL_law_177 ?_
          refine J_sld (pc := 178) C dL_law_178 hX hbl hbA hf (fun x4 hf => ?_)
          refine J_aload_n (pc := 179) C dL_law_179 rfl 0 rfl ?_
          refine J_iload_n (pc := 180) C dL_law_180 rfl 3 rfl ?_
          refine J_iconst (pc := 181) C dL_law_181 (v := 3) (by decide) ?_
          refine J_iadd (pc := 182) C dL_law_182 ?_
          refine J_sld (pc := 183) C dL_law_183 hX hbl hbA hf (fun x5 hf => ?_)
          refine J_aload_n (pc := 184) C dL_law_184 rfl 0 rfl ?_
          refine J_iload_n (pc := 185) C dL_law_185 rfl 3 rfl ?_
          refine J_iconst (pc := 186) C dL_law_186 (v := 4) (by decide) ?_
          refine J_iadd (pc := 187) C dL_law_187 ?_
          refine J_sld (pc := 188) C dL_law_188 hX hbl hbA hf (fun x6 hf => ?_)
          refine J_aload_n (pc := 189) C dL_law_189 rfl 0 rfl ?_
          refine J_iload_n (pc := 190) C dL_law_190 rfl 3 rfl ?_
          refine J_iconst (pc := 191) C dL_law_191 (v := 5) (by decide) ?_
          refine J_iadd (pc := 192) C dL_law_192 ?_
          refine J_sld (pc := 193) C dL_law_193 hX hbl hbA hf (fun x7 hf => ?_)
          obtain ⟨q8, h9, hf⟩ := bind_ok hf
          obtain ⟨_, g10, h9⟩ := cl_spec h9
          refine J_cV (S := []) (pc := 194) C dL_law_194 (c_X10_feed _ _ _ _ _ _ _ h9) k_396 ys_X10_feed ⟨Nat.le_of_ble_eq_true rfl, Nat.le_of_ble_eq_true rfl⟩ ⟨Nat.le_of_ble_eq_true rfl, Nat.le_of_ble_eq_true rfl⟩ g10 rfl rfl (fun _ => Nat.le_of_ble_eq_true rfl) ?_
          refine J_aload_n (pc := 197) C dL_law_197 rfl 2 rfl ?_
          refine J_aload_n (pc := 198) C dL_law_198 rfl 0 rfl ?_
          refine J_iload_n (pc := 199) C dL_law_199 rfl 3 rfl ?_
          refine J_iconst (pc := 200) C dL_law_200 (v := 1) (by decide) ?_
          refine J_iadd (pc := 201) C dL_law_201 ?_
          refine J_sld (pc := 202) C dL_law_202 hX hbl hbA hf (fun x11 hf => ?_)
          refine J_aload_n (pc := 203) C dL_law_203 rfl 0 rfl ?_
          refine J_iload_n (pc := 204) C dL_law_204 rfl 3 rfl ?_
          refine J_iconst (pc := 205) C dL_law_205 (v := 2) (by decide) ?_
          refine J_iadd (pc := 206) C dL_law_206 ?_
          refine J_sld (pc := 207) C dL_law_207 hX hbl hbA hf (fun x12 hf => ?_)
          refine J_aload_n (pc := 208) C dL_law_208 rfl 0 rfl ?_
          refine J_iload_n (pc := 209) C dL_law_209 rfl 3 rfl ?_
          refine J_iconst (pc := 210) C dL_law_210 (v := 3) (by decide) ?_
          refine J_iadd (pc := 211) C dL_law_211 ?_
          refine J_sld (pc := 212) C dL_law_212 hX hbl hbA hf (fun x13 hf => ?_)
          refine J_aload_n (pc := 213) C dL_law_213 rfl 0 rfl ?_
          refine J_iload_n (pc := 214) C dL_law_214 rfl 3 rfl ?_
          refine J_iconst (pc := 215) C dL_law_215 (v := 4) (by decide) ?_
          refine J_iadd (pc := 216) C dL_law_216 ?_
          refine J_sld (pc := 217) C dL_law_217 hX hbl hbA hf (fun x14 hf => ?_)
          refine J_aload_n (pc := 218) C dL_law_218 rfl 0 rfl ?_
          refine J_iload_n (pc := 219) C dL_law_219 rfl 3 rfl ?_
          refine J_iconst (pc := 220) C dL_law_220 (v := 5) (by decide) ?_
          refine J_iadd (pc := 221) C dL_law_221 ?_
          refine J_sld (pc := 222) C dL_law_222 hX hbl hbA hf (fun x15 hf => ?_)
          obtain ⟨q16, h17, hf⟩ := bind_ok hf
          obtain ⟨_, g18, h17⟩ := cl_spec h17
          refine J_cV (S := [.int q8.1]) (pc := 223) C dL_law_223 (c_X11_feed _ _ _ _ _ _ _ _ h17) k_1365 ys_X11_feed ⟨Nat.le_of_ble_eq_true rfl, Nat.le_of_ble_eq_true rfl⟩ ⟨Nat.le_of_ble_eq_true rfl, Nat.le_of_ble_eq_true rfl⟩ g18 rfl rfl (fun _ => Nat.le_of_ble_eq_true rfl) ?_
          refine J_icmp_eq (pc := 226) C dL_law_226 (tgt := 1196) (by decide) hf (fun _ hf => ?_) (fun _ hf => ?_)
          · refine J_sub [0, 1, 2, 3] (L1 := [(0, .ref 40000), (1, .ref v1), (2, .ref v2), (3, .int v3)]) rfl ?_
            exact B1196 (f_law_18 fu Ln xs n) ih q16.2 v1 v2 v3 hf
          · refine J_iconst (pc := 229) C dL_law_229 (v := 0) (by decide) ?_
            exact absurd (Option.some.inj hf) (by decide)
        refine J_case (v := 1) hf (fun g20 hf => ?_) (fun g20 hf => ?_)
        · refine J_tabIn (pc := 33) C dL_law_33 (tgt := 231) (by rw [g20]; decide) (by rw [g20]; decide) (by rw [g20]; rfl) (by decide) ?_
          refine J_aload_n (pc := 231) C dL_law_231 rfl 1 rfl ?_
          refine J_aload_n (pc := 232) C dL_law_232 rfl 0 rfl ?_
          refine J_iload_n (pc := 233) C dL_law_233 rfl 3 rfl ?_
          refine J_iconst (pc := 234) C dL_law_234 (v := 1) (by decide) ?_
          refine J_iadd (pc := 235) C dL_law_235 ?_
          refine J_sld (pc := 236) C dL_law_236 hX hbl hbA hf (fun x21 hf => ?_)
          obtain ⟨q22, h23, hf⟩ := bind_ok hf
          obtain ⟨_, g24, h23⟩ := cl_spec h23
          refine J_cV (S := []) (pc := 237) C dL_law_237 (c_X10_end _ _ _ h23) k_408 ys_X10_end ⟨Nat.le_of_ble_eq_true rfl, Nat.le_of_ble_eq_true rfl⟩ ⟨Nat.le_of_ble_eq_true rfl, Nat.le_of_ble_eq_true rfl⟩ g24 rfl rfl (fun _ => Nat.le_of_ble_eq_true rfl) ?_
          refine J_aload_n (pc := 240) C dL_law_240 rfl 2 rfl ?_
          refine J_aload_n (pc := 241) C dL_law_241 rfl 0 rfl ?_
          refine J_iload_n (pc := 242) C dL_law_242 rfl 3 rfl ?_
          refine J_iconst (pc := 243) C dL_law_243 (v := 1) (by decide) ?_
          refine J_iadd (pc := 244) C dL_law_244 ?_
          refine J_sld (pc := 245) C dL_law_245 hX hbl hbA hf (fun x25 hf => ?_)
          obtain ⟨q26, h27, hf⟩ := bind_ok hf
          obtain ⟨_, g28, h27⟩ := cl_spec h27
          refine J_cV (S := [.int q22.1]) (pc := 246) C dL_law_246 (c_X11_end _ _ _ h27) k_1369 ys_X11_end ⟨Nat.le_of_ble_eq_true rfl, Nat.le_of_ble_eq_true rfl⟩ ⟨Nat.le_of_ble_eq_true rfl, Nat.le_of_ble_eq_true rfl⟩ g28 rfl rfl (fun _ => Nat.le_of_ble_eq_true rfl) ?_
          refine J_icmp_eq (pc := 249) C dL_law_249 (tgt := 1196) (by decide) hf (fun _ hf => ?_) (fun _ hf => ?_)
          · refine J_sub [0, 1, 2, 3] (L1 := [(0, .ref 40000), (1, .ref v1), (2, .ref v2), (3, .int v3)]) rfl ?_
            exact B1196 (f_law_18 fu Ln xs n) ih q26.2 v1 v2 v3 hf
          · refine J_iconst (pc := 252) C dL_law_252 (v := 0) (by decide) ?_
            exact absurd (Option.some.inj hf) (by decide)
        refine J_case (v := 2) hf (fun g29 hf => ?_) (fun g29 hf => ?_)
        · refine J_tabIn (pc := 33) C dL_law_33 (tgt := 254) (by rw [g29]; decide) (by rw [g29]; decide) (by rw [g29]; rfl) (by decide) ?_
          refine J_aload_n (pc := 254) C dL_law_254 rfl 1 rfl ?_
          obtain ⟨q30, h31, hf⟩ := bind_ok hf
          obtain ⟨_, g32, h31⟩ := cl_spec h31
          refine J_cV (S := []) (pc := 255) C dL_law_255 (c_X10_text _ _ _ h31) k_412 ys_X10_text ⟨Nat.le_of_ble_eq_true rfl, Nat.le_of_ble_eq_true rfl⟩ ⟨Nat.le_of_ble_eq_true rfl, Nat.le_of_ble_eq_true rfl⟩ g32 rfl rfl (fun _ => Nat.le_of_ble_eq_true rfl) ?_
          refine J_aload_n (pc := 258) C dL_law_258 rfl 2 rfl ?_
          obtain ⟨q33, h34, hf⟩ := bind_ok hf
          obtain ⟨_, g35, h34⟩ := cl_spec h34
          refine J_cV (S := [.int q30.1]) (pc := 259) C dL_law_259 (c_X11_text _ _ _ h34) k_1377 ys_X11_text ⟨Nat.le_of_ble_eq_true rfl, Nat.le_of_ble_eq_true rfl⟩ ⟨Nat.le_of_ble_eq_true rfl, Nat.le_of_ble_eq_true rfl⟩ g35 rfl rfl (fun _ => Nat.le_of_ble_eq_true rfl) ?_
          refine J_icmp_eq (pc := 262) C dL_law_262 (tgt := 1196) (by decide) hf (fun _ hf => ?_) (fun _ hf => ?_)
          · refine J_sub [0, 1, 2, 3] (L1 := [(0, .ref 40000), (1, .ref v1), (2, .ref v2), (3, .int v3)]) rfl ?_
            exact B1196 (f_law_18 fu Ln xs n) ih q33.2 v1 v2 v3 hf
          · refine J_iconst (pc := 265) C dL_law_265 (v := 0) (by decide) ?_
            exact absurd (Option.some.inj hf) (by decide)
        refine J_case (v := 3) hf (fun g36 hf => ?_) (fun g36 hf => ?_)
        · refine J_tabIn (pc := 33) C dL_law_33 (tgt := 267) (by rw [g36]; decide) (by rw [g36]; decide) (by rw [g36]; rfl) (by decide) ?_
          refine J_aload_n (pc := 267) C dL_law_267 rfl 1 rfl ?_
          refine J_aload_n (pc := 268) C dL_law_268 rfl 0 rfl ?_
          refine J_iload_n (pc := 269) C dL_law_269 rfl 3 rfl ?_
          refine J_iconst (pc := 270) C dL_law_270 (v := 1) (by decide) ?_
          refine J_iadd (pc := 271) C dL_law_271 ?_
          refine J_sld (pc := 272) C dL_law_272 hX hbl hbA hf (fun x37 hf => ?_)
          obtain ⟨q38, h39, hf⟩ := bind_ok hf
          obtain ⟨_, g40, h39⟩ := cl_spec h39
          refine J_cV (S := []) (pc := 273) C dL_law_273 (c_X10_fault _ _ _ h39) k_686 ys_X10_fault ⟨Nat.le_of_ble_eq_true rfl, Nat.le_of_ble_eq_true rfl⟩ ⟨Nat.le_of_ble_eq_true rfl, Nat.le_of_ble_eq_true rfl⟩ g40 rfl rfl (fun _ => Nat.le_of_ble_eq_true rfl) ?_
          refine J_aload_n (pc := 276) C dL_law_276 rfl 2 rfl ?_
          refine J_aload_n (pc := 277) C dL_law_277 rfl 0 rfl ?_
          refine J_iload_n (pc := 278) C dL_law_278 rfl 3 rfl ?_
          refine J_iconst (pc := 279) C dL_law_279 (v := 1) (by decide) ?_
          refine J_iadd (pc := 280) C dL_law_280 ?_
          refine J_sld (pc := 281) C dL_law_281 hX hbl hbA hf (fun x41 hf => ?_)
          obtain ⟨q42, h43, hf⟩ := bind_ok hf
          obtain ⟨_, g44, h43⟩ := cl_spec h43
          refine J_cV (S := [.int q38]) (pc := 282) C dL_law_282 (c_X11_fault _ _ _ h43) k_1373 ys_X11_fault ⟨Nat.le_of_ble_eq_true rfl, Nat.le_of_ble_eq_true rfl⟩ ⟨Nat.le_of_ble_eq_true rfl, Nat.le_of_ble_eq_true rfl⟩ g44 rfl rfl (fun _ => Nat.le_of_ble_eq_true rfl) ?_
          refine J_icmp_eq (pc := 285) C dL_law_285 (tgt := 1196) (by decide) hf (fun _ hf => ?_) (fun _ hf => ?_)
          · refine J_sub [0, 1, 2, 3] (L1 := [(0, .ref 40000), (1, .ref v1), (2, .ref v2), (3, .int v3)]) rfl ?_
            exact B1196 (f_law_18 fu Ln xs n) ih w v1 v2 v3 hf
          · refine J_iconst (pc := 288) C dL_law_288 (v := 0) (by decide) ?_
            exact absurd (Option.some.inj hf) (by decide)
        refine J_case (v := 4) hf (fun g45 hf => ?_) (fun g45 hf => ?_)
        · refine J_tabIn (pc := 33) C dL_law_33 (tgt := 290) (by rw [g45]; decide) (by rw [g45]; decide) (by rw [g45]; rfl) (by decide) ?_
          refine J_aload_n (pc := 290) C dL_law_290 rfl 1 rfl ?_
          refine J_aload_n (pc := 291) C dL_law_291 rfl 0 rfl ?_
          refine J_iload_n (pc := 292) C dL_law_292 rfl 3 rfl ?_
          refine J_iconst (pc := 293) C dL_law_293 (v := 1) (by decide) ?_
          refine J_iadd (pc := 294) C dL_law_294 ?_
          refine J_sld (pc := 295) C dL_law_295 hX hbl hbA hf (fun x46 hf => ?_)
          refine J_aload_n (pc := 296) C dL_law_296 rfl 0 rfl ?_
          refine J_iload_n (pc := 297) C dL_law_297 rfl 3 rfl ?_
          refine J_iconst (pc := 298) C dL_law_298 (v := 2) (by decide) ?_
          refine J_iadd (pc := 299) C dL_law_299 ?_
          refine J_sld (pc := 300) C dL_law_300 hX hbl hbA hf (fun x47 hf => ?_)
          obtain ⟨q48, h49, hf⟩ := bind_ok hf
          obtain ⟨_, g50, h49⟩ := cl_spec h49
          refine J_cV (S := []) (pc := 301) C dL_law_301 (c_X10_put _ _ _ _ _ h49) k_690 ys_X10_put ⟨Nat.le_of_ble_eq_true rfl, Nat.le_of_ble_eq_true rfl⟩ ⟨Nat.le_of_ble_eq_true rfl, Nat.le_of_ble_eq_true rfl⟩ g50 rfl rfl (fun _ => Nat.le_of_ble_eq_true rfl) ?_
          refine J_aload_n (pc := 304) C dL_law_304 rfl 2 rfl ?_
          refine J_aload_n (pc := 305) C dL_law_305 rfl 0 rfl ?_
          refine J_iload_n (pc := 306) C dL_law_306 rfl 3 rfl ?_
          refine J_iconst (pc := 307) C dL_law_307 (v := 1) (by decide) ?_
          refine J_iadd (pc := 308) C dL_law_308 ?_
          refine J_sld (pc := 309) C dL_law_309 hX hbl hbA hf (fun x51 hf => ?_)
          refine J_aload_n (pc := 310) C dL_law_310 rfl 0 rfl ?_
          refine J_iload_n (pc := 311) C dL_law_311 rfl 3 rfl ?_
          refine J_iconst (pc := 312) C dL_law_312 (v := 2) (by decide) ?_
          refine J_iadd (pc := 313) C dL_law_313 ?_
          refine J_sld (pc := 314) C dL_law_314 hX hbl hbA hf (fun x52 hf => ?_)
          obtain ⟨q53, h54, hf⟩ := bind_ok hf
          obtain ⟨_, g55, h54⟩ := cl_spec h54
          refine J_cV (S := [.int q48.1]) (pc := 315) C dL_law_315 (c_X11_put _ _ _ _ _ h54) k_1086 ys_X11_put ⟨Nat.le_of_ble_eq_true rfl, Nat.le_of_ble_eq_true rfl⟩ ⟨Nat.le_of_ble_eq_true rfl, Nat.le_of_ble_eq_true rfl⟩ g55 rfl rfl (fun _ => Nat.le_of_ble_eq_true rfl) ?_
          refine J_icmp_eq (pc := 318) C dL_law_318 (tgt := 1196) (by decide) hf (fun _ hf => ?_) (fun _ hf => ?_)
          · refine J_sub [0, 1, 2, 3] (L1 := [(0, .ref 40000), (1, .ref v1), (2, .ref v2), (3, .int v3)]) rfl ?_
            exact B1196 (f_law_18 fu Ln xs n) ih q53.2 v1 v2 v3 hf
          · refine J_iconst (pc := 321) C dL_law_321 (v := 0) (by decide) ?_
            exact absurd (Option.some.inj hf) (by decide)
        refine J_case (v := 5) hf (fun g56 hf => ?_) (fun g56 hf => ?_)
        · refine J_tabIn (pc := 33) C dL_law_33 (tgt := 323) (by rw [g56]; decide) (by rw [g56]; decide) (by rw [g56]; rfl) (by decide) ?_
          refine J_aload_n (pc := 323) C dL_law_323 rfl 1 rfl ?_
          refine J_aload_n (pc := 324) C dL_law_324 rfl 0 rfl ?_
          refine J_iload_n (pc := 325) C dL_law_325 rfl 3 rfl ?_
          refine J_iconst (pc := 326) C dL_law_326 (v := 1) (by decide) ?_
          refine J_iadd (pc := 327) C dL_law_327 ?_
          refine J_sld (pc := 328) C dL_law_328 hX hbl hbA hf (fun x57 hf => ?_)
          refine J_aload_n (pc := 329) C dL_law_329 rfl 0 rfl ?_
          refine J_iload_n (pc := 330) C dL_law_330 rfl 3 rfl ?_
          refine J_iconst (pc := 331) C dL_law_331 (v := 2) (by decide) ?_
          refine J_iadd (pc := 332) C dL_law_332 ?_
          refine J_sld (pc := 333) C dL_law_333 hX hbl hbA hf (fun x58 hf => ?_)
          obtain ⟨q59, h60, hf⟩ := bind_ok hf
          obtain ⟨_, g61, h60⟩ := cl_spec h60
          refine J_cV (S := []) (pc := 334) C dL_law_334 (c_X10_drop _ _ _ _ _ h60) k_705 ys_X10_drop ⟨Nat.le_of_ble_eq_true rfl, Nat.le_of_ble_eq_true rfl⟩ ⟨Nat.le_of_ble_eq_true rfl, Nat.le_of_ble_eq_true rfl⟩ g61 rfl rfl (fun _ => Nat.le_of_ble_eq_true rfl) ?_
          refine J_aload_n (pc := 337) C dL_law_337 rfl 2 rfl ?_
          refine J_aload_n (pc := 338) C dL_law_338 rfl 0 rfl ?_
          refine J_iload_n (pc := 339) C dL_law_339 rfl 3 rfl ?_
          refine J_iconst (pc := 340) C dL_law_340 (v := 1) (by decide) ?_
          refine J_iadd (pc := 341) C dL_law_341 ?_
          refine J_sld (pc := 342) C dL_law_342 hX hbl hbA hf (fun x62 hf => ?_)
          refine J_aload_n (pc := 343) C dL_law_343 rfl 0 rfl ?_
          refine J_iload_n (pc := 344) C dL_law_344 rfl 3 rfl ?_
          refine J_iconst (pc := 345) C dL_law_345 (v := 2) (by decide) ?_
          refine J_iadd (pc := 346) C dL_law_346 ?_
          refine J_sld (pc := 347) C dL_law_347 hX hbl hbA hf (fun x63 hf => ?_)
          obtain ⟨q64, h65, hf⟩ := bind_ok hf
          obtain ⟨_, g66, h65⟩ := cl_spec h65
          refine J_cV (S := [.int q59.1]) (pc := 348) C dL_law_348 (c_X11_drop _ _ _ _ _ h65) k_1143 ys_X11_drop ⟨Nat.le_of_ble_eq_true rfl, Nat.le_of_ble_eq_true rfl⟩ ⟨Nat.le_of_ble_eq_true rfl, Nat.le_of_ble_eq_true rfl⟩ g66 rfl rfl (fun _ => Nat.le_of_ble_eq_true rfl) ?_
          refine J_icmp_eq (pc := 351) C dL_law_351 (tgt := 1196) (by decide) hf (fun _ hf => ?_) (fun _ hf => ?_)
          · refine J_sub [0, 1, 2, 3] (L1 := [(0, .ref 40000), (1, .ref v1), (2, .ref v2), (3, .int v3)]) rfl ?_
            exact B1196 (f_law_18 fu Ln xs n) ih q64.2 v1 v2 v3 hf
          · refine J_iconst (pc := 354) C dL_law_354 (v := 0) (by decide) ?_
            exact absurd (Option.some.inj hf) (by decide)
        refine J_case (v := 6) hf (fun g67 hf => ?_) (fun g67 hf => ?_)
        · refine J_tabIn (pc := 33) C dL_law_33 (tgt := 356) (by rw [g67]; decide) (by rw [g67]; decide) (by rw [g67]; rfl) (by decide) ?_
          refine J_aload_n (pc := 356) C dL_law_356 rfl 1 rfl ?_
          refine J_aload_n (pc := 357) C dL_law_357 rfl 0 rfl ?_
          refine J_iload_n (pc := 358) C dL_law_358 rfl 3 rfl ?_
          refine J_iconst (pc := 359) C dL_law_359 (v := 1) (by decide) ?_
          refine J_iadd (pc := 360) C dL_law_360 ?_
          refine J_sld (pc := 361) C dL_law_361 hX hbl hbA hf (fun x68 hf => ?_)
          refine J_aload_n (pc := 362) C dL_law_362 rfl 0 rfl ?_
          refine J_iload_n (pc := 363) C dL_law_363 rfl 3 rfl ?_
          refine J_iconst (pc := 364) C dL_law_364 (v := 2) (by decide) ?_
          refine J_iadd (pc := 365) C dL_law_365 ?_
          refine J_sld (pc := 366) C dL_law_366 hX hbl hbA hf (fun x69 hf => ?_)
          refine J_aload_n (pc := 367) C dL_law_367 rfl 0 rfl ?_
          refine J_iload_n (pc := 368) C dL_law_368 rfl 3 rfl ?_
          refine J_iconst (pc := 369) C dL_law_369 (v := 3) (by decide) ?_
          refine J_iadd (pc := 370) C dL_law_370 ?_
          refine J_sld (pc := 371) C dL_law_371 hX hbl hbA hf (fun x70 hf => ?_)
          obtain ⟨q71, h72, hf⟩ := bind_ok hf
          obtain ⟨_, g73, h72⟩ := cl_spec h72
          refine J_cV (S := []) (pc := 372) C dL_law_372 (c_X10_cut _ _ _ _ _ _ h72) k_714 ys_X10_cut ⟨Nat.le_of_ble_eq_true rfl, Nat.le_of_ble_eq_true rfl⟩ ⟨Nat.le_of_ble_eq_true rfl, Nat.le_of_ble_eq_true rfl⟩ g73 rfl rfl (fun _ => Nat.le_of_ble_eq_true rfl) ?_
          refine J_aload_n (pc := 375) C dL_law_375 rfl 2 rfl ?_
          refine J_aload_n (pc := 376) C dL_law_376 rfl 0 rfl ?_
          refine J_iload_n (pc := 377) C dL_law_377 rfl 3 rfl ?_
          refine J_iconst (pc := 378) C dL_law_378 (v := 1) (by decide) ?_
          refine J_iadd (pc := 379) C dL_law_379 ?_
          refine J_sld (pc := 380) C dL_law_380 hX hbl hbA hf (fun x74 hf => ?_)
          refine J_aload_n (pc := 381) C dL_law_381 rfl 0 rfl ?_
          refine J_iload_n (pc := 382) C dL_law_382 rfl 3 rfl ?_
          refine J_iconst (pc := 383) C dL_law_383 (v := 2) (by decide) ?_
          refine J_iadd (pc := 384) C dL_law_384 ?_
          refine J_sld (pc := 385) C dL_law_385 hX hbl hbA hf (fun x75 hf => ?_)
          refine J_aload_n (pc := 386) C dL_law_386 rfl 0 rfl ?_
          refine J_iload_n (pc := 387) C dL_law_387 rfl 3 rfl ?_
          refine J_iconst (pc := 388) C dL_law_388 (v := 3) (by decide) ?_
          refine J_iadd (pc := 389) C dL_law_389 ?_
          refine J_sld (pc := 390) C dL_law_390 hX hbl hbA hf (fun x76 hf => ?_)
          obtain ⟨q77, h78, hf⟩ := bind_ok hf
          obtain ⟨_, g79, h78⟩ := cl_spec h78
          refine J_cV (S := [.int q71.1]) (pc := 391) C dL_law_391 (c_X11_cut _ _ _ _ _ _ h78) k_1151 ys_X11_cut ⟨Nat.le_of_ble_eq_true rfl, Nat.le_of_ble_eq_true rfl⟩ ⟨Nat.le_of_ble_eq_true rfl, Nat.le_of_ble_eq_true rfl⟩ g79 rfl rfl (fun _ => Nat.le_of_ble_eq_true rfl) ?_
          refine J_icmp_eq (pc := 394) C dL_law_394 (tgt := 1196) (by decide) hf (fun _ hf => ?_) (fun _ hf => ?_)
          · refine J_sub [0, 1, 2, 3] (L1 := [(0, .ref 40000), (1, .ref v1), (2, .ref v2), (3, .int v3)]) rfl ?_
            exact B1196 (f_law_18 fu Ln xs n) ih q77.2 v1 v2 v3 hf
          · refine J_iconst (pc := 397) C dL_law_397 (v := 0) (by decide) ?_
            exact absurd (Option.some.inj hf) (by decide)
        refine J_case (v := 7) hf (fun g80 hf => ?_) (fun g80 hf => ?_)
        · refine J_tabIn (pc := 33) C dL_law_33 (tgt := 399) (by rw [g80]; decide) (by rw [g80]; decide) (by rw [g80]; rfl) (by decide) ?_
          refine J_aload_n (pc := 399) C dL_law_399 rfl 1 rfl ?_
          refine J_aload_n (pc := 400) C dL_law_400 rfl 0 rfl ?_
          refine J_iload_n (pc := 401) C dL_law_401 rfl 3 rfl ?_
          refine J_iconst (pc := 402) C dL_law_402 (v := 1) (by decide) ?_
          refine J_iadd (pc := 403) C dL_law_403 ?_
          refine J_sld (pc := 404) C dL_law_404 hX hbl hbA hf (fun x81 hf => ?_)
          refine J_aload_n (pc := 405) C dL_law_405 rfl 0 rfl ?_
          refine J_iload_n (pc := 406) C dL_law_406 rfl 3 rfl ?_
          refine J_iconst (pc := 407) C dL_law_407 (v := 2) (by decide) ?_
          refine J_iadd (pc := 408) C dL_law_408 ?_
          refine J_sld (pc := 409) C dL_law_409 hX hbl hbA hf (fun x82 hf => ?_)
          obtain ⟨q83, h84, hf⟩ := bind_ok hf
          obtain ⟨_, g85, h84⟩ := cl_spec h84
          refine J_cV (S := []) (pc := 410) C dL_law_410 (c_X10_join _ _ _ _ _ h84) k_719 ys_X10_join ⟨Nat.le_of_ble_eq_true rfl, Nat.le_of_ble_eq_true rfl⟩ ⟨Nat.le_of_ble_eq_true rfl, Nat.le_of_ble_eq_true rfl⟩ g85 rfl rfl (fun _ => Nat.le_of_ble_eq_true rfl) ?_
          refine J_aload_n (pc := 413) C dL_law_413 rfl 2 rfl ?_
          refine J_aload_n (pc := 414) C dL_law_414 rfl 0 rfl ?_
          refine J_iload_n (pc := 415) C dL_law_415 rfl 3 rfl ?_
          refine J_iconst (pc := 416) C dL_law_416 (v := 1) (by decide) ?_
          refine J_iadd (pc := 417) C dL_law_417 ?_
          refine J_sld (pc := 418) C dL_law_418 hX hbl hbA hf (fun x86 hf => ?_)
          refine J_aload_n (pc := 419) C dL_law_419 rfl 0 rfl ?_
          refine J_iload_n (pc := 420) C dL_law_420 rfl 3 rfl ?_
          refine J_iconst (pc := 421) C dL_law_421 (v := 2) (by decide) ?_
          refine J_iadd (pc := 422) C dL_law_422 ?_
          refine J_sld (pc := 423) C dL_law_423 hX hbl hbA hf (fun x87 hf => ?_)
          obtain ⟨q88, h89, hf⟩ := bind_ok hf
          obtain ⟨_, g90, h89⟩ := cl_spec h89
          refine J_cV (S := [.int q83.1]) (pc := 424) C dL_law_424 (c_X11_join _ _ _ _ _ h89) k_1175 ys_X11_join ⟨Nat.le_of_ble_eq_true rfl, Nat.le_of_ble_eq_true rfl⟩ ⟨Nat.le_of_ble_eq_true rfl, Nat.le_of_ble_eq_true rfl⟩ g90 rfl rfl (fun _ => Nat.le_of_ble_eq_true rfl) ?_
          refine J_icmp_eq (pc := 427) C dL_law_427 (tgt := 1196) (by decide) hf (fun _ hf => ?_) (fun _ hf => ?_)
          · refine J_sub [0, 1, 2, 3] (L1 := [(0, .ref 40000), (1, .ref v1), (2, .ref v2), (3, .int v3)]) rfl ?_
            exact B1196 (f_law_18 fu Ln xs n) ih q88.2 v1 v2 v3 hf
          · refine J_iconst (pc := 430) C dL_law_430 (v := 0) (by decide) ?_
            exact absurd (Option.some.inj hf) (by decide)
        refine J_case (v := 8) hf (fun g91 hf => ?_) (fun g91 hf => ?_)
        · refine J_tabIn (pc := 33) C dL_law_33 (tgt := 432) (by rw [g91]; decide) (by rw [g91]; decide) (by rw [g91]; rfl) (by decide) ?_
          refine J_aload_n (pc := 432) C dL_law_432 rfl 1 rfl ?_
          refine J_aload_n (pc := 433) C dL_law_433 rfl 0 rfl ?_
          refine J_iload_n (pc := 434) C dL_law_434 rfl 3 rfl ?_
          refine J_iconst (pc := 435) C dL_law_435 (v := 1) (by decide) ?_
          refine J_iadd (pc := 436) C dL_law_436 ?_
          refine J_sld (pc := 437) C dL_law_437 hX hbl hbA hf (fun x92 hf => ?_)
          refine J_aload_n (pc := 438) C dL_law_438 rfl 0 rfl ?_
          refine J_iload_n (pc := 439) C dL_law_439 rfl 3 rfl ?_
          refine J_iconst (pc := 440) C dL_law_440 (v := 2) (by decide) ?_
          refine J_iadd (pc := 441) C dL_law_441 ?_
          refine J_sld (pc := 442) C dL_law_442 hX hbl hbA hf (fun x93 hf => ?_)
          obtain ⟨q94, h95, hf⟩ := bind_ok hf
          obtain ⟨_, g96, h95⟩ := cl_spec h95
          refine J_cV (S := []) (pc := 443) C dL_law_443 (c_X10_melt _ _ _ _ _ h95) k_724 ys_X10_melt ⟨Nat.le_of_ble_eq_true rfl, Nat.le_of_ble_eq_true rfl⟩ ⟨Nat.le_of_ble_eq_true rfl, Nat.le_of_ble_eq_true rfl⟩ g96 rfl rfl (fun _ => Nat.le_of_ble_eq_true rfl) ?_
          refine J_aload_n (pc := 446) C dL_law_446 rfl 2 rfl ?_
          refine J_aload_n (pc := 447) C dL_law_447 rfl 0 rfl ?_
          refine J_iload_n (pc := 448) C dL_law_448 rfl 3 rfl ?_
          refine J_iconst (pc := 449) C dL_law_449 (v := 1) (by decide) ?_
          refine J_iadd (pc := 450) C dL_law_450 ?_
          refine J_sld (pc := 451) C dL_law_451 hX hbl hbA hf (fun x97 hf => ?_)
          refine J_aload_n (pc := 452) C dL_law_452 rfl 0 rfl ?_
          refine J_iload_n (pc := 453) C dL_law_453 rfl 3 rfl ?_
          refine J_iconst (pc := 454) C dL_law_454 (v := 2) (by decide) ?_
          refine J_iadd (pc := 455) C dL_law_455 ?_
          refine J_sld (pc := 456) C dL_law_456 hX hbl hbA hf (fun x98 hf => ?_)
          obtain ⟨q99, h100, hf⟩ := bind_ok hf
          obtain ⟨_, g101, h100⟩ := cl_spec h100
          refine J_cV (S := [.int q94.1]) (pc := 457) C dL_law_457 (c_X11_melt _ _ _ _ _ h100) k_1183 ys_X11_melt ⟨Nat.le_of_ble_eq_true rfl, Nat.le_of_ble_eq_true rfl⟩ ⟨Nat.le_of_ble_eq_true rfl, Nat.le_of_ble_eq_true rfl⟩ g101 rfl rfl (fun _ => Nat.le_of_ble_eq_true rfl) ?_
          refine J_icmp_eq (pc := 460) C dL_law_460 (tgt := 1196) (by decide) hf (fun _ hf => ?_) (fun _ hf => ?_)
          · refine J_sub [0, 1, 2, 3] (L1 := [(0, .ref 40000), (1, .ref v1), (2, .ref v2), (3, .int v3)]) rfl ?_
            exact B1196 (f_law_18 fu Ln xs n) ih q99.2 v1 v2 v3 hf
          · refine J_iconst (pc := 463) C dL_law_463 (v := 0) (by decide) ?_
            exact absurd (Option.some.inj hf) (by decide)
        refine J_case (v := 9) hf (fun g102 hf => ?_) (fun g102 hf => ?_)
        · refine J_tabIn (pc := 33) C dL_law_33 (tgt := 465) (by rw [g102]; decide) (by rw [g102]; decide) (by rw [g102]; rfl) (by decide) ?_
          refine J_aload_n (pc := 465) C dL_law_465 rfl 1 rfl ?_
          refine J_aload_n (pc := 466) C dL_law_466 rfl 0 rfl ?_
          refine J_iload_n (pc := 467) C dL_law_467 rfl 3 rfl ?_
          refine J_iconst (pc := 468) C dL_law_468 (v := 1) (by decide) ?_
          refine J_iadd (pc := 469) C dL_law_469 ?_
          refine J_sld (pc := 470) C dL_law_470 hX hbl hbA hf (fun x103 hf => ?_)
          refine J_aload_n (pc := 471) C dL_law_471 rfl 0 rfl ?_
          refine J_iload_n (pc := 472) C dL_law_472 rfl 3 rfl ?_
          refine J_iconst (pc := 473) C dL_law_473 (v := 2) (by decide) ?_
          refine J_iadd (pc := 474) C dL_law_474 ?_
          refine J_sld (pc := 475) C dL_law_475 hX hbl hbA hf (fun x104 hf => ?_)
          obtain ⟨q105, h106, hf⟩ := bind_ok hf
          obtain ⟨_, g107, h106⟩ := cl_spec h106
          refine J_cV (S := []) (pc := 476) C dL_law_476 (c_X10_shift _ _ _ _ _ h106) k_729 ys_X10_shift ⟨Nat.le_of_ble_eq_true rfl, Nat.le_of_ble_eq_true rfl⟩ ⟨Nat.le_of_ble_eq_true rfl, Nat.le_of_ble_eq_true rfl⟩ g107 rfl rfl (fun _ => Nat.le_of_ble_eq_true rfl) ?_
          refine J_aload_n (pc := 479) C dL_law_479 rfl 2 rfl ?_
          refine J_aload_n (pc := 480) C dL_law_480 rfl 0 rfl ?_
          refine J_iload_n (pc := 481) C dL_law_481 rfl 3 rfl ?_
          refine J_iconst (pc := 482) C dL_law_482 (v := 1) (by decide) ?_
          refine J_iadd (pc := 483) C dL_law_483 ?_
          refine J_sld (pc := 484) C dL_law_484 hX hbl hbA hf (fun x108 hf => ?_)
          refine J_aload_n (pc := 485) C dL_law_485 rfl 0 rfl ?_
          refine J_iload_n (pc := 486) C dL_law_486 rfl 3 rfl ?_
          refine J_iconst (pc := 487) C dL_law_487 (v := 2) (by decide) ?_
          refine J_iadd (pc := 488) C dL_law_488 ?_
          refine J_sld (pc := 489) C dL_law_489 hX hbl hbA hf (fun x109 hf => ?_)
          obtain ⟨q110, h111, hf⟩ := bind_ok hf
          obtain ⟨_, g112, h111⟩ := cl_spec h111
          refine J_cV (S := [.int q105.1]) (pc := 490) C dL_law_490 (c_X11_shift _ _ _ _ _ h111) k_1207 ys_X11_shift ⟨Nat.le_of_ble_eq_true rfl, Nat.le_of_ble_eq_true rfl⟩ ⟨Nat.le_of_ble_eq_true rfl, Nat.le_of_ble_eq_true rfl⟩ g112 rfl rfl (fun _ => Nat.le_of_ble_eq_true rfl) ?_
          refine J_icmp_eq (pc := 493) C dL_law_493 (tgt := 1196) (by decide) hf (fun _ hf => ?_) (fun _ hf => ?_)
          · refine J_sub [0, 1, 2, 3] (L1 := [(0, .ref 40000), (1, .ref v1), (2, .ref v2), (3, .int v3)]) rfl ?_
            exact B1196 (f_law_18 fu Ln xs n) ih q110.2 v1 v2 v3 hf
          · refine J_iconst (pc := 496) C dL_law_496 (v := 0) (by decide) ?_
            exact absurd (Option.some.inj hf) (by decide)
        refine J_case (v := 10) hf (fun g113 hf => ?_) (fun g113 hf => ?_)
        · refine J_tabIn (pc := 33) C dL_law_33 (tgt := 498) (by rw [g113]; decide) (by rw [g113]; decide) (by rw [g113]; rfl) (by decide) ?_
          refine J_aload_n (pc := 498) C dL_law_498 rfl 1 rfl ?_
          refine J_aload_n (pc := 499) C dL_law_499 rfl 0 rfl ?_
          refine J_iload_n (pc := 500) C dL_law_500 rfl 3 rfl ?_
          refine J_iconst (pc := 501) C dL_law_501 (v := 1) (by decide) ?_
          refine J_iadd (pc := 502) C dL_law_502 ?_
          refine J_sld (pc := 503) C dL_law_503 hX hbl hbA hf (fun x114 hf => ?_)
          refine J_aload_n (pc := 504) C dL_law_504 rfl 0 rfl ?_
          refine J_iload_n (pc := 505) C dL_law_505 rfl 3 rfl ?_
          refine J_iconst (pc := 506) C dL_law_506 (v := 2) (by decide) ?_
          refine J_iadd (pc := 507) C dL_law_507 ?_
          refine J_sld (pc := 508) C dL_law_508 hX hbl hbA hf (fun x115 hf => ?_)
          refine J_aload_n (pc := 509) C dL_law_509 rfl 0 rfl ?_
          refine J_iload_n (pc := 510) C dL_law_510 rfl 3 rfl ?_
          refine J_iconst (pc := 511) C dL_law_511 (v := 3) (by decide) ?_
          refine J_iadd (pc := 512) C dL_law_512 ?_
          refine J_sld (pc := 513) C dL_law_513 hX hbl hbA hf (fun x116 hf => ?_)
          refine J_aload_n (pc := 514) C dL_law_514 rfl 0 rfl ?_
          refine J_iload_n (pc := 515) C dL_law_515 rfl 3 rfl ?_
          refine J_iconst (pc := 516) C dL_law_516 (v := 4) (by decide) ?_
          refine J_iadd (pc := 517) C dL_law_517 ?_
          refine J_sld (pc := 518) C dL_law_518 hX hbl hbA hf (fun x117 hf => ?_)
          obtain ⟨q118, h119, hf⟩ := bind_ok hf
          obtain ⟨_, g120, h119⟩ := cl_spec h119
          refine J_cV (S := []) (pc := 519) C dL_law_519 (c_X10_move _ _ _ _ _ _ _ h119) k_734 ys_X10_move ⟨Nat.le_of_ble_eq_true rfl, Nat.le_of_ble_eq_true rfl⟩ ⟨Nat.le_of_ble_eq_true rfl, Nat.le_of_ble_eq_true rfl⟩ g120 rfl rfl (fun _ => Nat.le_of_ble_eq_true rfl) ?_
          refine J_aload_n (pc := 522) C dL_law_522 rfl 2 rfl ?_
          refine J_aload_n (pc := 523) C dL_law_523 rfl 0 rfl ?_
          refine J_iload_n (pc := 524) C dL_law_524 rfl 3 rfl ?_
          refine J_iconst (pc := 525) C dL_law_525 (v := 1) (by decide) ?_
          refine J_iadd (pc := 526) C dL_law_526 ?_
          refine J_sld (pc := 527) C dL_law_527 hX hbl hbA hf (fun x121 hf => ?_)
          refine J_aload_n (pc := 528) C dL_law_528 rfl 0 rfl ?_
          refine J_iload_n (pc := 529) C dL_law_529 rfl 3 rfl ?_
          refine J_iconst (pc := 530) C dL_law_530 (v := 2) (by decide) ?_
          refine J_iadd (pc := 531) C dL_law_531 ?_
          refine J_sld (pc := 532) C dL_law_532 hX hbl hbA hf (fun x122 hf => ?_)
          refine J_aload_n (pc := 533) C dL_law_533 rfl 0 rfl ?_
          refine J_iload_n (pc := 534) C dL_law_534 rfl 3 rfl ?_
          refine J_iconst (pc := 535) C dL_law_535 (v := 3) (by decide) ?_
          refine J_iadd (pc := 536) C dL_law_536 ?_
          refine J_sld (pc := 537) C dL_law_537 hX hbl hbA hf (fun x123 hf => ?_)
          refine J_aload_n (pc := 538) C dL_law_538 rfl 0 rfl ?_
          refine J_iload_n (pc := 539) C dL_law_539 rfl 3 rfl ?_
          refine J_iconst (pc := 540) C dL_law_540 (v := 4) (by decide) ?_
          refine J_iadd (pc := 541) C dL_law_541 ?_
          refine J_sld (pc := 542) C dL_law_542 hX hbl hbA hf (fun x124 hf => ?_)
          obtain ⟨q125, h126, hf⟩ := bind_ok hf
          obtain ⟨_, g127, h126⟩ := cl_spec h126
          refine J_cV (S := [.int q118.1]) (pc := 543) C dL_law_543 (c_X11_move _ _ _ _ _ _ _ h126) k_1223 ys_X11_move ⟨Nat.le_of_ble_eq_true rfl, Nat.le_of_ble_eq_true rfl⟩ ⟨Nat.le_of_ble_eq_true rfl, Nat.le_of_ble_eq_true rfl⟩ g127 rfl rfl (fun _ => Nat.le_of_ble_eq_true rfl) ?_
          refine J_icmp_eq (pc := 546) C dL_law_546 (tgt := 1196) (by decide) hf (fun _ hf => ?_) (fun _ hf => ?_)
          · refine J_sub [0, 1, 2, 3] (L1 := [(0, .ref 40000), (1, .ref v1), (2, .ref v2), (3, .int v3)]) rfl ?_
            exact B1196 (f_law_18 fu Ln xs n) ih q125.2 v1 v2 v3 hf
          · refine J_iconst (pc := 549) C dL_law_549 (v := 0) (by decide) ?_
            exact absurd (Option.some.inj hf) (by decide)
        refine J_case (v := 11) hf (fun g128 hf => ?_) (fun g128 hf => ?_)
        · refine J_tabIn (pc := 33) C dL_law_33 (tgt := 551) (by rw [g128]; decide) (by rw [g128]; decide) (by rw [g128]; rfl) (by decide) ?_
          refine J_aload_n (pc := 551) C dL_law_551 rfl 1 rfl ?_
          refine J_aload_n (pc := 552) C dL_law_552 rfl 0 rfl ?_
          refine J_iload_n (pc := 553) C dL_law_553 rfl 3 rfl ?_
          refine J_iconst (pc := 554) C dL_law_554 (v := 1) (by decide) ?_
          refine J_iadd (pc := 555) C dL_law_555 ?_
          refine J_sld (pc := 556) C dL_law_556 hX hbl hbA hf (fun x129 hf => ?_)
          refine J_aload_n (pc := 557) C dL_law_557 rfl 0 rfl ?_
          refine J_iload_n (pc := 558) C dL_law_558 rfl 3 rfl ?_
          refine J_iconst (pc := 559) C dL_law_559 (v := 2) (by decide) ?_
          refine J_iadd (pc := 560) C dL_law_560 ?_
          refine J_sld (pc := 561) C dL_law_561 hX hbl hbA hf (fun x130 hf => ?_)
          refine J_aload_n (pc := 562) C dL_law_562 rfl 0 rfl ?_
          refine J_iload_n (pc := 563) C dL_law_563 rfl 3 rfl ?_
          refine J_iconst (pc := 564) C dL_law_564 (v := 3) (by decide) ?_
          refine J_iadd (pc := 565) C dL_law_565 ?_
          refine J_sld (pc := 566) C dL_law_566 hX hbl hbA hf (fun x131 hf => ?_)
          refine J_aload_n (pc := 567) C dL_law_567 rfl 0 rfl ?_
          refine J_iload_n (pc := 568) C dL_law_568 rfl 3 rfl ?_
          refine J_iconst (pc := 569) C dL_law_569 (v := 4) (by decide) ?_
          refine J_iadd (pc := 570) C dL_law_570 ?_
          refine J_sld (pc := 571) C dL_law_571 hX hbl hbA hf (fun x132 hf => ?_)
          refine J_if_eq (pc := 572) C dL_law_572 (tgt := 579) (by decide) hf (fun _ hf => ?_) (fun _ hf => ?_)
          · refine J_iconst (pc := 579) C dL_law_579 (v := 0) (by decide) ?_
            refine J_sub [0, 1, 2, 3] (L1 := [(0, .ref 40000), (1, .ref v1), (2, .ref v2), (3, .int v3)]) rfl ?_
            exact B580 (f_law_18 fu Ln xs n) ih w v1 v2 v3 v1 x129 x130 x131 (0 : Int32) hf
          · refine J_iconst (pc := 575) C dL_law_575 (v := 1) (by decide) ?_
            refine J_goto (pc := 576) C dL_law_576 (tgt := 580) (by decide) ?_
            refine J_sub [0, 1, 2, 3] (L1 := [(0, .ref 40000), (1, .ref v1), (2, .ref v2), (3, .int v3)]) rfl ?_
            exact B580 (f_law_18 fu Ln xs n) ih w v1 v2 v3 v1 x129 x130 x131 (1 : Int32) hf
        refine J_case (v := 12) hf (fun g143 hf => ?_) (fun g143 hf => ?_)
        · refine J_tabIn (pc := 33) C dL_law_33 (tgt := 620) (by rw [g143]; decide) (by rw [g143]; decide) (by rw [g143]; rfl) (by decide) ?_
          refine J_aload_n (pc := 620) C dL_law_620 rfl 1 rfl ?_
          refine J_aload_n (pc := 621) C dL_law_621 rfl 0 rfl ?_
          refine J_iload_n (pc := 622) C dL_law_622 rfl 3 rfl ?_
          refine J_iconst (pc := 623) C dL_law_623 (v := 1) (by decide) ?_
          refine J_iadd (pc := 624) C dL_law_624 ?_
          refine J_sld (pc := 625) C dL_law_625 hX hbl hbA hf (fun x144 hf => ?_)
          refine J_aload_n (pc := 626) C dL_law_626 rfl 0 rfl ?_
          refine J_iload_n (pc := 627) C dL_law_627 rfl 3 rfl ?_
          refine J_iconst (pc := 628) C dL_law_628 (v := 2) (by decide) ?_
          refine J_iadd (pc := 629) C dL_law_629 ?_
          refine J_sld (pc := 630) C dL_law_630 hX hbl hbA hf (fun x145 hf => ?_)
          obtain ⟨q146, h147, hf⟩ := bind_ok hf
          obtain ⟨_, g148, h147⟩ := cl_spec h147
          refine J_cV (S := []) (pc := 631) C dL_law_631 (c_X10_seek _ _ _ _ _ h147) k_744 ys_X10_seek ⟨Nat.le_of_ble_eq_true rfl, Nat.le_of_ble_eq_true rfl⟩ ⟨Nat.le_of_ble_eq_true rfl, Nat.le_of_ble_eq_true rfl⟩ g148 rfl rfl (fun _ => Nat.le_of_ble_eq_true rfl) ?_
          refine J_aload_n (pc := 634) C dL_law_634 rfl 2 rfl ?_
          refine J_aload_n (pc := 635) C dL_law_635 rfl 0 rfl ?_
          refine J_iload_n (pc := 636) C dL_law_636 rfl 3 rfl ?_
          refine J_iconst (pc := 637) C dL_law_637 (v := 1) (by decide) ?_
          refine J_iadd (pc := 638) C dL_law_638 ?_
          refine J_sld (pc := 639) C dL_law_639 hX hbl hbA hf (fun x149 hf => ?_)
          refine J_aload_n (pc := 640) C dL_law_640 rfl 0 rfl ?_
          refine J_iload_n (pc := 641) C dL_law_641 rfl 3 rfl ?_
          refine J_iconst (pc := 642) C dL_law_642 (v := 2) (by decide) ?_
          refine J_iadd (pc := 643) C dL_law_643 ?_
          refine J_sld (pc := 644) C dL_law_644 hX hbl hbA hf (fun x150 hf => ?_)
          obtain ⟨q151, h152, hf⟩ := bind_ok hf
          obtain ⟨_, g153, h152⟩ := cl_spec h152
          refine J_cV (S := [.int q146.1]) (pc := 645) C dL_law_645 (c_X11_seek _ _ _ _ _ h152) k_1243 ys_X11_seek ⟨Nat.le_of_ble_eq_true rfl, Nat.le_of_ble_eq_true rfl⟩ ⟨Nat.le_of_ble_eq_true rfl, Nat.le_of_ble_eq_true rfl⟩ g153 rfl rfl (fun _ => Nat.le_of_ble_eq_true rfl) ?_
          refine J_icmp_eq (pc := 648) C dL_law_648 (tgt := 1196) (by decide) hf (fun _ hf => ?_) (fun _ hf => ?_)
          · refine J_sub [0, 1, 2, 3] (L1 := [(0, .ref 40000), (1, .ref v1), (2, .ref v2), (3, .int v3)]) rfl ?_
            exact B1196 (f_law_18 fu Ln xs n) ih q151.2 v1 v2 v3 hf
          · refine J_iconst (pc := 651) C dL_law_651 (v := 0) (by decide) ?_
            exact absurd (Option.some.inj hf) (by decide)
        refine J_case (v := 13) hf (fun g154 hf => ?_) (fun g154 hf => ?_)
        · refine J_tabIn (pc := 33) C dL_law_33 (tgt := 653) (by rw [g154]; decide) (by rw [g154]; decide) (by rw [g154]; rfl) (by decide) ?_
          refine J_aload_n (pc := 653) C dL_law_653 rfl 1 rfl ?_
          obtain ⟨q155, h156, hf⟩ := bind_ok hf
          obtain ⟨_, g157, h156⟩ := cl_spec h156
          refine J_cV (S := []) (pc := 654) C dL_law_654 (c_X10_undo _ _ _ h156) k_789 ys_X10_undo ⟨Nat.le_of_ble_eq_true rfl, Nat.le_of_ble_eq_true rfl⟩ ⟨Nat.le_of_ble_eq_true rfl, Nat.le_of_ble_eq_true rfl⟩ g157 rfl rfl (fun _ => Nat.le_of_ble_eq_true rfl) ?_
          refine J_aload_n (pc := 657) C dL_law_657 rfl 2 rfl ?_
          obtain ⟨q158, h159, hf⟩ := bind_ok hf
          obtain ⟨_, g160, h159⟩ := cl_spec h159
          refine J_cV (S := [.int q155.1]) (pc := 658) C dL_law_658 (c_X11_undo _ _ _ h159) k_1272 ys_X11_undo ⟨Nat.le_of_ble_eq_true rfl, Nat.le_of_ble_eq_true rfl⟩ ⟨Nat.le_of_ble_eq_true rfl, Nat.le_of_ble_eq_true rfl⟩ g160 rfl rfl (fun _ => Nat.le_of_ble_eq_true rfl) ?_
          refine J_icmp_eq (pc := 661) C dL_law_661 (tgt := 1196) (by decide) hf (fun _ hf => ?_) (fun _ hf => ?_)
          · refine J_sub [0, 1, 2, 3] (L1 := [(0, .ref 40000), (1, .ref v1), (2, .ref v2), (3, .int v3)]) rfl ?_
            exact B1196 (f_law_18 fu Ln xs n) ih q158.2 v1 v2 v3 hf
          · refine J_iconst (pc := 664) C dL_law_664 (v := 0) (by decide) ?_
            exact absurd (Option.some.inj hf) (by decide)
        refine J_case (v := 14) hf (fun g161 hf => ?_) (fun g161 hf => ?_)
        · refine J_tabIn (pc := 33) C dL_law_33 (tgt := 666) (by rw [g161]; decide) (by rw [g161]; decide) (by rw [g161]; rfl) (by decide) ?_
          refine J_aload_n (pc := 666) C dL_law_666 rfl 1 rfl ?_
          refine J_aload_n (pc := 667) C dL_law_667 rfl 0 rfl ?_
          refine J_iload_n (pc := 668) C dL_law_668 rfl 3 rfl ?_
          refine J_iconst (pc := 669) C dL_law_669 (v := 1) (by decide) ?_
          refine J_iadd (pc := 670) C dL_law_670 ?_
          refine J_sld (pc := 671) C dL_law_671 hX hbl hbA hf (fun x162 hf => ?_)
          refine J_aload_n (pc := 672) C dL_law_672 rfl 0 rfl ?_
          refine J_iload_n (pc := 673) C dL_law_673 rfl 3 rfl ?_
          refine J_iconst (pc := 674) C dL_law_674 (v := 2) (by decide) ?_
          refine J_iadd (pc := 675) C dL_law_675 ?_
          refine J_sld (pc := 676) C dL_law_676 hX hbl hbA hf (fun x163 hf => ?_)
          obtain ⟨q164, h165, hf⟩ := bind_ok hf
          obtain ⟨_, g166, h165⟩ := cl_spec h165
          refine J_cV (S := []) (pc := 677) C dL_law_677 (c_X10_set _ _ _ _ _ h165) k_798 ys_X10_set ⟨Nat.le_of_ble_eq_true rfl, Nat.le_of_ble_eq_true rfl⟩ ⟨Nat.le_of_ble_eq_true rfl, Nat.le_of_ble_eq_true rfl⟩ g166 rfl rfl (fun _ => Nat.le_of_ble_eq_true rfl) ?_
          refine J_aload_n (pc := 680) C dL_law_680 rfl 2 rfl ?_
          refine J_aload_n (pc := 681) C dL_law_681 rfl 0 rfl ?_
          refine J_iload_n (pc := 682) C dL_law_682 rfl 3 rfl ?_
          refine J_iconst (pc := 683) C dL_law_683 (v := 1) (by decide) ?_
          refine J_iadd (pc := 684) C dL_law_684 ?_
          refine J_sld (pc := 685) C dL_law_685 hX hbl hbA hf (fun x167 hf => ?_)
          refine J_aload_n (pc := 686) C dL_law_686 rfl 0 rfl ?_
          refine J_iload_n (pc := 687) C dL_law_687 rfl 3 rfl ?_
          refine J_iconst (pc := 688) C dL_law_688 (v := 2) (by decide) ?_
          refine J_iadd (pc := 689) C dL_law_689 ?_
          refine J_sld (pc := 690) C dL_law_690 hX hbl hbA hf (fun x168 hf => ?_)
          obtain ⟨q169, h170, hf⟩ := bind_ok hf
          obtain ⟨_, g171, h170⟩ := cl_spec h170
          refine J_cV (S := [.int q164.1]) (pc := 691) C dL_law_691 (c_X11_set _ _ _ _ _ h170) k_1276 ys_X11_set ⟨Nat.le_of_ble_eq_true rfl, Nat.le_of_ble_eq_true rfl⟩ ⟨Nat.le_of_ble_eq_true rfl, Nat.le_of_ble_eq_true rfl⟩ g171 rfl rfl (fun _ => Nat.le_of_ble_eq_true rfl) ?_
          refine J_icmp_eq (pc := 694) C dL_law_694 (tgt := 1196) (by decide) hf (fun _ hf => ?_) (fun _ hf => ?_)
          · refine J_sub [0, 1, 2, 3] (L1 := [(0, .ref 40000), (1, .ref v1), (2, .ref v2), (3, .int v3)]) rfl ?_
            exact B1196 (f_law_18 fu Ln xs n) ih q169.2 v1 v2 v3 hf
          · refine J_iconst (pc := 697) C dL_law_697 (v := 0) (by decide) ?_
            exact absurd (Option.some.inj hf) (by decide)
        refine J_case (v := 15) hf (fun g172 hf => ?_) (fun g172 hf => ?_)
        · refine J_tabIn (pc := 33) C dL_law_33 (tgt := 699) (by rw [g172]; decide) (by rw [g172]; decide) (by rw [g172]; rfl) (by decide) ?_
          refine J_aload_n (pc := 699) C dL_law_699 rfl 1 rfl ?_
          refine J_aload_n (pc := 700) C dL_law_700 rfl 0 rfl ?_
          refine J_iload_n (pc := 701) C dL_law_701 rfl 3 rfl ?_
          refine J_iconst (pc := 702) C dL_law_702 (v := 1) (by decide) ?_
          refine J_iadd (pc := 703) C dL_law_703 ?_
          refine J_sld (pc := 704) C dL_law_704 hX hbl hbA hf (fun x173 hf => ?_)
          refine J_aload_n (pc := 705) C dL_law_705 rfl 0 rfl ?_
          refine J_iload_n (pc := 706) C dL_law_706 rfl 3 rfl ?_
          refine J_iconst (pc := 707) C dL_law_707 (v := 2) (by decide) ?_
          refine J_iadd (pc := 708) C dL_law_708 ?_
          refine J_sld (pc := 709) C dL_law_709 hX hbl hbA hf (fun x174 hf => ?_)
          obtain ⟨q175, h176, hf⟩ := bind_ok hf
          obtain ⟨_, g177, h176⟩ := cl_spec h176
          refine J_cV (S := []) (pc := 710) C dL_law_710 (c_X10_key _ _ _ _ h176) k_841 ys_X10_key ⟨Nat.le_of_ble_eq_true rfl, Nat.le_of_ble_eq_true rfl⟩ ⟨Nat.le_of_ble_eq_true rfl, Nat.le_of_ble_eq_true rfl⟩ g177 rfl rfl (fun _ => Nat.le_of_ble_eq_true rfl) ?_
          refine J_aload_n (pc := 713) C dL_law_713 rfl 2 rfl ?_
          refine J_aload_n (pc := 714) C dL_law_714 rfl 0 rfl ?_
          refine J_iload_n (pc := 715) C dL_law_715 rfl 3 rfl ?_
          refine J_iconst (pc := 716) C dL_law_716 (v := 1) (by decide) ?_
          refine J_iadd (pc := 717) C dL_law_717 ?_
          refine J_sld (pc := 718) C dL_law_718 hX hbl hbA hf (fun x178 hf => ?_)
          refine J_aload_n (pc := 719) C dL_law_719 rfl 0 rfl ?_
          refine J_iload_n (pc := 720) C dL_law_720 rfl 3 rfl ?_
          refine J_iconst (pc := 721) C dL_law_721 (v := 2) (by decide) ?_
          refine J_iadd (pc := 722) C dL_law_722 ?_
          refine J_sld (pc := 723) C dL_law_723 hX hbl hbA hf (fun x179 hf => ?_)
          obtain ⟨q180, h181, hf⟩ := bind_ok hf
          obtain ⟨_, g182, h181⟩ := cl_spec h181
          refine J_cV (S := [.int q175]) (pc := 724) C dL_law_724 (c_X11_key _ _ _ _ h181) k_1288 ys_X11_key ⟨Nat.le_of_ble_eq_true rfl, Nat.le_of_ble_eq_true rfl⟩ ⟨Nat.le_of_ble_eq_true rfl, Nat.le_of_ble_eq_true rfl⟩ g182 rfl rfl (fun _ => Nat.le_of_ble_eq_true rfl) ?_
          refine J_icmp_eq (pc := 727) C dL_law_727 (tgt := 1196) (by decide) hf (fun _ hf => ?_) (fun _ hf => ?_)
          · refine J_sub [0, 1, 2, 3] (L1 := [(0, .ref 40000), (1, .ref v1), (2, .ref v2), (3, .int v3)]) rfl ?_
            exact B1196 (f_law_18 fu Ln xs n) ih w v1 v2 v3 hf
          · refine J_iconst (pc := 730) C dL_law_730 (v := 0) (by decide) ?_
            exact absurd (Option.some.inj hf) (by decide)
        refine J_case (v := 16) hf (fun g183 hf => ?_) (fun g183 hf => ?_)
        · refine J_tabIn (pc := 33) C dL_law_33 (tgt := 732) (by rw [g183]; decide) (by rw [g183]; decide) (by rw [g183]; rfl) (by decide) ?_
          refine J_aload_n (pc := 732) C dL_law_732 rfl 1 rfl ?_
          refine J_aload_n (pc := 733) C dL_law_733 rfl 0 rfl ?_
          refine J_iload_n (pc := 734) C dL_law_734 rfl 3 rfl ?_
          refine J_iconst (pc := 735) C dL_law_735 (v := 1) (by decide) ?_
          refine J_iadd (pc := 736) C dL_law_736 ?_
          refine J_sld (pc := 737) C dL_law_737 hX hbl hbA hf (fun x184 hf => ?_)
          refine J_aload_n (pc := 738) C dL_law_738 rfl 0 rfl ?_
          refine J_iload_n (pc := 739) C dL_law_739 rfl 3 rfl ?_
          refine J_iconst (pc := 740) C dL_law_740 (v := 2) (by decide) ?_
          refine J_iadd (pc := 741) C dL_law_741 ?_
          refine J_sld (pc := 742) C dL_law_742 hX hbl hbA hf (fun x185 hf => ?_)
          refine J_aload_n (pc := 743) C dL_law_743 rfl 0 rfl ?_
          refine J_iload_n (pc := 744) C dL_law_744 rfl 3 rfl ?_
          refine J_iconst (pc := 745) C dL_law_745 (v := 3) (by decide) ?_
          refine J_iadd (pc := 746) C dL_law_746 ?_
          refine J_sld (pc := 747) C dL_law_747 hX hbl hbA hf (fun x186 hf => ?_)
          obtain ⟨q187, h188, hf⟩ := bind_ok hf
          obtain ⟨_, g189, h188⟩ := cl_spec h188
          refine J_cV (S := []) (pc := 748) C dL_law_748 (c_X10_of _ _ _ _ _ _ h188) k_845 ys_X10_of ⟨Nat.le_of_ble_eq_true rfl, Nat.le_of_ble_eq_true rfl⟩ ⟨Nat.le_of_ble_eq_true rfl, Nat.le_of_ble_eq_true rfl⟩ g189 rfl rfl (fun _ => Nat.le_of_ble_eq_true rfl) ?_
          refine J_aload_n (pc := 751) C dL_law_751 rfl 2 rfl ?_
          refine J_aload_n (pc := 752) C dL_law_752 rfl 0 rfl ?_
          refine J_iload_n (pc := 753) C dL_law_753 rfl 3 rfl ?_
          refine J_iconst (pc := 754) C dL_law_754 (v := 1) (by decide) ?_
          refine J_iadd (pc := 755) C dL_law_755 ?_
          refine J_sld (pc := 756) C dL_law_756 hX hbl hbA hf (fun x190 hf => ?_)
          refine J_aload_n (pc := 757) C dL_law_757 rfl 0 rfl ?_
          refine J_iload_n (pc := 758) C dL_law_758 rfl 3 rfl ?_
          refine J_iconst (pc := 759) C dL_law_759 (v := 2) (by decide) ?_
          refine J_iadd (pc := 760) C dL_law_760 ?_
          refine J_sld (pc := 761) C dL_law_761 hX hbl hbA hf (fun x191 hf => ?_)
          refine J_aload_n (pc := 762) C dL_law_762 rfl 0 rfl ?_
          refine J_iload_n (pc := 763) C dL_law_763 rfl 3 rfl ?_
          refine J_iconst (pc := 764) C dL_law_764 (v := 3) (by decide) ?_
          refine J_iadd (pc := 765) C dL_law_765 ?_
          refine J_sld (pc := 766) C dL_law_766 hX hbl hbA hf (fun x192 hf => ?_)
          obtain ⟨q193, h194, hf⟩ := bind_ok hf
          obtain ⟨_, g195, h194⟩ := cl_spec h194
          refine J_cV (S := [.int q187.1]) (pc := 767) C dL_law_767 (c_X11_of _ _ _ _ _ _ h194) k_1292 ys_X11_of ⟨Nat.le_of_ble_eq_true rfl, Nat.le_of_ble_eq_true rfl⟩ ⟨Nat.le_of_ble_eq_true rfl, Nat.le_of_ble_eq_true rfl⟩ g195 rfl rfl (fun _ => Nat.le_of_ble_eq_true rfl) ?_
          refine J_icmp_eq (pc := 770) C dL_law_770 (tgt := 1196) (by decide) hf (fun _ hf => ?_) (fun _ hf => ?_)
          · refine J_sub [0, 1, 2, 3] (L1 := [(0, .ref 40000), (1, .ref v1), (2, .ref v2), (3, .int v3)]) rfl ?_
            exact B1196 (f_law_18 fu Ln xs n) ih q193.2 v1 v2 v3 hf
          · refine J_iconst (pc := 773) C dL_law_773 (v := 0) (by decide) ?_
            exact absurd (Option.some.inj hf) (by decide)
        refine J_case (v := 17) hf (fun g196 hf => ?_) (fun g196 hf => ?_)
        · refine J_tabIn (pc := 33) C dL_law_33 (tgt := 775) (by rw [g196]; decide) (by rw [g196]; decide) (by rw [g196]; rfl) (by decide) ?_
          refine J_aload_n (pc := 775) C dL_law_775 rfl 1 rfl ?_
          refine J_aload_n (pc := 776) C dL_law_776 rfl 0 rfl ?_
          refine J_iload_n (pc := 777) C dL_law_777 rfl 3 rfl ?_
          refine J_iconst (pc := 778) C dL_law_778 (v := 1) (by decide) ?_
          refine J_iadd (pc := 779) C dL_law_779 ?_
          refine J_sld (pc := 780) C dL_law_780 hX hbl hbA hf (fun x197 hf => ?_)
          refine J_aload_n (pc := 781) C dL_law_781 rfl 0 rfl ?_
          refine J_iload_n (pc := 782) C dL_law_782 rfl 3 rfl ?_
          refine J_iconst (pc := 783) C dL_law_783 (v := 2) (by decide) ?_
          refine J_iadd (pc := 784) C dL_law_784 ?_
          refine J_sld (pc := 785) C dL_law_785 hX hbl hbA hf (fun x198 hf => ?_)
          refine J_aload_n (pc := 786) C dL_law_786 rfl 0 rfl ?_
          refine J_iload_n (pc := 787) C dL_law_787 rfl 3 rfl ?_
          refine J_iconst (pc := 788) C dL_law_788 (v := 3) (by decide) ?_
          refine J_iadd (pc := 789) C dL_law_789 ?_
          refine J_sld (pc := 790) C dL_law_790 hX hbl hbA hf (fun x199 hf => ?_)
          refine J_aload_n (pc := 791) C dL_law_791 rfl 0 rfl ?_
          refine J_iload_n (pc := 792) C dL_law_792 rfl 3 rfl ?_
          refine J_iconst (pc := 793) C dL_law_793 (v := 4) (by decide) ?_
          refine J_iadd (pc := 794) C dL_law_794 ?_
          refine J_sld (pc := 795) C dL_law_795 hX hbl hbA hf (fun x200 hf => ?_)
          refine J_if_eq (pc := 796) C dL_law_796 (tgt := 803) (by decide) hf (fun _ hf => ?_) (fun _ hf => ?_)
          · refine J_iconst (pc := 803) C dL_law_803 (v := 0) (by decide) ?_
            refine J_sub [0, 1, 2, 3] (L1 := [(0, .ref 40000), (1, .ref v1), (2, .ref v2), (3, .int v3)]) rfl ?_
            exact B804 (f_law_18 fu Ln xs n) ih w v1 v2 v3 v1 x197 x198 x199 (0 : Int32) hf
          · refine J_iconst (pc := 799) C dL_law_799 (v := 1) (by decide) ?_
            refine J_goto (pc := 800) C dL_law_800 (tgt := 804) (by decide) ?_
            refine J_sub [0, 1, 2, 3] (L1 := [(0, .ref 40000), (1, .ref v1), (2, .ref v2), (3, .int v3)]) rfl ?_
            exact B804 (f_law_18 fu Ln xs n) ih w v1 v2 v3 v1 x197 x198 x199 (1 : Int32) hf
        refine J_case (v := 18) hf (fun g211 hf => ?_) (fun g211 hf => ?_)
        · refine J_tabIn (pc := 33) C dL_law_33 (tgt := 844) (by rw [g211]; decide) (by rw [g211]; decide) (by rw [g211]; rfl) (by decide) ?_
          refine J_aload_n (pc := 844) C dL_law_844 rfl 1 rfl ?_
          refine J_aload_n (pc := 845) C dL_law_845 rfl 0 rfl ?_
          refine J_iload_n (pc := 846) C dL_law_846 rfl 3 rfl ?_
          refine J_iconst (pc := 847) C dL_law_847 (v := 1) (by decide) ?_
          refine J_iadd (pc := 848) C dL_law_848 ?_
          refine J_sld (pc := 849) C dL_law_849 hX hbl hbA hf (fun x212 hf => ?_)
          refine J_aload_n (pc := 850) C dL_law_850 rfl 0 rfl ?_
          refine J_iload_n (pc := 851) C dL_law_851 rfl 3 rfl ?_
          refine J_iconst (pc := 852) C dL_law_852 (v := 2) (by decide) ?_
          refine J_iadd (pc := 853) C dL_law_853 ?_
          refine J_sld (pc := 854) C dL_law_854 hX hbl hbA hf (fun x213 hf => ?_)
          refine J_aload_n (pc := 855) C dL_law_855 rfl 0 rfl ?_
          refine J_iload_n (pc := 856) C dL_law_856 rfl 3 rfl ?_
          refine J_iconst (pc := 857) C dL_law_857 (v := 3) (by decide) ?_
          refine J_iadd (pc := 858) C dL_law_858 ?_
          refine J_sld (pc := 859) C dL_law_859 hX hbl hbA hf (fun x214 hf => ?_)
          obtain ⟨q215, h216, hf⟩ := bind_ok hf
          obtain ⟨_, g217, h216⟩ := cl_spec h216
          refine J_cV (S := []) (pc := 860) C dL_law_860 (c_X10_far _ _ _ _ _ _ h216) k_877 ys_X10_far ⟨Nat.le_of_ble_eq_true rfl, Nat.le_of_ble_eq_true rfl⟩ ⟨Nat.le_of_ble_eq_true rfl, Nat.le_of_ble_eq_true rfl⟩ g217 rfl rfl (fun _ => Nat.le_of_ble_eq_true rfl) ?_
          refine J_aload_n (pc := 863) C dL_law_863 rfl 2 rfl ?_
          refine J_aload_n (pc := 864) C dL_law_864 rfl 0 rfl ?_
          refine J_iload_n (pc := 865) C dL_law_865 rfl 3 rfl ?_
          refine J_iconst (pc := 866) C dL_law_866 (v := 1) (by decide) ?_
          refine J_iadd (pc := 867) C dL_law_867 ?_
          refine J_sld (pc := 868) C dL_law_868 hX hbl hbA hf (fun x218 hf => ?_)
          refine J_aload_n (pc := 869) C dL_law_869 rfl 0 rfl ?_
          refine J_iload_n (pc := 870) C dL_law_870 rfl 3 rfl ?_
          refine J_iconst (pc := 871) C dL_law_871 (v := 2) (by decide) ?_
          refine J_iadd (pc := 872) C dL_law_872 ?_
          refine J_sld (pc := 873) C dL_law_873 hX hbl hbA hf (fun x219 hf => ?_)
          refine J_aload_n (pc := 874) C dL_law_874 rfl 0 rfl ?_
          refine J_iload_n (pc := 875) C dL_law_875 rfl 3 rfl ?_
          refine J_iconst (pc := 876) C dL_law_876 (v := 3) (by decide) ?_
          refine J_iadd (pc := 877) C dL_law_877 ?_
          refine J_sld (pc := 878) C dL_law_878 hX hbl hbA hf (fun x220 hf => ?_)
          obtain ⟨q221, h222, hf⟩ := bind_ok hf
          obtain ⟨_, g223, h222⟩ := cl_spec h222
          refine J_cV (S := [.int q215.1]) (pc := 879) C dL_law_879 (c_X11_far _ _ _ _ _ _ h222) k_1304 ys_X11_far ⟨Nat.le_of_ble_eq_true rfl, Nat.le_of_ble_eq_true rfl⟩ ⟨Nat.le_of_ble_eq_true rfl, Nat.le_of_ble_eq_true rfl⟩ g223 rfl rfl (fun _ => Nat.le_of_ble_eq_true rfl) ?_
          refine J_icmp_eq (pc := 882) C dL_law_882 (tgt := 1196) (by decide) hf (fun _ hf => ?_) (fun _ hf => ?_)
          · refine J_sub [0, 1, 2, 3] (L1 := [(0, .ref 40000), (1, .ref v1), (2, .ref v2), (3, .int v3)]) rfl ?_
            exact B1196 (f_law_18 fu Ln xs n) ih q221.2 v1 v2 v3 hf
          · refine J_iconst (pc := 885) C dL_law_885 (v := 0) (by decide) ?_
            exact absurd (Option.some.inj hf) (by decide)
        refine J_case (v := 19) hf (fun g224 hf => ?_) (fun g224 hf => ?_)
        · refine J_tabIn (pc := 33) C dL_law_33 (tgt := 887) (by rw [g224]; decide) (by rw [g224]; decide) (by rw [g224]; rfl) (by decide) ?_
          refine J_aload_n (pc := 887) C dL_law_887 rfl 1 rfl ?_
          refine J_aload_n (pc := 888) C dL_law_888 rfl 0 rfl ?_
          refine J_iload_n (pc := 889) C dL_law_889 rfl 3 rfl ?_
          refine J_iconst (pc := 890) C dL_law_890 (v := 1) (by decide) ?_
          refine J_iadd (pc := 891) C dL_law_891 ?_
          refine J_sld (pc := 892) C dL_law_892 hX hbl hbA hf (fun x225 hf => ?_)
          obtain ⟨q226, h227, hf⟩ := bind_ok hf
          obtain ⟨_, g228, h227⟩ := cl_spec h227
          refine J_cV (S := []) (pc := 893) C dL_law_893 (c_X10_where _ _ _ _ h227) k_882 ys_X10_where ⟨Nat.le_of_ble_eq_true rfl, Nat.le_of_ble_eq_true rfl⟩ ⟨Nat.le_of_ble_eq_true rfl, Nat.le_of_ble_eq_true rfl⟩ g228 rfl rfl (fun _ => Nat.le_of_ble_eq_true rfl) ?_
          refine J_aload_n (pc := 896) C dL_law_896 rfl 2 rfl ?_
          refine J_aload_n (pc := 897) C dL_law_897 rfl 0 rfl ?_
          refine J_iload_n (pc := 898) C dL_law_898 rfl 3 rfl ?_
          refine J_iconst (pc := 899) C dL_law_899 (v := 1) (by decide) ?_
          refine J_iadd (pc := 900) C dL_law_900 ?_
          refine J_sld (pc := 901) C dL_law_901 hX hbl hbA hf (fun x229 hf => ?_)
          obtain ⟨q230, h231, hf⟩ := bind_ok hf
          obtain ⟨_, g232, h231⟩ := cl_spec h231
          refine J_cV (S := [.int q226]) (pc := 902) C dL_law_902 (c_X11_where _ _ _ _ h231) k_1308 ys_X11_where ⟨Nat.le_of_ble_eq_true rfl, Nat.le_of_ble_eq_true rfl⟩ ⟨Nat.le_of_ble_eq_true rfl, Nat.le_of_ble_eq_true rfl⟩ g232 rfl rfl (fun _ => Nat.le_of_ble_eq_true rfl) ?_
          refine J_icmp_eq (pc := 905) C dL_law_905 (tgt := 1196) (by decide) hf (fun _ hf => ?_) (fun _ hf => ?_)
          · refine J_sub [0, 1, 2, 3] (L1 := [(0, .ref 40000), (1, .ref v1), (2, .ref v2), (3, .int v3)]) rfl ?_
            exact B1196 (f_law_18 fu Ln xs n) ih w v1 v2 v3 hf
          · refine J_iconst (pc := 908) C dL_law_908 (v := 0) (by decide) ?_
            exact absurd (Option.some.inj hf) (by decide)
        refine J_case (v := 20) hf (fun g233 hf => ?_) (fun g233 hf => ?_)
        · refine J_tabIn (pc := 33) C dL_law_33 (tgt := 910) (by rw [g233]; decide) (by rw [g233]; decide) (by rw [g233]; rfl) (by decide) ?_
          refine J_aload_n (pc := 910) C dL_law_910 rfl 1 rfl ?_
          refine J_aload_n (pc := 911) C dL_law_911 rfl 0 rfl ?_
          refine J_iload_n (pc := 912) C dL_law_912 rfl 3 rfl ?_
          refine J_iconst (pc := 913) C dL_law_913 (v := 1) (by decide) ?_
          refine J_iadd (pc := 914) C dL_law_914 ?_
          refine J_sld (pc := 915) C dL_law_915 hX hbl hbA hf (fun x234 hf => ?_)
          obtain ⟨q235, h236, hf⟩ := bind_ok hf
          obtain ⟨_, g237, h236⟩ := cl_spec h236
          refine J_cV (S := []) (pc := 916) C dL_law_916 (c_X10_count _ _ _ _ h236) k_886 ys_X10_count ⟨Nat.le_of_ble_eq_true rfl, Nat.le_of_ble_eq_true rfl⟩ ⟨Nat.le_of_ble_eq_true rfl, Nat.le_of_ble_eq_true rfl⟩ g237 rfl rfl (fun _ => Nat.le_of_ble_eq_true rfl) ?_
          refine J_aload_n (pc := 919) C dL_law_919 rfl 2 rfl ?_
          refine J_aload_n (pc := 920) C dL_law_920 rfl 0 rfl ?_
          refine J_iload_n (pc := 921) C dL_law_921 rfl 3 rfl ?_
          refine J_iconst (pc := 922) C dL_law_922 (v := 1) (by decide) ?_
          refine J_iadd (pc := 923) C dL_law_923 ?_
          refine J_sld (pc := 924) C dL_law_924 hX hbl hbA hf (fun x238 hf => ?_)
          obtain ⟨q239, h240, hf⟩ := bind_ok hf
          obtain ⟨_, g241, h240⟩ := cl_spec h240
          refine J_cV (S := [.int q235.1]) (pc := 925) C dL_law_925 (c_X11_count _ _ _ _ h240) k_1312 ys_X11_count ⟨Nat.le_of_ble_eq_true rfl, Nat.le_of_ble_eq_true rfl⟩ ⟨Nat.le_of_ble_eq_true rfl, Nat.le_of_ble_eq_true rfl⟩ g241 rfl rfl (fun _ => Nat.le_of_ble_eq_true rfl) ?_
          refine J_icmp_eq (pc := 928) C dL_law_928 (tgt := 1196) (by decide) hf (fun _ hf => ?_) (fun _ hf => ?_)
          · refine J_sub [0, 1, 2, 3] (L1 := [(0, .ref 40000), (1, .ref v1), (2, .ref v2), (3, .int v3)]) rfl ?_
            exact B1196 (f_law_18 fu Ln xs n) ih q239.2 v1 v2 v3 hf
          · refine J_iconst (pc := 931) C dL_law_931 (v := 0) (by decide) ?_
            exact absurd (Option.some.inj hf) (by decide)
        refine J_case (v := 21) hf (fun g242 hf => ?_) (fun g242 hf => ?_)
        · refine J_tabIn (pc := 33) C dL_law_33 (tgt := 933) (by rw [g242]; decide) (by rw [g242]; decide) (by rw [g242]; rfl) (by decide) ?_
          refine J_aload_n (pc := 933) C dL_law_933 rfl 1 rfl ?_
          refine J_aload_n (pc := 934) C dL_law_934 rfl 0 rfl ?_
          refine J_iload_n (pc := 935) C dL_law_935 rfl 3 rfl ?_
          refine J_iconst (pc := 936) C dL_law_936 (v := 1) (by decide) ?_
          refine J_iadd (pc := 937) C dL_law_937 ?_
          refine J_sld (pc := 938) C dL_law_938 hX hbl hbA hf (fun x243 hf => ?_)
          refine J_aload_n (pc := 939) C dL_law_939 rfl 0 rfl ?_
          refine J_iload_n (pc := 940) C dL_law_940 rfl 3 rfl ?_
          refine J_iconst (pc := 941) C dL_law_941 (v := 2) (by decide) ?_
          refine J_iadd (pc := 942) C dL_law_942 ?_
          refine J_sld (pc := 943) C dL_law_943 hX hbl hbA hf (fun x244 hf => ?_)
          refine J_aload_n (pc := 944) C dL_law_944 rfl 0 rfl ?_
          refine J_iload_n (pc := 945) C dL_law_945 rfl 3 rfl ?_
          refine J_iconst (pc := 946) C dL_law_946 (v := 3) (by decide) ?_
          refine J_iadd (pc := 947) C dL_law_947 ?_
          refine J_sld (pc := 948) C dL_law_948 hX hbl hbA hf (fun x245 hf => ?_)
          obtain ⟨q246, h247, hf⟩ := bind_ok hf
          obtain ⟨_, g248, h247⟩ := cl_spec h247
          refine J_cV (S := []) (pc := 949) C dL_law_949 (c_X10_pair _ _ _ _ _ _ h247) k_922 ys_X10_pair ⟨Nat.le_of_ble_eq_true rfl, Nat.le_of_ble_eq_true rfl⟩ ⟨Nat.le_of_ble_eq_true rfl, Nat.le_of_ble_eq_true rfl⟩ g248 rfl rfl (fun _ => Nat.le_of_ble_eq_true rfl) ?_
          refine J_aload_n (pc := 952) C dL_law_952 rfl 2 rfl ?_
          refine J_aload_n (pc := 953) C dL_law_953 rfl 0 rfl ?_
          refine J_iload_n (pc := 954) C dL_law_954 rfl 3 rfl ?_
          refine J_iconst (pc := 955) C dL_law_955 (v := 1) (by decide) ?_
          refine J_iadd (pc := 956) C dL_law_956 ?_
          refine J_sld (pc := 957) C dL_law_957 hX hbl hbA hf (fun x249 hf => ?_)
          refine J_aload_n (pc := 958) C dL_law_958 rfl 0 rfl ?_
          refine J_iload_n (pc := 959) C dL_law_959 rfl 3 rfl ?_
          refine J_iconst (pc := 960) C dL_law_960 (v := 2) (by decide) ?_
          refine J_iadd (pc := 961) C dL_law_961 ?_
          refine J_sld (pc := 962) C dL_law_962 hX hbl hbA hf (fun x250 hf => ?_)
          refine J_aload_n (pc := 963) C dL_law_963 rfl 0 rfl ?_
          refine J_iload_n (pc := 964) C dL_law_964 rfl 3 rfl ?_
          refine J_iconst (pc := 965) C dL_law_965 (v := 3) (by decide) ?_
          refine J_iadd (pc := 966) C dL_law_966 ?_
          refine J_sld (pc := 967) C dL_law_967 hX hbl hbA hf (fun x251 hf => ?_)
          obtain ⟨q252, h253, hf⟩ := bind_ok hf
          obtain ⟨_, g254, h253⟩ := cl_spec h253
          refine J_cV (S := [.int q246.1]) (pc := 968) C dL_law_968 (c_X11_pair _ _ _ _ _ _ h253) k_1329 ys_X11_pair ⟨Nat.le_of_ble_eq_true rfl, Nat.le_of_ble_eq_true rfl⟩ ⟨Nat.le_of_ble_eq_true rfl, Nat.le_of_ble_eq_true rfl⟩ g254 rfl rfl (fun _ => Nat.le_of_ble_eq_true rfl) ?_
          refine J_icmp_eq (pc := 971) C dL_law_971 (tgt := 1196) (by decide) hf (fun _ hf => ?_) (fun _ hf => ?_)
          · refine J_sub [0, 1, 2, 3] (L1 := [(0, .ref 40000), (1, .ref v1), (2, .ref v2), (3, .int v3)]) rfl ?_
            exact B1196 (f_law_18 fu Ln xs n) ih q252.2 v1 v2 v3 hf
          · refine J_iconst (pc := 974) C dL_law_974 (v := 0) (by decide) ?_
            exact absurd (Option.some.inj hf) (by decide)
        refine J_case (v := 22) hf (fun g255 hf => ?_) (fun g255 hf => ?_)
        · refine J_tabIn (pc := 33) C dL_law_33 (tgt := 976) (by rw [g255]; decide) (by rw [g255]; decide) (by rw [g255]; rfl) (by decide) ?_
          refine J_aload_n (pc := 976) C dL_law_976 rfl 1 rfl ?_
          refine J_aload_n (pc := 977) C dL_law_977 rfl 0 rfl ?_
          refine J_iload_n (pc := 978) C dL_law_978 rfl 3 rfl ?_
          refine J_iconst (pc := 979) C dL_law_979 (v := 1) (by decide) ?_
          refine J_iadd (pc := 980) C dL_law_980 ?_
          refine J_sld (pc := 981) C dL_law_981 hX hbl hbA hf (fun x256 hf => ?_)
          obtain ⟨q257, h258, hf⟩ := bind_ok hf
          obtain ⟨_, g259, h258⟩ := cl_spec h258
          refine J_cV (S := []) (pc := 982) C dL_law_982 (c_X10_cheapest _ _ _ _ h258) k_932 ys_X10_cheapest ⟨Nat.le_of_ble_eq_true rfl, Nat.le_of_ble_eq_true rfl⟩ ⟨Nat.le_of_ble_eq_true rfl, Nat.le_of_ble_eq_true rfl⟩ g259 rfl rfl (fun _ => Nat.le_of_ble_eq_true rfl) ?_
          refine J_aload_n (pc := 985) C dL_law_985 rfl 2 rfl ?_
          refine J_aload_n (pc := 986) C dL_law_986 rfl 0 rfl ?_
          refine J_iload_n (pc := 987) C dL_law_987 rfl 3 rfl ?_
          refine J_iconst (pc := 988) C dL_law_988 (v := 1) (by decide) ?_
          refine J_iadd (pc := 989) C dL_law_989 ?_
          refine J_sld (pc := 990) C dL_law_990 hX hbl hbA hf (fun x260 hf => ?_)
          obtain ⟨q261, h262, hf⟩ := bind_ok hf
          obtain ⟨_, g263, h262⟩ := cl_spec h262
          refine J_cV (S := [.int q257.1]) (pc := 991) C dL_law_991 (c_X11_cheapest _ _ _ _ h262) k_1333 ys_X11_cheapest ⟨Nat.le_of_ble_eq_true rfl, Nat.le_of_ble_eq_true rfl⟩ ⟨Nat.le_of_ble_eq_true rfl, Nat.le_of_ble_eq_true rfl⟩ g263 rfl rfl (fun _ => Nat.le_of_ble_eq_true rfl) ?_
          refine J_icmp_eq (pc := 994) C dL_law_994 (tgt := 1196) (by decide) hf (fun _ hf => ?_) (fun _ hf => ?_)
          · refine J_sub [0, 1, 2, 3] (L1 := [(0, .ref 40000), (1, .ref v1), (2, .ref v2), (3, .int v3)]) rfl ?_
            exact B1196 (f_law_18 fu Ln xs n) ih q261.2 v1 v2 v3 hf
          · refine J_iconst (pc := 997) C dL_law_997 (v := 0) (by decide) ?_
            exact absurd (Option.some.inj hf) (by decide)
        refine J_case (v := 23) hf (fun g264 hf => ?_) (fun g264 hf => ?_)
        · refine J_tabIn (pc := 33) C dL_law_33 (tgt := 999) (by rw [g264]; decide) (by rw [g264]; decide) (by rw [g264]; rfl) (by decide) ?_
          refine J_aload_n (pc := 999) C dL_law_999 rfl 1 rfl ?_
          refine J_aload_n (pc := 1000) C dL_law_1000 rfl 0 rfl ?_
          refine J_iload_n (pc := 1001) C dL_law_1001 rfl 3 rfl ?_
          refine J_iconst (pc := 1002) C dL_law_1002 (v := 1) (by decide) ?_
          refine J_iadd (pc := 1003) C dL_law_1003 ?_
          refine J_sld (pc := 1004) C dL_law_1004 hX hbl hbA hf (fun x265 hf => ?_)
          obtain ⟨q266, h267, hf⟩ := bind_ok hf
          obtain ⟨_, g268, h267⟩ := cl_spec h267
          refine J_cV (S := []) (pc := 1005) C dL_law_1005 (c_X10_merged _ _ _ _ h267) k_944 ys_X10_merged ⟨Nat.le_of_ble_eq_true rfl, Nat.le_of_ble_eq_true rfl⟩ ⟨Nat.le_of_ble_eq_true rfl, Nat.le_of_ble_eq_true rfl⟩ g268 rfl rfl (fun _ => Nat.le_of_ble_eq_true rfl) ?_
          refine J_aload_n (pc := 1008) C dL_law_1008 rfl 2 rfl ?_
          refine J_aload_n (pc := 1009) C dL_law_1009 rfl 0 rfl ?_
          refine J_iload_n (pc := 1010) C dL_law_1010 rfl 3 rfl ?_
          refine J_iconst (pc := 1011) C dL_law_1011 (v := 1) (by decide) ?_
          refine J_iadd (pc := 1012) C dL_law_1012 ?_
          refine J_sld (pc := 1013) C dL_law_1013 hX hbl hbA hf (fun x269 hf => ?_)
          obtain ⟨q270, h271, hf⟩ := bind_ok hf
          obtain ⟨_, g272, h271⟩ := cl_spec h271
          refine J_cV (S := [.int q266.1]) (pc := 1014) C dL_law_1014 (c_X11_merged _ _ _ _ h271) k_1337 ys_X11_merged ⟨Nat.le_of_ble_eq_true rfl, Nat.le_of_ble_eq_true rfl⟩ ⟨Nat.le_of_ble_eq_true rfl, Nat.le_of_ble_eq_true rfl⟩ g272 rfl rfl (fun _ => Nat.le_of_ble_eq_true rfl) ?_
          refine J_icmp_eq (pc := 1017) C dL_law_1017 (tgt := 1196) (by decide) hf (fun _ hf => ?_) (fun _ hf => ?_)
          · refine J_sub [0, 1, 2, 3] (L1 := [(0, .ref 40000), (1, .ref v1), (2, .ref v2), (3, .int v3)]) rfl ?_
            exact B1196 (f_law_18 fu Ln xs n) ih q266.2 v1 v2 v3 hf
          · refine J_iconst (pc := 1020) C dL_law_1020 (v := 0) (by decide) ?_
            exact absurd (Option.some.inj hf) (by decide)
        refine J_case (v := 24) hf (fun g273 hf => ?_) (fun g273 hf => ?_)
        · refine J_tabIn (pc := 33) C dL_law_33 (tgt := 1022) (by rw [g273]; decide) (by rw [g273]; decide) (by rw [g273]; rfl) (by decide) ?_
          refine J_aload_n (pc := 1022) C dL_law_1022 rfl 1 rfl ?_
          refine J_aload_n (pc := 1023) C dL_law_1023 rfl 0 rfl ?_
          refine J_iload_n (pc := 1024) C dL_law_1024 rfl 3 rfl ?_
          refine J_iconst (pc := 1025) C dL_law_1025 (v := 1) (by decide) ?_
          refine J_iadd (pc := 1026) C dL_law_1026 ?_
          refine J_sld (pc := 1027) C dL_law_1027 hX hbl hbA hf (fun x274 hf => ?_)
          refine J_aload_n (pc := 1028) C dL_law_1028 rfl 0 rfl ?_
          refine J_iload_n (pc := 1029) C dL_law_1029 rfl 3 rfl ?_
          refine J_iconst (pc := 1030) C dL_law_1030 (v := 2) (by decide) ?_
          refine J_iadd (pc := 1031) C dL_law_1031 ?_
          refine J_sld (pc := 1032) C dL_law_1032 hX hbl hbA hf (fun x275 hf => ?_)
          refine J_aload_n (pc := 1033) C dL_law_1033 rfl 0 rfl ?_
          refine J_iload_n (pc := 1034) C dL_law_1034 rfl 3 rfl ?_
          refine J_iconst (pc := 1035) C dL_law_1035 (v := 3) (by decide) ?_
          refine J_iadd (pc := 1036) C dL_law_1036 ?_
          refine J_sld (pc := 1037) C dL_law_1037 hX hbl hbA hf (fun x276 hf => ?_)
          refine J_if_eq (pc := 1038) C dL_law_1038 (tgt := 1045) (by decide) hf (fun _ hf => ?_) (fun _ hf => ?_)
          · refine J_iconst (pc := 1045) C dL_law_1045 (v := 0) (by decide) ?_
            refine J_sub [0, 1, 2, 3] (L1 := [(0, .ref 40000), (1, .ref v1), (2, .ref v2), (3, .int v3)]) rfl ?_
            exact B1046 (f_law_18 fu Ln xs n) ih w v1 v2 v3 v1 x274 x275 (0 : Int32) hf
          · refine J_iconst (pc := 1041) C dL_law_1041 (v := 1) (by decide) ?_
            refine J_goto (pc := 1042) C dL_law_1042 (tgt := 1046) (by decide) ?_
            refine J_sub [0, 1, 2, 3] (L1 := [(0, .ref 40000), (1, .ref v1), (2, .ref v2), (3, .int v3)]) rfl ?_
            exact B1046 (f_law_18 fu Ln xs n) ih w v1 v2 v3 v1 x274 x275 (1 : Int32) hf
        refine J_case (v := 25) hf (fun g286 hf => ?_) (fun g286 hf => ?_)
        · refine J_tabIn (pc := 33) C dL_law_33 (tgt := 1081) (by rw [g286]; decide) (by rw [g286]; decide) (by rw [g286]; rfl) (by decide) ?_
          refine J_aload_n (pc := 1081) C dL_law_1081 rfl 1 rfl ?_
          refine J_aload_n (pc := 1082) C dL_law_1082 rfl 0 rfl ?_
          refine J_iload_n (pc := 1083) C dL_law_1083 rfl 3 rfl ?_
          refine J_iconst (pc := 1084) C dL_law_1084 (v := 1) (by decide) ?_
          refine J_iadd (pc := 1085) C dL_law_1085 ?_
          refine J_sld (pc := 1086) C dL_law_1086 hX hbl hbA hf (fun x287 hf => ?_)
          obtain ⟨q288, h289, hf⟩ := bind_ok hf
          obtain ⟨_, g290, h289⟩ := cl_spec h289
          refine J_cV (S := []) (pc := 1087) C dL_law_1087 (c_X10_halves _ _ _ h289) k_956 ys_X10_halves ⟨Nat.le_of_ble_eq_true rfl, Nat.le_of_ble_eq_true rfl⟩ ⟨Nat.le_of_ble_eq_true rfl, Nat.le_of_ble_eq_true rfl⟩ g290 rfl rfl (fun _ => Nat.le_of_ble_eq_true rfl) ?_
          refine J_aload_n (pc := 1090) C dL_law_1090 rfl 2 rfl ?_
          refine J_aload_n (pc := 1091) C dL_law_1091 rfl 0 rfl ?_
          refine J_iload_n (pc := 1092) C dL_law_1092 rfl 3 rfl ?_
          refine J_iconst (pc := 1093) C dL_law_1093 (v := 1) (by decide) ?_
          refine J_iadd (pc := 1094) C dL_law_1094 ?_
          refine J_sld (pc := 1095) C dL_law_1095 hX hbl hbA hf (fun x291 hf => ?_)
          obtain ⟨q292, h293, hf⟩ := bind_ok hf
          obtain ⟨_, g294, h293⟩ := cl_spec h293
          refine J_cV (S := [.int q288]) (pc := 1096) C dL_law_1096 (c_X11_halves _ _ _ h293) k_1345 ys_X11_halves ⟨Nat.le_of_ble_eq_true rfl, Nat.le_of_ble_eq_true rfl⟩ ⟨Nat.le_of_ble_eq_true rfl, Nat.le_of_ble_eq_true rfl⟩ g294 rfl rfl (fun _ => Nat.le_of_ble_eq_true rfl) ?_
          refine J_icmp_eq (pc := 1099) C dL_law_1099 (tgt := 1196) (by decide) hf (fun _ hf => ?_) (fun _ hf => ?_)
          · refine J_sub [0, 1, 2, 3] (L1 := [(0, .ref 40000), (1, .ref v1), (2, .ref v2), (3, .int v3)]) rfl ?_
            exact B1196 (f_law_18 fu Ln xs n) ih w v1 v2 v3 hf
          · refine J_iconst (pc := 1102) C dL_law_1102 (v := 0) (by decide) ?_
            exact absurd (Option.some.inj hf) (by decide)
        refine J_case (v := 26) hf (fun g295 hf => ?_) (fun g295 hf => ?_)
        · refine J_tabIn (pc := 33) C dL_law_33 (tgt := 1104) (by rw [g295]; decide) (by rw [g295]; decide) (by rw [g295]; rfl) (by decide) ?_
          refine J_aload_n (pc := 1104) C dL_law_1104 rfl 1 rfl ?_
          refine J_aload_n (pc := 1105) C dL_law_1105 rfl 0 rfl ?_
          refine J_iload_n (pc := 1106) C dL_law_1106 rfl 3 rfl ?_
          refine J_iconst (pc := 1107) C dL_law_1107 (v := 1) (by decide) ?_
          refine J_iadd (pc := 1108) C dL_law_1108 ?_
          refine J_sld (pc := 1109) C dL_law_1109 hX hbl hbA hf (fun x296 hf => ?_)
          obtain ⟨q297, h298, hf⟩ := bind_ok hf
          obtain ⟨_, g299, h298⟩ := cl_spec h298
          refine J_cV (S := []) (pc := 1110) C dL_law_1110 (c_X10_tell _ _ _ _ h298) k_960 ys_X10_tell ⟨Nat.le_of_ble_eq_true rfl, Nat.le_of_ble_eq_true rfl⟩ ⟨Nat.le_of_ble_eq_true rfl, Nat.le_of_ble_eq_true rfl⟩ g299 rfl rfl (fun _ => Nat.le_of_ble_eq_true rfl) ?_
          refine J_aload_n (pc := 1113) C dL_law_1113 rfl 2 rfl ?_
          refine J_aload_n (pc := 1114) C dL_law_1114 rfl 0 rfl ?_
          refine J_iload_n (pc := 1115) C dL_law_1115 rfl 3 rfl ?_
          refine J_iconst (pc := 1116) C dL_law_1116 (v := 1) (by decide) ?_
          refine J_iadd (pc := 1117) C dL_law_1117 ?_
          refine J_sld (pc := 1118) C dL_law_1118 hX hbl hbA hf (fun x300 hf => ?_)
          obtain ⟨q301, h302, hf⟩ := bind_ok hf
          obtain ⟨_, g303, h302⟩ := cl_spec h302
          refine J_cV (S := [.int q297.1]) (pc := 1119) C dL_law_1119 (c_X11_tell _ _ _ _ h302) k_1349 ys_X11_tell ⟨Nat.le_of_ble_eq_true rfl, Nat.le_of_ble_eq_true rfl⟩ ⟨Nat.le_of_ble_eq_true rfl, Nat.le_of_ble_eq_true rfl⟩ g303 rfl rfl (fun _ => Nat.le_of_ble_eq_true rfl) ?_
          refine J_icmp_eq (pc := 1122) C dL_law_1122 (tgt := 1196) (by decide) hf (fun _ hf => ?_) (fun _ hf => ?_)
          · refine J_sub [0, 1, 2, 3] (L1 := [(0, .ref 40000), (1, .ref v1), (2, .ref v2), (3, .int v3)]) rfl ?_
            exact B1196 (f_law_18 fu Ln xs n) ih q301.2 v1 v2 v3 hf
          · refine J_iconst (pc := 1125) C dL_law_1125 (v := 0) (by decide) ?_
            exact absurd (Option.some.inj hf) (by decide)
        refine J_case (v := 27) hf (fun g304 hf => ?_) (fun g304 hf => ?_)
        · refine J_tabIn (pc := 33) C dL_law_33 (tgt := 1127) (by rw [g304]; decide) (by rw [g304]; decide) (by rw [g304]; rfl) (by decide) ?_
          refine J_aload_n (pc := 1127) C dL_law_1127 rfl 1 rfl ?_
          refine J_aload_n (pc := 1128) C dL_law_1128 rfl 0 rfl ?_
          refine J_iload_n (pc := 1129) C dL_law_1129 rfl 3 rfl ?_
          refine J_iconst (pc := 1130) C dL_law_1130 (v := 1) (by decide) ?_
          refine J_iadd (pc := 1131) C dL_law_1131 ?_
          refine J_sld (pc := 1132) C dL_law_1132 hX hbl hbA hf (fun x305 hf => ?_)
          obtain ⟨q306, h307, hf⟩ := bind_ok hf
          obtain ⟨_, g308, h307⟩ := cl_spec h307
          refine J_cV (S := []) (pc := 1133) C dL_law_1133 (c_X10_octet _ _ _ h307) k_974 ys_X10_octet ⟨Nat.le_of_ble_eq_true rfl, Nat.le_of_ble_eq_true rfl⟩ ⟨Nat.le_of_ble_eq_true rfl, Nat.le_of_ble_eq_true rfl⟩ g308 rfl rfl (fun _ => Nat.le_of_ble_eq_true rfl) ?_
          refine J_aload_n (pc := 1136) C dL_law_1136 rfl 2 rfl ?_
          refine J_aload_n (pc := 1137) C dL_law_1137 rfl 0 rfl ?_
          refine J_iload_n (pc := 1138) C dL_law_1138 rfl 3 rfl ?_
          refine J_iconst (pc := 1139) C dL_law_1139 (v := 1) (by decide) ?_
          refine J_iadd (pc := 1140) C dL_law_1140 ?_
          refine J_sld (pc := 1141) C dL_law_1141 hX hbl hbA hf (fun x309 hf => ?_)
          obtain ⟨q310, h311, hf⟩ := bind_ok hf
          obtain ⟨_, g312, h311⟩ := cl_spec h311
          refine J_cV (S := [.int q306]) (pc := 1142) C dL_law_1142 (c_X11_octet _ _ _ h311) k_1361 ys_X11_octet ⟨Nat.le_of_ble_eq_true rfl, Nat.le_of_ble_eq_true rfl⟩ ⟨Nat.le_of_ble_eq_true rfl, Nat.le_of_ble_eq_true rfl⟩ g312 rfl rfl (fun _ => Nat.le_of_ble_eq_true rfl) ?_
          refine J_icmp_eq (pc := 1145) C dL_law_1145 (tgt := 1196) (by decide) hf (fun _ hf => ?_) (fun _ hf => ?_)
          · refine J_sub [0, 1, 2, 3] (L1 := [(0, .ref 40000), (1, .ref v1), (2, .ref v2), (3, .int v3)]) rfl ?_
            exact B1196 (f_law_18 fu Ln xs n) ih w v1 v2 v3 hf
          · refine J_iconst (pc := 1148) C dL_law_1148 (v := 0) (by decide) ?_
            exact absurd (Option.some.inj hf) (by decide)
        refine J_case (v := 28) hf (fun g313 hf => ?_) (fun g313 hf => ?_)
        · refine J_tabIn (pc := 33) C dL_law_33 (tgt := 1150) (by rw [g313]; decide) (by rw [g313]; decide) (by rw [g313]; rfl) (by decide) ?_
          refine J_aload_n (pc := 1150) C dL_law_1150 rfl 1 rfl ?_
          refine J_aload_n (pc := 1151) C dL_law_1151 rfl 0 rfl ?_
          refine J_iload_n (pc := 1152) C dL_law_1152 rfl 3 rfl ?_
          refine J_iconst (pc := 1153) C dL_law_1153 (v := 1) (by decide) ?_
          refine J_iadd (pc := 1154) C dL_law_1154 ?_
          refine J_sld (pc := 1155) C dL_law_1155 hX hbl hbA hf (fun x314 hf => ?_)
          obtain ⟨q315, h316, hf⟩ := bind_ok hf
          obtain ⟨_, g317, h316⟩ := cl_spec h316
          refine J_cV (S := []) (pc := 1156) C dL_law_1156 (c_X10_image _ _ _ _ h316) k_979 ys_X10_image ⟨Nat.le_of_ble_eq_true rfl, Nat.le_of_ble_eq_true rfl⟩ ⟨Nat.le_of_ble_eq_true rfl, Nat.le_of_ble_eq_true rfl⟩ g317 rfl rfl (fun _ => Nat.le_of_ble_eq_true rfl) ?_
          refine J_aload_n (pc := 1159) C dL_law_1159 rfl 2 rfl ?_
          refine J_aload_n (pc := 1160) C dL_law_1160 rfl 0 rfl ?_
          refine J_iload_n (pc := 1161) C dL_law_1161 rfl 3 rfl ?_
          refine J_iconst (pc := 1162) C dL_law_1162 (v := 1) (by decide) ?_
          refine J_iadd (pc := 1163) C dL_law_1163 ?_
          refine J_sld (pc := 1164) C dL_law_1164 hX hbl hbA hf (fun x318 hf => ?_)
          obtain ⟨q319, h320, hf⟩ := bind_ok hf
          obtain ⟨_, g321, h320⟩ := cl_spec h320
          refine J_cV (S := [.int q315.1]) (pc := 1165) C dL_law_1165 (c_X11_image _ _ _ _ h320) k_1451 ys_X11_image ⟨Nat.le_of_ble_eq_true rfl, Nat.le_of_ble_eq_true rfl⟩ ⟨Nat.le_of_ble_eq_true rfl, Nat.le_of_ble_eq_true rfl⟩ g321 rfl rfl (fun _ => Nat.le_of_ble_eq_true rfl) ?_
          refine J_icmp_eq (pc := 1168) C dL_law_1168 (tgt := 1196) (by decide) hf (fun _ hf => ?_) (fun _ hf => ?_)
          · refine J_sub [0, 1, 2, 3] (L1 := [(0, .ref 40000), (1, .ref v1), (2, .ref v2), (3, .int v3)]) rfl ?_
            exact B1196 (f_law_18 fu Ln xs n) ih q319.2 v1 v2 v3 hf
          · refine J_iconst (pc := 1171) C dL_law_1171 (v := 0) (by decide) ?_
            exact absurd (Option.some.inj hf) (by decide)
        refine J_case (v := 29) hf (fun g322 hf => ?_) (fun g322 hf => ?_)
        · refine J_tabIn (pc := 33) C dL_law_33 (tgt := 1173) (by rw [g322]; decide) (by rw [g322]; decide) (by rw [g322]; rfl) (by decide) ?_
          refine J_aload_n (pc := 1173) C dL_law_1173 rfl 1 rfl ?_
          refine J_aload_n (pc := 1174) C dL_law_1174 rfl 0 rfl ?_
          refine J_iload_n (pc := 1175) C dL_law_1175 rfl 3 rfl ?_
          refine J_iconst (pc := 1176) C dL_law_1176 (v := 1) (by decide) ?_
          refine J_iadd (pc := 1177) C dL_law_1177 ?_
          refine J_sld (pc := 1178) C dL_law_1178 hX hbl hbA hf (fun x323 hf => ?_)
          obtain ⟨q324, h325, hf⟩ := bind_ok hf
          obtain ⟨_, g326, h325⟩ := cl_spec h325
          refine J_cV (S := []) (pc := 1179) C dL_law_1179 (c_X10_again _ _ _ _ h325) k_989 ys_X10_again ⟨Nat.le_of_ble_eq_true rfl, Nat.le_of_ble_eq_true rfl⟩ ⟨Nat.le_of_ble_eq_true rfl, Nat.le_of_ble_eq_true rfl⟩ g326 rfl rfl (fun _ => Nat.le_of_ble_eq_true rfl) ?_
          refine J_aload_n (pc := 1182) C dL_law_1182 rfl 2 rfl ?_
          refine J_aload_n (pc := 1183) C dL_law_1183 rfl 0 rfl ?_
          refine J_iload_n (pc := 1184) C dL_law_1184 rfl 3 rfl ?_
          refine J_iconst (pc := 1185) C dL_law_1185 (v := 1) (by decide) ?_
          refine J_iadd (pc := 1186) C dL_law_1186 ?_
          refine J_sld (pc := 1187) C dL_law_1187 hX hbl hbA hf (fun x327 hf => ?_)
          obtain ⟨q328, h329, hf⟩ := bind_ok hf
          obtain ⟨_, g330, h329⟩ := cl_spec h329
          refine J_cV (S := [.int q324.1]) (pc := 1188) C dL_law_1188 (c_X11_again _ _ _ _ h329) k_1455 ys_X11_again ⟨Nat.le_of_ble_eq_true rfl, Nat.le_of_ble_eq_true rfl⟩ ⟨Nat.le_of_ble_eq_true rfl, Nat.le_of_ble_eq_true rfl⟩ g330 rfl rfl (fun _ => Nat.le_of_ble_eq_true rfl) ?_
          refine J_icmp_eq (pc := 1191) C dL_law_1191 (tgt := 1196) (by decide) hf (fun _ hf => ?_) (fun _ hf => ?_)
          · refine J_sub [0, 1, 2, 3] (L1 := [(0, .ref 40000), (1, .ref v1), (2, .ref v2), (3, .int v3)]) rfl ?_
            exact B1196 (f_law_18 fu Ln xs n) ih q328.2 v1 v2 v3 hf
          · refine J_iconst (pc := 1194) C dL_law_1194 (v := 0) (by decide) ?_
            exact absurd (Option.some.inj hf) (by decide)
        refine J_tabOut (pc := 33) C dL_law_33 (tgt := 1196) (by have z0 := lv_neT g2 (k := 0) (a := 0) (by decide); have z1 := lv_neT g20 (k := 1) (a := 1) (by decide); have z2 := lv_neT g29 (k := 2) (a := 2) (by decide); have z3 := lv_neT g36 (k := 3) (a := 3) (by decide); have z4 := lv_neT g45 (k := 4) (a := 4) (by decide); have z5 := lv_neT g56 (k := 5) (a := 5) (by decide); have z6 := lv_neT g67 (k := 6) (a := 6) (by decide); have z7 := lv_neT g80 (k := 7) (a := 7) (by decide); have z8 := lv_neT g91 (k := 8) (a := 8) (by decide); have z9 := lv_neT g102 (k := 9) (a := 9) (by decide); have z10 := lv_neT g113 (k := 10) (a := 10) (by decide); have z11 := lv_neT g128 (k := 11) (a := 11) (by decide); have z12 := lv_neT g143 (k := 12) (a := 12) (by decide); have z13 := lv_neT g154 (k := 13) (a := 13) (by decide); have z14 := lv_neT g161 (k := 14) (a := 14) (by decide); have z15 := lv_neT g172 (k := 15) (a := 15) (by decide); have z16 := lv_neT g183 (k := 16) (a := 16) (by decide); have z17 := lv_neT g196 (k := 17) (a := 17) (by decide); have z18 := lv_neT g211 (k := 18) (a := 18) (by decide); have z19 := lv_neT g224 (k := 19) (a := 19) (by decide); have z20 := lv_neT g233 (k := 20) (a := 20) (by decide); have z21 := lv_neT g242 (k := 21) (a := 21) (by decide); have z22 := lv_neT g255 (k := 22) (a := 22) (by decide); have z23 := lv_neT g264 (k := 23) (a := 23) (by decide); have z24 := lv_neT g273 (k := 24) (a := 24) (by decide); have z25 := lv_neT g286 (k := 25) (a := 25) (by decide); have z26 := lv_neT g295 (k := 26) (a := 26) (by decide); have z27 := lv_neT g304 (k := 27) (a := 27) (by decide); have z28 := lv_neT g313 (k := 28) (a := 28) (by decide); have z29 := lv_neT g322 (k := 29) (a := 29) (by decide); omega) (by decide) ?_
        refine J_sub [0, 1, 2, 3] (L1 := [(0, .ref 40000), (1, .ref v1), (2, .ref v2), (3, .int v3)]) rfl ?_
        exact B1196 (f_law_18 fu Ln xs n) ih w v1 v2 v3 hf
  rw [f_law] at hf
  refine J_new (pc := 0) C dL_law_0 (ci := 10) (fs := [.null, .null, .null, .null, .null, .null, .null, .int 0, .int 0]) rfl iX10 tyX10 tyX10_ok k_95 k_96 k_76 (by decide +kernel) (fun _ => rfl) ⟨Nat.le_of_ble_eq_true rfl, Nat.le_of_ble_eq_true rfl⟩ hEE [.ref 40000] rfl hf (fun w1 hf => ?_)
  refine J_dup (pc := 3) C dL_law_3 rfl ?_
  obtain ⟨w2, h2, hf⟩ := bind_ok hf
  obtain ⟨g1, g2, _, g3, h2⟩ := clA_spec h2
  refine J_cIA (S := [.ref 0]) (pc := 4) C dL_law_4 (c_X10_init _ _ h2) k_97 ys_X10_init ⟨Nat.le_of_ble_eq_true rfl, Nat.le_of_ble_eq_true rfl⟩ ⟨Nat.le_of_ble_eq_true rfl, Nat.le_of_ble_eq_true rfl⟩ g3 rfl rfl (fun _ => Nat.le_of_ble_eq_true rfl) hEE g1 [.ref 40000, .ref 0] rfl g2 ?_
  refine J_astore_n (pc := 7) C dL_law_7 rfl (by decide) [(1, .ref 0), (0, .ref 40000)] rfl ?_
  refine J_new (pc := 8) C dL_law_8 (ci := 11) (fs := [.null, .null, .null, .null, .int 0, .int 0, .int 0, .int 0, .int 0, .int 0, .null, .int 0, .int 0, .int 0, .int 0, .int 0, .int 0, .int 0, .int 0, .int 0, .int 0, .null, .int 0, .int 0, .int 0, .int 0, .long 0]) rfl iX11 tyX11 tyX11_ok k_993 k_994 k_87 (by decide +kernel) (fun _ => rfl) ⟨Nat.le_of_ble_eq_true rfl, Nat.le_of_ble_eq_true rfl⟩ hEE [.ref 0, .ref 40000] rfl hf (fun w3 hf => ?_)
  rw [bnd_eq0] at hf
  refine J_dup (pc := 11) C dL_law_11 rfl ?_
  obtain ⟨w4, h4, hf⟩ := bind_ok hf
  obtain ⟨g4, g5, _, g6, h4⟩ := clA_spec h4
  refine J_cIA (S := [.ref w2.length]) (pc := 12) C dL_law_12 (c_X11_init _ _ _ h4) k_995 ys_X11_init ⟨Nat.le_of_ble_eq_true rfl, Nat.le_of_ble_eq_true rfl⟩ ⟨Nat.le_of_ble_eq_true rfl, Nat.le_of_ble_eq_true rfl⟩ g6 rfl rfl (fun _ => Nat.le_of_ble_eq_true rfl) hEE g4 [.ref 0, .ref 40000, .ref w2.length] ?_ g5 ?_
  · rfl
  refine J_astore_n (pc := 15) C dL_law_15 rfl (by decide) [(2, .ref w2.length), (1, .ref 0), (0, .ref 40000)] rfl ?_
  refine J_iconst (pc := 16) C dL_law_16 (v := 0) (by decide) ?_
  refine J_istore_n (pc := 17) C dL_law_17 rfl (by decide) hf (fun q => [(3, .int q), (2, .ref w2.length), (1, .ref 0), (0, .ref 40000)]) (fun _ => rfl) (fun x3 hf => ?_)
  refine J_sub [3, 2, 1, 0] (L1 := [(0, .ref 40000), (1, .ref 0), (2, .ref w2.length), (3, .int x3)]) rfl ?_
  exact B18 fu w4 0 w2.length x3 hf
