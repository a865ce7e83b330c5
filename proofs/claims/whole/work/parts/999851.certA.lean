set_option maxRecDepth 100000 in
set_option maxHeartbeats 4000000 in
theorem c_X6_init {l : Launch} {D : va_G} {dA : FieldType → ClassId} (w0 : MW) (v0 : Nat) {w' : MW} (hf : f_X6_init w0 v0 = some w') : CA l D dA yX6_init cX6_init 1 none rmX6_init 3 256 [.ref v0] w0 none w' := by
  refine J_metA (by decide) rfl (Nat.le_of_ble_eq_true rfl) (fun p e s m args below meth c A E C hini hEE => ?_)
  rw [f_X6_init] at hf
  refine J_sub [0] (L1 := [(0, .ref v0)]) rfl ?_
  refine J_aload_n (pc := 0) C dX6_init_0 rfl 0 rfl ?_
  refine J_objInit (pc := 1) C dX6_init_1 k_256 k_101 k_102 (Nat.le_of_ble_eq_true rfl) (fun _ => Nat.le_of_ble_eq_true rfl) ?_
  refine J_aload_n (pc := 4) C dX6_init_4 rfl 0 rfl ?_
  refine J_sipush (pc := 5) C dX6_init_5 (v := 240) (by decide) ?_
  refine J_newa (aty := .int) (ty := .int) (N := 240) (pc := 8) C 0 (fun _ => rfl) dX6_init_8 rfl k_145 (fun _ => rfl) (fun _ _ h => h) (by decide) (by decide) (Nat.le_of_ble_eq_true rfl) ⟨Nat.le_of_ble_eq_true rfl, Nat.le_of_ble_eq_true rfl⟩ hEE [.ref v0, .ref v0] rfl hf (fun w1 hf => ?_)
  refine J_putF (pc := 10) C dX6_init_10 (ci := 6) (k0 := 0) rfl iX6 tyX6 tyX6_ok nmX6 (by decide) k_257 hini rfl rfl (ty := (.array .int)) (by decide +kernel) (fun _ => rfl) (fun _ => rfl) hf (fun w2 hf => ?_)
  refine J_aload_n (pc := 13) C dX6_init_13 rfl 0 rfl ?_
  refine J_bipush (pc := 14) C dX6_init_14 (v := 8) (by decide) ?_
  refine J_newa (aty := .int) (ty := .int) (N := 8) (pc := 16) C 0 (fun _ => rfl) dX6_init_16 rfl k_145 (fun _ => rfl) (fun _ _ h => h) (by decide) (by decide) (Nat.le_of_ble_eq_true rfl) ⟨Nat.le_of_ble_eq_true rfl, Nat.le_of_ble_eq_true rfl⟩ hEE [.ref v0, .ref v0] rfl hf (fun w3 hf => ?_)
  refine J_putF (pc := 18) C dX6_init_18 (ci := 6) (k0 := 1) rfl iX6 tyX6 tyX6_ok nmX6 (by decide) k_258 hini rfl rfl (ty := (.array .int)) (by decide +kernel) (fun _ => rfl) (fun _ => rfl) hf (fun w4 hf => ?_)
  refine J_aload_n (pc := 21) C dX6_init_21 rfl 0 rfl ?_
  refine J_bipush (pc := 22) C dX6_init_22 (v := 8) (by decide) ?_
  refine J_newa (aty := .int) (ty := .int) (N := 8) (pc := 24) C 0 (fun _ => rfl) dX6_init_24 rfl k_145 (fun _ => rfl) (fun _ _ h => h) (by decide) (by decide) (Nat.le_of_ble_eq_true rfl) ⟨Nat.le_of_ble_eq_true rfl, Nat.le_of_ble_eq_true rfl⟩ hEE [.ref v0, .ref v0] rfl hf (fun w5 hf => ?_)
  refine J_putF (pc := 26) C dX6_init_26 (ci := 6) (k0 := 2) rfl iX6 tyX6 tyX6_ok nmX6 (by decide) k_259 hini rfl rfl (ty := (.array .int)) (by decide +kernel) (fun _ => rfl) (fun _ => rfl) hf (fun w6 hf => ?_)
  refine J_widen (k := 3) (n := 256) (Nat.le_of_ble_eq_true rfl) (Nat.le_of_ble_eq_true rfl) ?_
  exact J_vret (pc := 29) C rfl dX6_init_29 hf
set_option maxRecDepth 100000 in
set_option maxHeartbeats 4000000 in
theorem c_X4_init {l : Launch} {D : va_G} {dA : FieldType → ClassId} (w : MW) (v0 : Nat) (v1 : Nat) {w' : MW} (hf : f_X4_init w v0 v1 = some w') : CT l D dA yX4_init cX4_init 2 none rmX4_init [.ref v0, .ref v1] w none w' := by
  refine J_metI (by decide) rfl (Nat.le_of_ble_eq_true rfl) (fun p e s m args below meth c A E C hini => ?_)
  rw [f_X4_init] at hf
  refine J_sub [0, 1] (L1 := [(0, .ref v0), (1, .ref v1)]) rfl ?_
  refine J_aload_n (pc := 0) C dX4_init_0 rfl 0 rfl ?_
  refine J_objInit (pc := 1) C dX4_init_1 k_283 k_101 k_102 (Nat.le_of_ble_eq_true rfl) (fun _ => Nat.le_of_ble_eq_true rfl) ?_
  refine J_aload_n (pc := 4) C dX4_init_4 rfl 0 rfl ?_
  refine J_aload_n (pc := 5) C dX4_init_5 rfl 1 rfl ?_
  refine J_putF (pc := 6) C dX4_init_6 (ci := 4) (k0 := 0) rfl iX4 tyX4 tyX4_ok nmX4 (by decide) k_284 hini rfl rfl (ty := (.array .byte)) (by decide +kernel) (fun _ => rfl) (fun _ => rfl) hf (fun w1 hf => ?_)
  refine J_aload_n (pc := 9) C dX4_init_9 rfl 0 rfl ?_
  refine J_iconst (pc := 10) C dX4_init_10 (v := 0) (by decide) ?_
  refine J_put (pc := 11) C dX4_init_11 (ci := 4) (k0 := 1) rfl iX4 tyX4 tyX4_ok nmX4 (by decide) k_285 rfl (ty := .int) (by decide +kernel) (fun _ => rfl) (fun _ => rfl) hf (fun w2 hf => ?_)
  exact J_vret (pc := 14) C rfl dX4_init_14 hf
set_option maxRecDepth 100000 in
set_option maxHeartbeats 4000000 in
theorem c_X1_init {l : Launch} {D : va_G} {dA : FieldType → ClassId} (w0 : MW) (v0 : Nat) {w' : MW} (hf : f_X1_init w0 v0 = some w') : CA l D dA yX1_init cX1_init 1 none rmX1_init 8 1423 [.ref v0] w0 none w' := by
  refine J_metA (by decide) rfl (Nat.le_of_ble_eq_true rfl) (fun p e s m args below meth c A E C hini hEE => ?_)
  rw [f_X1_init] at hf
  refine J_sub [0] (L1 := [(0, .ref v0)]) rfl ?_
  refine J_aload_n (pc := 0) C dX1_init_0 rfl 0 rfl ?_
  refine J_objInit (pc := 1) C dX1_init_1 k_338 k_101 k_102 (Nat.le_of_ble_eq_true rfl) (fun _ => Nat.le_of_ble_eq_true rfl) ?_
  refine J_aload_n (pc := 4) C dX1_init_4 rfl 0 rfl ?_
  refine J_new (pc := 5) C dX1_init_5 (ci := 6) (fs := [.null, .null, .null]) rfl iX6 tyX6 tyX6_ok k_339 k_252 k_83 (by decide +kernel) (fun _ => rfl) ⟨Nat.le_of_ble_eq_true rfl, Nat.le_of_ble_eq_true rfl⟩ hEE [.ref v0, .ref v0] rfl hf (fun w1 hf => ?_)
  refine J_dup (pc := 8) C dX1_init_8 rfl ?_
  obtain ⟨q2, h3, hf⟩ := bind_ok hf
  obtain ⟨g41, g42, _, g4, h3⟩ := clA_spec h3
  refine J_cINA (S := [.ref w0.length, .ref v0]) (pc := 9) C dX1_init_9 (c_X6_init _ _ h3) n_340 ys_X6_init ⟨Nat.le_of_ble_eq_true rfl, Nat.le_of_ble_eq_true rfl⟩ ⟨Nat.le_of_ble_eq_true rfl, Nat.le_of_ble_eq_true rfl⟩ g4 rfl rfl (fun _ => Nat.le_of_ble_eq_true rfl) hEE g41 [.ref v0, .ref w0.length, .ref v0] rfl g42 ?_
  refine J_putF (pc := 12) C dX1_init_12 (ci := 1) (k0 := 0) rfl iX1 tyX1 tyX1_ok nmX1 (by decide) k_343 hini rfl rfl (ty := (.object "MeltingHeaps$Snapshot")) (by decide +kernel) (fun _ => rfl) (fun _ => rfl) hf (fun w5 hf => ?_)
  refine J_aload_n (pc := 15) C dX1_init_15 rfl 0 rfl ?_
  refine J_new (pc := 16) C dX1_init_16 (ci := 4) (fs := [.null, .int 0]) rfl iX4 tyX4 tyX4_ok k_341 k_279 k_84 (by decide +kernel) (fun _ => rfl) ⟨Nat.le_of_ble_eq_true rfl, Nat.le_of_ble_eq_true rfl⟩ hEE [.ref v0, .ref v0] rfl hf (fun w6 hf => ?_)
  refine J_dup (pc := 19) C dX1_init_19 rfl ?_
  refine J_sipush (pc := 20) C dX1_init_20 (v := 800) (by decide) ?_
  refine J_newa (aty := .byte) (ty := .byte) (N := 800) (pc := 23) C 1 (fun _ => rfl) dX1_init_23 rfl k_293 (fun _ => rfl) (fun _ _ h => h) (by decide) (by decide) (Nat.le_of_ble_eq_true rfl) ⟨Nat.le_of_ble_eq_true rfl, Nat.le_of_ble_eq_true rfl⟩ hEE [.ref v0, .ref w5.length, .ref w5.length, .ref v0] rfl hf (fun w7 hf => ?_)
  obtain ⟨q8, h9, hf⟩ := bind_ok hf
  obtain ⟨_, g10, h9⟩ := cl_spec h9
  refine J_cI (S := [.ref w5.length, .ref v0]) (pc := 25) C dX1_init_25 (c_X4_init _ _ _ h9) k_342 ys_X4_init ⟨Nat.le_of_ble_eq_true rfl, Nat.le_of_ble_eq_true rfl⟩ ⟨Nat.le_of_ble_eq_true rfl, Nat.le_of_ble_eq_true rfl⟩ g10 rfl rfl (fun _ => Nat.le_of_ble_eq_true rfl) ?_
  refine J_putF (pc := 28) C dX1_init_28 (ci := 1) (k0 := 1) rfl iX1 tyX1 tyX1_ok nmX1 (by decide) k_345 hini rfl rfl (ty := (.object "MeltingHeaps$Row")) (by decide +kernel) (fun _ => rfl) (fun _ => rfl) hf (fun w11 hf => ?_)
  refine J_aload_n (pc := 31) C dX1_init_31 rfl 0 rfl ?_
  refine J_new (pc := 32) C dX1_init_32 (ci := 4) (fs := [.null, .int 0]) rfl iX4 tyX4 tyX4_ok k_341 k_279 k_84 (by decide +kernel) (fun _ => rfl) ⟨Nat.le_of_ble_eq_true rfl, Nat.le_of_ble_eq_true rfl⟩ hEE [.ref v0, .ref v0] rfl hf (fun w12 hf => ?_)
  refine J_dup (pc := 35) C dX1_init_35 rfl ?_
  refine J_sipush (pc := 36) C dX1_init_36 (v := 360) (by decide) ?_
  refine J_newa (aty := .byte) (ty := .byte) (N := 360) (pc := 39) C 1 (fun _ => rfl) dX1_init_39 rfl k_293 (fun _ => rfl) (fun _ _ h => h) (by decide) (by decide) (Nat.le_of_ble_eq_true rfl) ⟨Nat.le_of_ble_eq_true rfl, Nat.le_of_ble_eq_true rfl⟩ hEE [.ref v0, .ref w11.length, .ref w11.length, .ref v0] rfl hf (fun w13 hf => ?_)
  obtain ⟨q14, h15, hf⟩ := bind_ok hf
  obtain ⟨_, g16, h15⟩ := cl_spec h15
  refine J_cI (S := [.ref w11.length, .ref v0]) (pc := 41) C dX1_init_41 (c_X4_init _ _ _ h15) k_342 ys_X4_init ⟨Nat.le_of_ble_eq_true rfl, Nat.le_of_ble_eq_true rfl⟩ ⟨Nat.le_of_ble_eq_true rfl, Nat.le_of_ble_eq_true rfl⟩ g16 rfl rfl (fun _ => Nat.le_of_ble_eq_true rfl) ?_
  refine J_putF (pc := 44) C dX1_init_44 (ci := 1) (k0 := 2) rfl iX1 tyX1 tyX1_ok nmX1 (by decide) k_347 hini rfl rfl (ty := (.object "MeltingHeaps$Row")) (by decide +kernel) (fun _ => rfl) (fun _ => rfl) hf (fun w17 hf => ?_)
  refine J_aload_n (pc := 47) C dX1_init_47 rfl 0 rfl ?_
  refine J_iconst (pc := 48) C dX1_init_48 (v := 0) (by decide) ?_
  refine J_put (pc := 49) C dX1_init_49 (ci := 1) (k0 := 3) rfl iX1 tyX1 tyX1_ok nmX1 (by decide) k_349 rfl (ty := .boolean) (by decide +kernel) (fun _ => (by decide : narrow .boolean (.int (0 : Int32)) = .int (0 : Int32))) (fun _ => rfl) hf (fun w18 hf => ?_)
  refine J_aload_n (pc := 52) C dX1_init_52 rfl 0 rfl ?_
  refine J_iconst (pc := 53) C dX1_init_53 (v := 0) (by decide) ?_
  refine J_put (pc := 54) C dX1_init_54 (ci := 1) (k0 := 4) rfl iX1 tyX1 tyX1_ok nmX1 (by decide) k_351 rfl (ty := .int) (by decide +kernel) (fun _ => rfl) (fun _ => rfl) hf (fun w19 hf => ?_)
  refine J_aload_n (pc := 57) C dX1_init_57 rfl 0 rfl ?_
  refine J_iconst (pc := 58) C dX1_init_58 (v := -1) (by decide) ?_
  refine J_put (pc := 59) C dX1_init_59 (ci := 1) (k0 := 5) rfl iX1 tyX1 tyX1_ok nmX1 (by decide) k_353 rfl (ty := .int) (by decide +kernel) (fun _ => rfl) (fun _ => rfl) hf (fun w20 hf => ?_)
  refine J_widen (k := 8) (n := 1423) (Nat.le_of_ble_eq_true rfl) (Nat.le_of_ble_eq_true rfl) ?_
  exact J_vret (pc := 62) C rfl dX1_init_62 hf
set_option maxRecDepth 100000 in
set_option maxHeartbeats 4000000 in
theorem c_X2_init {l : Launch} {D : va_G} {dA : FieldType → ClassId} (w0 : MW) (v0 : Nat) (v1 : Nat) {w' : MW} (hf : f_X2_init w0 v0 v1 = some w') : CA l D dA yX2_init cX2_init 2 none rmX2_init 1 8 [.ref v0, .ref v1] w0 none w' := by
  refine J_metA (by decide) rfl (Nat.le_of_ble_eq_true rfl) (fun p e s m args below meth c A E C hini hEE => ?_)
  rw [f_X2_init] at hf
  refine J_sub [0, 1] (L1 := [(0, .ref v0), (1, .ref v1)]) rfl ?_
  refine J_aload_n (pc := 0) C dX2_init_0 rfl 0 rfl ?_
  refine J_objInit (pc := 1) C dX2_init_1 k_204 k_101 k_102 (Nat.le_of_ble_eq_true rfl) (fun _ => Nat.le_of_ble_eq_true rfl) ?_
  refine J_aload_n (pc := 4) C dX2_init_4 rfl 0 rfl ?_
  refine J_bipush (pc := 5) C dX2_init_5 (v := 8) (by decide) ?_
  refine J_newa (aty := .int) (ty := .int) (N := 8) (pc := 7) C 0 (fun _ => rfl) dX2_init_7 rfl k_145 (fun _ => rfl) (fun _ _ h => h) (by decide) (by decide) (Nat.le_of_ble_eq_true rfl) ⟨Nat.le_of_ble_eq_true rfl, Nat.le_of_ble_eq_true rfl⟩ hEE [.ref v0, .ref v1, .ref v0] rfl hf (fun w1 hf => ?_)
  refine J_putF (pc := 9) C dX2_init_9 (ci := 2) (k0 := 1) rfl iX2 tyX2 tyX2_ok nmX2 (by decide) k_206 hini rfl rfl (ty := (.array .int)) (by decide +kernel) (fun _ => rfl) (fun _ => rfl) hf (fun w2 hf => ?_)
  refine J_aload_n (pc := 12) C dX2_init_12 rfl 0 rfl ?_
  refine J_aload_n (pc := 13) C dX2_init_13 rfl 1 rfl ?_
  refine J_putF (pc := 14) C dX2_init_14 (ci := 2) (k0 := 0) rfl iX2 tyX2 tyX2_ok nmX2 (by decide) k_205 hini rfl rfl (ty := (.array (.object "MeltingHeaps$Heap"))) (by decide +kernel) (fun _ => rfl) (fun _ => rfl) hf (fun w3 hf => ?_)
  refine J_widen (k := 1) (n := 8) (Nat.le_of_ble_eq_true rfl) (Nat.le_of_ble_eq_true rfl) ?_
  exact J_vret (pc := 17) C rfl dX2_init_17 hf
set_option maxRecDepth 100000 in
set_option maxHeartbeats 4000000 in
theorem c_X2_begin {l : Launch} {D : va_G} {dA : FieldType → ClassId} (fu : Nat) (w : MW) (v0 : Nat) {w' : MW} (hf : f_X2_begin fu w v0 = some w') : CT l D dA yX2_begin cX2_begin 2 none rmX2_begin [.ref v0] w none w' := by
  refine J_met (by decide) rfl (Nat.le_of_ble_eq_true rfl) (fun p e s m args below meth c A E C => ?_)
  have B2 : ∀ (n : Nat) (w : MW) (v0 : Nat) (v1 : Int32), f_X2_begin_2 fu n w v0 v1 = some w' → JW p l e rmX2_begin s m args below meth c 2 D dA A E (MQ below (Qr D dA E none w' A) args s 0 0 A) 0 0 2 [(0, .ref v0), (1, .int v1)] [] w := by
    intro n
    induction n with
    | zero => intro w v0 v1 hf; rw [f_X2_begin_2] at hf; cases hf
    | succ n ih =>
      intro w v0 v1 hf
      rw [f_X2_begin_2] at hf
      refine J_iload_n (pc := 2) C dX2_begin_2 rfl 1 rfl ?_
      refine J_bipush (pc := 3) C dX2_begin_3 (v := 8) (by decide) ?_
      refine J_icmp_ge (pc := 5) C dX2_begin_5 (tgt := 21) (by decide) hf (fun _ hf => ?_) (fun _ hf => ?_)
      · exact J_vret (pc := 21) C rfl dX2_begin_21 hf
      · refine J_aload_n (pc := 8) C dX2_begin_8 rfl 0 rfl ?_
        refine J_getR (pc := 9) C dX2_begin_9 (ci := 2) (k0 := 1) rfl iX2 (by decide) k_206 hf (fun x2 hf => ?_)
        refine J_iload_n (pc := 12) C dX2_begin_12 rfl 1 rfl ?_
        refine J_iconst (pc := 13) C dX2_begin_13 (v := 0) (by decide) ?_
        refine J_iast (pc := 14) C dX2_begin_14 hf (fun w3 hf => ?_)
        refine J_iinc (pc := 15) C dX2_begin_15 1 rfl (y := v1 + 1) rfl (by decide) hf (fun q => [(1, .int q), (0, .ref v0)]) (fun _ => rfl) (fun x4 hf => ?_)
        refine J_goto (pc := 18) C dX2_begin_18 (tgt := 2) (by decide) ?_
        refine J_sub [1, 0] (L1 := [(0, .ref v0), (1, .int x4)]) rfl ?_
        exact ih w3 v0 x4 hf
  rw [f_X2_begin] at hf
  refine J_sub [0] (L1 := [(0, .ref v0)]) rfl ?_
  refine J_iconst (pc := 0) C dX2_begin_0 (v := 0) (by decide) ?_
  refine J_istore_n (pc := 1) C dX2_begin_1 rfl (by decide) hf (fun q => [(1, .int q), (0, .ref v0)]) (fun _ => rfl) (fun x1 hf => ?_)
  refine J_sub [1, 0] (L1 := [(0, .ref v0), (1, .int x1)]) rfl ?_
  exact B2 fu w v0 x1 hf
set_option maxRecDepth 100000 in
set_option maxHeartbeats 4000000 in
theorem c_X2_next {l : Launch} {D : va_G} {dA : FieldType → ClassId} (fu : Nat) (w : MW) (v0 : Nat) {rr : Int32} {w' : MW} (hf : f_X2_next fu w v0 = some (rr, w')) : CT l D dA yX2_next cX2_next 5 (some .int) rmX2_next [.ref v0] w (some (.int rr)) w' := by
  refine J_met (by decide) rfl (Nat.le_of_ble_eq_true rfl) (fun p e s m args below meth c A E C => ?_)
  have B66 : ∀ (w : MW) (v0 : Nat) (v1 : Int32) (v2 : Int32), f_X2_next_66 fu w v0 v1 v2 = some (rr, w') → JW p l e rmX2_next s m args below meth c 5 D dA A E (MQ below (Qr D dA E (some (.int rr)) w' A) args s 0 0 A) 0 0 66 [(0, .ref v0), (1, .int v1), (2, .int v2)] [] w := by
    intro w v0 v1 v2 hf
    rw [f_X2_next_66] at hf
    refine J_iload_n (pc := 66) C dX2_next_66 rfl 2 rfl ?_
    refine J_iconst (pc := 67) C dX2_next_67 (v := -1) (by decide) ?_
    refine J_icmp_eq (pc := 68) C dX2_next_68 (tgt := 81) (by decide) hf (fun _ hf => ?_) (fun _ hf => ?_)
    · refine J_iload_n (pc := 81) C dX2_next_81 rfl 1 rfl ?_
      exact J_iret (pc := 82) C  rfl rfl dX2_next_82 hf
    · refine J_aload_n (pc := 71) C dX2_next_71 rfl 0 rfl ?_
      refine J_getR (pc := 72) C dX2_next_72 (ci := 2) (k0 := 1) rfl iX2 (by decide) k_206 hf (fun x4 hf => ?_)
      refine J_iload_n (pc := 75) C dX2_next_75 rfl 2 rfl ?_
      refine J_dup2 (pc := 76) C dX2_next_76 rfl rfl ?_
      refine J_iald (pc := 77) C dX2_next_77 hf (fun x5 hf => ?_)
      refine J_iconst (pc := 78) C dX2_next_78 (v := 1) (by decide) ?_
      refine J_iadd (pc := 79) C dX2_next_79 ?_
      refine J_iast (pc := 80) C dX2_next_80 hf (fun w6 hf => ?_)
      refine J_iload_n (pc := 81) C dX2_next_81 rfl 1 rfl ?_
      exact J_iret (pc := 82) C  rfl rfl dX2_next_82 hf
  have B60 : ∀ (lr6 : MW → Nat → Int32 → Int32 → Int32 → Option (Int32 × MW)) (lh6 : ∀ (w : MW) (v0 : Nat) (v1 : Int32) (v2 : Int32) (v3 : Int32), lr6 w v0 v1 v2 v3 = some (rr, w') → JW p l e rmX2_next s m args below meth c 5 D dA A E (MQ below (Qr D dA E (some (.int rr)) w' A) args s 0 0 A) 0 0 6 [(0, .ref v0), (1, .int v1), (2, .int v2), (3, .int v3)] [] w) (w : MW) (v0 : Nat) (v1 : Int32) (v2 : Int32) (v3 : Int32), f_X2_next_60 fu lr6 w v0 v1 v2 v3 = some (rr, w') → JW p l e rmX2_next s m args below meth c 5 D dA A E (MQ below (Qr D dA E (some (.int rr)) w' A) args s 0 0 A) 0 0 60 [(0, .ref v0), (1, .int v1), (2, .int v2), (3, .int v3)] [] w := by
    intro lr6 lh6 w v0 v1 v2 v3 hf
    rw [f_X2_next_60] at hf
    refine J_iinc (pc := 60) C dX2_next_60 3 rfl (y := v3 + 1) rfl (by decide) hf (fun q => [(3, .int q), (0, .ref v0), (1, .int v1), (2, .int v2)]) (fun _ => rfl) (fun x17 hf => ?_)
    refine J_goto (pc := 63) C dX2_next_63 (tgt := 6) (by decide) ?_
    refine J_sub [1, 2, 3, 0] (L1 := [(0, .ref v0), (1, .int v1), (2, .int v2), (3, .int x17)]) rfl ?_
    exact lh6 w v0 v1 v2 x17 hf
  have B55 : ∀ (lr6 : MW → Nat → Int32 → Int32 → Int32 → Option (Int32 × MW)) (lh6 : ∀ (w : MW) (v0 : Nat) (v1 : Int32) (v2 : Int32) (v3 : Int32), lr6 w v0 v1 v2 v3 = some (rr, w') → JW p l e rmX2_next s m args below meth c 5 D dA A E (MQ below (Qr D dA E (some (.int rr)) w' A) args s 0 0 A) 0 0 6 [(0, .ref v0), (1, .int v1), (2, .int v2), (3, .int v3)] [] w) (w : MW) (v0 : Nat) (v3 : Int32) (v4 : Int32), f_X2_next_55 fu lr6 w v0 v3 v4 = some (rr, w') → JW p l e rmX2_next s m args below meth c 5 D dA A E (MQ below (Qr D dA E (some (.int rr)) w' A) args s 0 0 A) 0 0 55 [(0, .ref v0), (3, .int v3), (4, .int v4)] [] w := by
    intro lr6 lh6 w v0 v3 v4 hf
    rw [f_X2_next_55] at hf
    refine J_iload (pc := 55) C dX2_next_55 2 rfl ?_
    refine J_istore_n (pc := 57) C dX2_next_57 rfl (by decide) hf (fun q => [(1, .int q), (0, .ref v0), (3, .int v3), (4, .int v4)]) (fun _ => rfl) (fun x18 hf => ?_)
    refine J_iload_n (pc := 58) C dX2_next_58 rfl 2 rfl ?_
    refine J_istore_n (pc := 59) C dX2_next_59 rfl (by decide) hf (fun q => [(2, .int q), (1, .int x18), (0, .ref v0), (3, .int v3), (4, .int v4)]) (fun _ => rfl) (fun x19 hf => ?_)
    refine J_sub [2, 1, 0, 3] (L1 := [(0, .ref v0), (1, .int x18), (2, .int x19), (3, .int v3)]) rfl ?_
    exact B60 lr6 lh6 w v0 x18 x19 v3 hf
  have B6 : ∀ (n : Nat) (w : MW) (v0 : Nat) (v1 : Int32) (v2 : Int32) (v3 : Int32), f_X2_next_6 fu n w v0 v1 v2 v3 = some (rr, w') → JW p l e rmX2_next s m args below meth c 5 D dA A E (MQ below (Qr D dA E (some (.int rr)) w' A) args s 0 0 A) 0 0 6 [(0, .ref v0), (1, .int v1), (2, .int v2), (3, .int v3)] [] w := by
    intro n
    induction n with
    | zero => intro w v0 v1 v2 v3 hf; rw [f_X2_next_6] at hf; cases hf
    | succ n ih =>
      intro w v0 v1 v2 v3 hf
      rw [f_X2_next_6] at hf
      refine J_iload_n (pc := 6) C dX2_next_6 rfl 3 rfl ?_
      refine J_bipush (pc := 7) C dX2_next_7 (v := 8) (by decide) ?_
      refine J_icmp_ge (pc := 9) C dX2_next_9 (tgt := 66) (by decide) hf (fun _ hf => ?_) (fun _ hf => ?_)
      · refine J_sub [0, 1, 2] (L1 := [(0, .ref v0), (1, .int v1), (2, .int v2)]) rfl ?_
        exact B66 w v0 v1 v2 hf
      · refine J_iload_n (pc := 12) C dX2_next_12 rfl 3 rfl ?_
        refine J_aload_n (pc := 13) C dX2_next_13 rfl 0 rfl ?_
        refine J_getR (pc := 14) C dX2_next_14 (ci := 2) (k0 := 0) rfl iX2 (by decide) k_205 hf (fun x7 hf => ?_)
        refine J_alen (ty := (.object RX0)) (pc := 17) C 3 (fun _ => rfl) dX2_next_17 hf (fun x8 hf => ?_)
        refine J_icmp_ge (pc := 18) C dX2_next_18 (tgt := 66) (by decide) hf (fun _ hf => ?_) (fun _ hf => ?_)
        · refine J_sub [0, 1, 2] (L1 := [(0, .ref v0), (1, .int v1), (2, .int v2)]) rfl ?_
          exact B66 w v0 v1 v2 hf
        · refine J_aload_n (pc := 21) C dX2_next_21 rfl 0 rfl ?_
          refine J_getR (pc := 22) C dX2_next_22 (ci := 2) (k0 := 0) rfl iX2 (by decide) k_205 hf (fun x9 hf => ?_)
          refine J_iload_n (pc := 25) C dX2_next_25 rfl 3 rfl ?_
          refine J_aald (Cn := RX0) (pc := 26) C 3 (fun _ => rfl) dX2_next_26 hf (fun x10 hf => ?_)
          refine J_aload_n (pc := 27) C dX2_next_27 rfl 0 rfl ?_
          refine J_getR (pc := 28) C dX2_next_28 (ci := 2) (k0 := 1) rfl iX2 (by decide) k_206 hf (fun x11 hf => ?_)
          refine J_iload_n (pc := 31) C dX2_next_31 rfl 3 rfl ?_
          refine J_iald (pc := 32) C dX2_next_32 hf (fun x12 hf => ?_)
          obtain ⟨q13, h14, hf⟩ := bind_ok hf
          obtain ⟨_, g15, h14⟩ := cl_spec h14
          refine J_cV (S := []) (pc := 33) C dX2_next_33 (c_X0_keyAt _ _ _ h14) k_906 ys_X0_keyAt ⟨Nat.le_of_ble_eq_true rfl, Nat.le_of_ble_eq_true rfl⟩ ⟨Nat.le_of_ble_eq_true rfl, Nat.le_of_ble_eq_true rfl⟩ g15 rfl rfl (fun _ => Nat.le_of_ble_eq_true rfl) ?_
          refine J_istore (pc := 36) C dX2_next_36 (by decide) hf (fun q => [(4, .int q), (0, .ref v0), (1, .int v1), (2, .int v2), (3, .int v3)]) (fun _ => rfl) (fun x16 hf => ?_)
          refine J_iload (pc := 38) C dX2_next_38 0 rfl ?_
          refine J_iconst (pc := 40) C dX2_next_40 (v := -1) (by decide) ?_
          refine J_icmp_eq (pc := 41) C dX2_next_41 (tgt := 60) (by decide) hf (fun _ hf => ?_) (fun _ hf => ?_)
          · refine J_sub [1, 2, 3, 4] (L1 := [(0, .ref v0), (1, .int v1), (2, .int v2), (3, .int v3)]) rfl ?_
            exact B60 (f_X2_next_6 fu n) ih w v0 v1 v2 v3 hf
          · refine J_iload_n (pc := 44) C dX2_next_44 rfl 2 rfl ?_
            refine J_iconst (pc := 45) C dX2_next_45 (v := -1) (by decide) ?_
            refine J_icmp_eq (pc := 46) C dX2_next_46 (tgt := 55) (by decide) hf (fun _ hf => ?_) (fun _ hf => ?_)
            · refine J_sub [1, 4, 0] (L1 := [(0, .ref v0), (3, .int v3), (4, .int x16)]) rfl ?_
              exact B55 (f_X2_next_6 fu n) ih w v0 v3 x16 hf
            · refine J_iload (pc := 49) C dX2_next_49 0 rfl ?_
              refine J_iload_n (pc := 51) C dX2_next_51 rfl 2 rfl ?_
              refine J_icmp_ge (pc := 52) C dX2_next_52 (tgt := 60) (by decide) hf (fun _ hf => ?_) (fun _ hf => ?_)
              · refine J_sub [1, 2, 3, 4] (L1 := [(0, .ref v0), (1, .int v1), (2, .int v2), (3, .int v3)]) rfl ?_
                exact B60 (f_X2_next_6 fu n) ih w v0 v1 v2 v3 hf
              · refine J_sub [1, 4, 0] (L1 := [(0, .ref v0), (3, .int v3), (4, .int x16)]) rfl ?_
                exact B55 (f_X2_next_6 fu n) ih w v0 v3 x16 hf
  rw [f_X2_next] at hf
  refine J_sub [0] (L1 := [(0, .ref v0)]) rfl ?_
  refine J_iconst (pc := 0) C dX2_next_0 (v := -1) (by decide) ?_
  refine J_istore_n (pc := 1) C dX2_next_1 rfl (by decide) hf (fun q => [(1, .int q), (0, .ref v0)]) (fun _ => rfl) (fun x1 hf => ?_)
  refine J_iconst (pc := 2) C dX2_next_2 (v := -1) (by decide) ?_
  refine J_istore_n (pc := 3) C dX2_next_3 rfl (by decide) hf (fun q => [(2, .int q), (1, .int x1), (0, .ref v0)]) (fun _ => rfl) (fun x2 hf => ?_)
  refine J_iconst (pc := 4) C dX2_next_4 (v := 0) (by decide) ?_
  refine J_istore_n (pc := 5) C dX2_next_5 rfl (by decide) hf (fun q => [(3, .int q), (2, .int x2), (1, .int x1), (0, .ref v0)]) (fun _ => rfl) (fun x3 hf => ?_)
  refine J_sub [3, 2, 1, 0] (L1 := [(0, .ref v0), (1, .int x1), (2, .int x2), (3, .int x3)]) rfl ?_
  exact B6 fu w v0 x1 x2 x3 hf
set_option maxRecDepth 100000 in
set_option maxHeartbeats 4000000 in
theorem c_X3_init {l : Launch} {D : va_G} {dA : FieldType → ClassId} (w0 : MW) (v0 : Nat) {w' : MW} (hf : f_X3_init w0 v0 = some w') : CA l D dA yX3_init cX3_init 2 none rmX3_init 53 3380 [.ref v0] w0 none w' := by
  refine J_metA (by decide) rfl (Nat.le_of_ble_eq_true rfl) (fun p e s m args below meth c A E C hini hEE => ?_)
  rw [f_X3_init] at hf
  refine J_sub [0] (L1 := [(0, .ref v0)]) rfl ?_
  refine J_aload_n (pc := 0) C dX3_init_0 rfl 0 rfl ?_
  refine J_objInit (pc := 1) C dX3_init_1 k_249 k_101 k_102 (Nat.le_of_ble_eq_true rfl) (fun _ => Nat.le_of_ble_eq_true rfl) ?_
  refine J_aload_n (pc := 4) C dX3_init_4 rfl 0 rfl ?_
  refine J_bipush (pc := 5) C dX3_init_5 (v := 13) (by decide) ?_
  refine J_newq (Cn := RX6) (N := 13) (pc := 7) C 4 (fun _ => rfl) (by decide) dX3_init_7 k_250 (by decide) (by decide) (Nat.le_of_ble_eq_true rfl) ⟨Nat.le_of_ble_eq_true rfl, Nat.le_of_ble_eq_true rfl⟩ hEE [.ref v0, .ref v0] rfl hf (fun w1 hf => ?_)
  refine J_putF (pc := 10) C dX3_init_10 (ci := 3) (k0 := 0) rfl iX3 tyX3 tyX3_ok nmX3 (by decide) k_267 hini rfl rfl (ty := (.array (.object "MeltingHeaps$Snapshot"))) (by decide +kernel) (fun _ => rfl) (fun _ => rfl) hf (fun w2 hf => ?_)
  refine J_aload_n (pc := 13) C dX3_init_13 rfl 0 rfl ?_
  refine J_iconst (pc := 14) C dX3_init_14 (v := 0) (by decide) ?_
  refine J_put (pc := 15) C dX3_init_15 (ci := 3) (k0 := 1) rfl iX3 tyX3 tyX3_ok nmX3 (by decide) k_268 rfl (ty := .int) (by decide +kernel) (fun _ => rfl) (fun _ => rfl) hf (fun w3 hf => ?_)
  refine J_aload_n (pc := 18) C dX3_init_18 rfl 0 rfl ?_
  refine J_iconst (pc := 19) C dX3_init_19 (v := 0) (by decide) ?_
  refine J_put (pc := 20) C dX3_init_20 (ci := 3) (k0 := 2) rfl iX3 tyX3 tyX3_ok nmX3 (by decide) k_269 rfl (ty := .int) (by decide +kernel) (fun _ => rfl) (fun _ => rfl) hf (fun w4 hf => ?_)
  refine J_iconst (pc := 23) C dX3_init_23 (v := 0) (by decide) ?_
  refine J_storeL (v := (0 : Int32)) (pc := 24) C dX3_init_24 rfl (by decide) ([(1, .int (0 : Int32)), (0, .ref v0)]) rfl ?_
  refine J_iload_n (pc := 25) C dX3_init_25 rfl 0 rfl ?_
  refine J_bipush (pc := 26) C dX3_init_26 (v := 13) (by decide) ?_
  refine J_icmp_ge (ρ := Unit) (T := ()) (F := ()) (r := ()) (pc := 28) C dX3_init_28 (tgt := 50) (by decide) (by simp) (fun h _ => absurd h (by decide)) (fun _ _ => ?_)
  refine J_aload_n (pc := 31) C dX3_init_31 rfl 1 rfl ?_
  refine J_getR (pc := 32) C dX3_init_32 (ci := 3) (k0 := 0) rfl iX3 (by decide) k_267 hf (fun x5 hf => ?_)
  refine J_iload_n (pc := 35) C dX3_init_35 rfl 0 rfl ?_
  refine J_new (pc := 36) C dX3_init_36 (ci := 6) (fs := [.null, .null, .null]) rfl iX6 tyX6 tyX6_ok k_250 k_252 k_83 (by decide +kernel) (fun _ => rfl) ⟨Nat.le_of_ble_eq_true rfl, Nat.le_of_ble_eq_true rfl⟩ hEE [.int (0 : Int32), .ref v0, .int (0 : Int32), .ref x5] rfl hf (fun w6 hf => ?_)
  refine J_dup (pc := 39) C dX3_init_39 rfl ?_
  obtain ⟨q7, h8, hf⟩ := bind_ok hf
  obtain ⟨g91, g92, _, g9, h8⟩ := clA_spec h8
  refine J_cINA (S := [.ref w4.length, .int (0 : Int32), .ref x5]) (pc := 40) C dX3_init_40 (c_X6_init _ _ h8) n_253 ys_X6_init ⟨Nat.le_of_ble_eq_true rfl, Nat.le_of_ble_eq_true rfl⟩ ⟨Nat.le_of_ble_eq_true rfl, Nat.le_of_ble_eq_true rfl⟩ g9 rfl rfl (fun _ => Nat.le_of_ble_eq_true rfl) hEE g91 [.int (0 : Int32), .ref v0, .ref w4.length, .int (0 : Int32), .ref x5] rfl g92 ?_
  refine J_aast (Cn := RX6) (pc := 43) C 4 6 (fun _ => rfl) rfl dX3_init_43 hf (fun w10 hf => ?_)
  refine J_iincL (pc := 44) C dX3_init_44 0 rfl (v := (1 : Int32)) (by decide) (by decide) [(1, .int (1 : Int32)), (0, .ref v0)] rfl ?_
  refine J_goto (pc := 47) C dX3_init_47 (tgt := 25) (by decide) ?_
  refine J_iload_n (pc := 25) C dX3_init_25 rfl 0 rfl ?_
  refine J_bipush (pc := 26) C dX3_init_26 (v := 13) (by decide) ?_
  refine J_icmp_ge (ρ := Unit) (T := ()) (F := ()) (r := ()) (pc := 28) C dX3_init_28 (tgt := 50) (by decide) (by simp) (fun h _ => absurd h (by decide)) (fun _ _ => ?_)
  refine J_aload_n (pc := 31) C dX3_init_31 rfl 1 rfl ?_
  refine J_getR (pc := 32) C dX3_init_32 (ci := 3) (k0 := 0) rfl iX3 (by decide) k_267 hf (fun x11 hf => ?_)
  refine J_iload_n (pc := 35) C dX3_init_35 rfl 0 rfl ?_
  refine J_new (pc := 36) C dX3_init_36 (ci := 6) (fs := [.null, .null, .null]) rfl iX6 tyX6 tyX6_ok k_250 k_252 k_83 (by decide +kernel) (fun _ => rfl) ⟨Nat.le_of_ble_eq_true rfl, Nat.le_of_ble_eq_true rfl⟩ hEE [.int (1 : Int32), .ref v0, .int (1 : Int32), .ref x11] rfl hf (fun w12 hf => ?_)
  refine J_dup (pc := 39) C dX3_init_39 rfl ?_
  obtain ⟨q13, h14, hf⟩ := bind_ok hf
  obtain ⟨g151, g152, _, g15, h14⟩ := clA_spec h14
  refine J_cINA (S := [.ref w10.length, .int (1 : Int32), .ref x11]) (pc := 40) C dX3_init_40 (c_X6_init _ _ h14) n_253 ys_X6_init ⟨Nat.le_of_ble_eq_true rfl, Nat.le_of_ble_eq_true rfl⟩ ⟨Nat.le_of_ble_eq_true rfl, Nat.le_of_ble_eq_true rfl⟩ g15 rfl rfl (fun _ => Nat.le_of_ble_eq_true rfl) hEE g151 [.int (1 : Int32), .ref v0, .ref w10.length, .int (1 : Int32), .ref x11] rfl g152 ?_
  refine J_aast (Cn := RX6) (pc := 43) C 4 6 (fun _ => rfl) rfl dX3_init_43 hf (fun w16 hf => ?_)
  refine J_iincL (pc := 44) C dX3_init_44 0 rfl (v := (2 : Int32)) (by decide) (by decide) [(1, .int (2 : Int32)), (0, .ref v0)] rfl ?_
  refine J_goto (pc := 47) C dX3_init_47 (tgt := 25) (by decide) ?_
  refine J_iload_n (pc := 25) C dX3_init_25 rfl 0 rfl ?_
  refine J_bipush (pc := 26) C dX3_init_26 (v := 13) (by decide) ?_
  refine J_icmp_ge (ρ := Unit) (T := ()) (F := ()) (r := ()) (pc := 28) C dX3_init_28 (tgt := 50) (by decide) (by simp) (fun h _ => absurd h (by decide)) (fun _ _ => ?_)
  refine J_aload_n (pc := 31) C dX3_init_31 rfl 1 rfl ?_
  refine J_getR (pc := 32) C dX3_init_32 (ci := 3) (k0 := 0) rfl iX3 (by decide) k_267 hf (fun x17 hf => ?_)
  refine J_iload_n (pc := 35) C dX3_init_35 rfl 0 rfl ?_
  refine J_new (pc := 36) C dX3_init_36 (ci := 6) (fs := [.null, .null, .null]) rfl iX6 tyX6 tyX6_ok k_250 k_252 k_83 (by decide +kernel) (fun _ => rfl) ⟨Nat.le_of_ble_eq_true rfl, Nat.le_of_ble_eq_true rfl⟩ hEE [.int (2 : Int32), .ref v0, .int (2 : Int32), .ref x17] rfl hf (fun w18 hf => ?_)
  refine J_dup (pc := 39) C dX3_init_39 rfl ?_
  obtain ⟨q19, h20, hf⟩ := bind_ok hf
  obtain ⟨g211, g212, _, g21, h20⟩ := clA_spec h20
  refine J_cINA (S := [.ref w16.length, .int (2 : Int32), .ref x17]) (pc := 40) C dX3_init_40 (c_X6_init _ _ h20) n_253 ys_X6_init ⟨Nat.le_of_ble_eq_true rfl, Nat.le_of_ble_eq_true rfl⟩ ⟨Nat.le_of_ble_eq_true rfl, Nat.le_of_ble_eq_true rfl⟩ g21 rfl rfl (fun _ => Nat.le_of_ble_eq_true rfl) hEE g211 [.int (2 : Int32), .ref v0, .ref w16.length, .int (2 : Int32), .ref x17] rfl g212 ?_
  refine J_aast (Cn := RX6) (pc := 43) C 4 6 (fun _ => rfl) rfl dX3_init_43 hf (fun w22 hf => ?_)
  refine J_iincL (pc := 44) C dX3_init_44 0 rfl (v := (3 : Int32)) (by decide) (by decide) [(1, .int (3 : Int32)), (0, .ref v0)] rfl ?_
  refine J_goto (pc := 47) C dX3_init_47 (tgt := 25) (by decide) ?_
  refine J_iload_n (pc := 25) C dX3_init_25 rfl 0 rfl ?_
  refine J_bipush (pc := 26) C dX3_init_26 (v := 13) (by decide) ?_
  refine J_icmp_ge (ρ := Unit) (T := ()) (F := ()) (r := ()) (pc := 28) C dX3_init_28 (tgt := 50) (by decide) (by simp) (fun h _ => absurd h (by decide)) (fun _ _ => ?_)
  refine J_aload_n (pc := 31) C dX3_init_31 rfl 1 rfl ?_
  refine J_getR (pc := 32) C dX3_init_32 (ci := 3) (k0 := 0) rfl iX3 (by decide) k_267 hf (fun x23 hf => ?_)
  refine J_iload_n (pc := 35) C dX3_init_35 rfl 0 rfl ?_
  refine J_new (pc := 36) C dX3_init_36 (ci := 6) (fs := [.null, .null, .null]) rfl iX6 tyX6 tyX6_ok k_250 k_252 k_83 (by decide +kernel) (fun _ => rfl) ⟨Nat.le_of_ble_eq_true rfl, Nat.le_of_ble_eq_true rfl⟩ hEE [.int (3 : Int32), .ref v0, .int (3 : Int32), .ref x23] rfl hf (fun w24 hf => ?_)
  refine J_dup (pc := 39) C dX3_init_39 rfl ?_
  obtain ⟨q25, h26, hf⟩ := bind_ok hf
  obtain ⟨g271, g272, _, g27, h26⟩ := clA_spec h26
  refine J_cINA (S := [.ref w22.length, .int (3 : Int32), .ref x23]) (pc := 40) C dX3_init_40 (c_X6_init _ _ h26) n_253 ys_X6_init ⟨Nat.le_of_ble_eq_true rfl, Nat.le_of_ble_eq_true rfl⟩ ⟨Nat.le_of_ble_eq_true rfl, Nat.le_of_ble_eq_true rfl⟩ g27 rfl rfl (fun _ => Nat.le_of_ble_eq_true rfl) hEE g271 [.int (3 : Int32), .ref v0, .ref w22.length, .int (3 : Int32), .ref x23] rfl g272 ?_
  refine J_aast (Cn := RX6) (pc := 43) C 4 6 (fun _ => rfl) rfl dX3_init_43 hf (fun w28 hf => ?_)
  refine J_iincL (pc := 44) C dX3_init_44 0 rfl (v := (4 : Int32)) (by decide) (by decide) [(1, .int (4 : Int32)), (0, .ref v0)] rfl ?_
  refine J_goto (pc := 47) C dX3_init_47 (tgt := 25) (by decide) ?_
  refine J_iload_n (pc := 25) C dX3_init_25 rfl 0 rfl ?_
  refine J_bipush (pc := 26) C dX3_init_26 (v := 13) (by decide) ?_
  refine J_icmp_ge (ρ := Unit) (T := ()) (F := ()) (r := ()) (pc := 28) C dX3_init_28 (tgt := 50) (by decide) (by simp) (fun h _ => absurd h (by decide)) (fun _ _ => ?_)
  refine J_aload_n (pc := 31) C dX3_init_31 rfl 1 rfl ?_
  refine J_getR (pc := 32) C dX3_init_32 (ci := 3) (k0 := 0) rfl iX3 (by decide) k_267 hf (fun x29 hf => ?_)
  refine J_iload_n (pc := 35) C dX3_init_35 rfl 0 rfl ?_
  refine J_new (pc := 36) C dX3_init_36 (ci := 6) (fs := [.null, .null, .null]) rfl iX6 tyX6 tyX6_ok k_250 k_252 k_83 (by decide +kernel) (fun _ => rfl) ⟨Nat.le_of_ble_eq_true rfl, Nat.le_of_ble_eq_true rfl⟩ hEE [.int (4 : Int32), .ref v0, .int (4 : Int32), .ref x29] rfl hf (fun w30 hf => ?_)
  refine J_dup (pc := 39) C dX3_init_39 rfl ?_
  obtain ⟨q31, h32, hf⟩ := bind_ok hf
  obtain ⟨g331, g332, _, g33, h32⟩ := clA_spec h32
  refine J_cINA (S := [.ref w28.length, .int (4 : Int32), .ref x29]) (pc := 40) C dX3_init_40 (c_X6_init _ _ h32) n_253 ys_X6_init ⟨Nat.le_of_ble_eq_true rfl, Nat.le_of_ble_eq_true rfl⟩ ⟨Nat.le_of_ble_eq_true rfl, Nat.le_of_ble_eq_true rfl⟩ g33 rfl rfl (fun _ => Nat.le_of_ble_eq_true rfl) hEE g331 [.int (4 : Int32), .ref v0, .ref w28.length, .int (4 : Int32), .ref x29] rfl g332 ?_
  refine J_aast (Cn := RX6) (pc := 43) C 4 6 (fun _ => rfl) rfl dX3_init_43 hf (fun w34 hf => ?_)
  refine J_iincL (pc := 44) C dX3_init_44 0 rfl (v := (5 : Int32)) (by decide) (by decide) [(1, .int (5 : Int32)), (0, .ref v0)] rfl ?_
  refine J_goto (pc := 47) C dX3_init_47 (tgt := 25) (by decide) ?_
  refine J_iload_n (pc := 25) C dX3_init_25 rfl 0 rfl ?_
  refine J_bipush (pc := 26) C dX3_init_26 (v := 13) (by decide) ?_
  refine J_icmp_ge (ρ := Unit) (T := ()) (F := ()) (r := ()) (pc := 28) C dX3_init_28 (tgt := 50) (by decide) (by simp) (fun h _ => absurd h (by decide)) (fun _ _ => ?_)
  refine J_aload_n (pc := 31) C dX3_init_31 rfl 1 rfl ?_
  refine J_getR (pc := 32) C dX3_init_32 (ci := 3) (k0 := 0) rfl iX3 (by decide) k_267 hf (fun x35 hf => ?_)
  refine J_iload_n (pc := 35) C dX3_init_35 rfl 0 rfl ?_
  refine J_new (pc := 36) C dX3_init_36 (ci := 6) (fs := [.null, .null, .null]) rfl iX6 tyX6 tyX6_ok k_250 k_252 k_83 (by decide +kernel) (fun _ => rfl) ⟨Nat.le_of_ble_eq_true rfl, Nat.le_of_ble_eq_true rfl⟩ hEE [.int (5 : Int32), .ref v0, .int (5 : Int32), .ref x35] rfl hf (fun w36 hf => ?_)
  refine J_dup (pc := 39) C dX3_init_39 rfl ?_
  obtain ⟨q37, h38, hf⟩ := bind_ok hf
  obtain ⟨g391, g392, _, g39, h38⟩ := clA_spec h38
  refine J_cINA (S := [.ref w34.length, .int (5 : Int32), .ref x35]) (pc := 40) C dX3_init_40 (c_X6_init _ _ h38) n_253 ys_X6_init ⟨Nat.le_of_ble_eq_true rfl, Nat.le_of_ble_eq_true rfl⟩ ⟨Nat.le_of_ble_eq_true rfl, Nat.le_of_ble_eq_true rfl⟩ g39 rfl rfl (fun _ => Nat.le_of_ble_eq_true rfl) hEE g391 [.int (5 : Int32), .ref v0, .ref w34.length, .int (5 : Int32), .ref x35] rfl g392 ?_
  refine J_aast (Cn := RX6) (pc := 43) C 4 6 (fun _ => rfl) rfl dX3_init_43 hf (fun w40 hf => ?_)
  refine J_iincL (pc := 44) C dX3_init_44 0 rfl (v := (6 : Int32)) (by decide) (by decide) [(1, .int (6 : Int32)), (0, .ref v0)] rfl ?_
  refine J_goto (pc := 47) C dX3_init_47 (tgt := 25) (by decide) ?_
  refine J_iload_n (pc := 25) C dX3_init_25 rfl 0 rfl ?_
  refine J_bipush (pc := 26) C dX3_init_26 (v := 13) (by decide) ?_
  refine J_icmp_ge (ρ := Unit) (T := ()) (F := ()) (r := ()) (pc := 28) C dX3_init_28 (tgt := 50) (by decide) (by simp) (fun h _ => absurd h (by decide)) (fun _ _ => ?_)
  refine J_aload_n (pc := 31) C dX3_init_31 rfl 1 rfl ?_
  refine J_getR (pc := 32) C dX3_init_32 (ci := 3) (k0 := 0) rfl iX3 (by decide) k_267 hf (fun x41 hf => ?_)
  refine J_iload_n (pc := 35) C dX3_init_35 rfl 0 rfl ?_
  refine J_new (pc := 36) C dX3_init_36 (ci := 6) (fs := [.null, .null, .null]) rfl iX6 tyX6 tyX6_ok k_250 k_252 k_83 (by decide +kernel) (fun _ => rfl) ⟨Nat.le_of_ble_eq_true rfl, Nat.le_of_ble_eq_true rfl⟩ hEE [.int (6 : Int32), .ref v0, .int (6 : Int32), .ref x41] rfl hf (fun w42 hf => ?_)
  refine J_dup (pc := 39) C dX3_init_39 rfl ?_
  obtain ⟨q43, h44, hf⟩ := bind_ok hf
  obtain ⟨g451, g452, _, g45, h44⟩ := clA_spec h44
  refine J_cINA (S := [.ref w40.length, .int (6 : Int32), .ref x41]) (pc := 40) C dX3_init_40 (c_X6_init _ _ h44) n_253 ys_X6_init ⟨Nat.le_of_ble_eq_true rfl, Nat.le_of_ble_eq_true rfl⟩ ⟨Nat.le_of_ble_eq_true rfl, Nat.le_of_ble_eq_true rfl⟩ g45 rfl rfl (fun _ => Nat.le_of_ble_eq_true rfl) hEE g451 [.int (6 : Int32), .ref v0, .ref w40.length, .int (6 : Int32), .ref x41] rfl g452 ?_
  refine J_aast (Cn := RX6) (pc := 43) C 4 6 (fun _ => rfl) rfl dX3_init_43 hf (fun w46 hf => ?_)
  refine J_iincL (pc := 44) C dX3_init_44 0 rfl (v := (7 : Int32)) (by decide) (by decide) [(1, .int (7 : Int32)), (0, .ref v0)] rfl ?_
  refine J_goto (pc := 47) C dX3_init_47 (tgt := 25) (by decide) ?_
  refine J_iload_n (pc := 25) C dX3_init_25 rfl 0 rfl ?_
  refine J_bipush (pc := 26) C dX3_init_26 (v := 13) (by decide) ?_
  refine J_icmp_ge (ρ := Unit) (T := ()) (F := ()) (r := ()) (pc := 28) C dX3_init_28 (tgt := 50) (by decide) (by simp) (fun h _ => absurd h (by decide)) (fun _ _ => ?_)
  refine J_aload_n (pc := 31) C dX3_init_31 rfl 1 rfl ?_
  refine J_getR (pc := 32) C dX3_init_32 (ci := 3) (k0 := 0) rfl iX3 (by decide) k_267 hf (fun x47 hf => ?_)
  refine J_iload_n (pc := 35) C dX3_init_35 rfl 0 rfl ?_
  refine J_new (pc := 36) C dX3_init_36 (ci := 6) (fs := [.null, .null, .null]) rfl iX6 tyX6 tyX6_ok k_250 k_252 k_83 (by decide +kernel) (fun _ => rfl) ⟨Nat.le_of_ble_eq_true rfl, Nat.le_of_ble_eq_true rfl⟩ hEE [.int (7 : Int32), .ref v0, .int (7 : Int32), .ref x47] rfl hf (fun w48 hf => ?_)
  refine J_dup (pc := 39) C dX3_init_39 rfl ?_
  obtain ⟨q49, h50, hf⟩ := bind_ok hf
  obtain ⟨g511, g512, _, g51, h50⟩ := clA_spec h50
  refine J_cINA (S := [.ref w46.length, .int (7 : Int32), .ref x47]) (pc := 40) C dX3_init_40 (c_X6_init _ _ h50) n_253 ys_X6_init ⟨Nat.le_of_ble_eq_true rfl, Nat.le_of_ble_eq_true rfl⟩ ⟨Nat.le_of_ble_eq_true rfl, Nat.le_of_ble_eq_true rfl⟩ g51 rfl rfl (fun _ => Nat.le_of_ble_eq_true rfl) hEE g511 [.int (7 : Int32), .ref v0, .ref w46.length, .int (7 : Int32), .ref x47] rfl g512 ?_
  refine J_aast (Cn := RX6) (pc := 43) C 4 6 (fun _ => rfl) rfl dX3_init_43 hf (fun w52 hf => ?_)
  refine J_iincL (pc := 44) C dX3_init_44 0 rfl (v := (8 : Int32)) (by decide) (by decide) [(1, .int (8 : Int32)), (0, .ref v0)] rfl ?_
  refine J_goto (pc := 47) C dX3_init_47 (tgt := 25) (by decide) ?_
  refine J_iload_n (pc := 25) C dX3_init_25 rfl 0 rfl ?_
  refine J_bipush (pc := 26) C dX3_init_26 (v := 13) (by decide) ?_
  refine J_icmp_ge (ρ := Unit) (T := ()) (F := ()) (r := ()) (pc := 28) C dX3_init_28 (tgt := 50) (by decide) (by simp) (fun h _ => absurd h (by decide)) (fun _ _ => ?_)
  refine J_aload_n (pc := 31) C dX3_init_31 rfl 1 rfl ?_
  refine J_getR (pc := 32) C dX3_init_32 (ci := 3) (k0 := 0) rfl iX3 (by decide) k_267 hf (fun x53 hf => ?_)
  refine J_iload_n (pc := 35) C dX3_init_35 rfl 0 rfl ?_
  refine J_new (pc := 36) C dX3_init_36 (ci := 6) (fs := [.null, .null, .null]) rfl iX6 tyX6 tyX6_ok k_250 k_252 k_83 (by decide +kernel) (fun _ => rfl) ⟨Nat.le_of_ble_eq_true rfl, Nat.le_of_ble_eq_true rfl⟩ hEE [.int (8 : Int32), .ref v0, .int (8 : Int32), .ref x53] rfl hf (fun w54 hf => ?_)
  refine J_dup (pc := 39) C dX3_init_39 rfl ?_
  obtain ⟨q55, h56, hf⟩ := bind_ok hf
  obtain ⟨g571, g572, _, g57, h56⟩ := clA_spec h56
  refine J_cINA (S := [.ref w52.length, .int (8 : Int32), .ref x53]) (pc := 40) C dX3_init_40 (c_X6_init _ _ h56) n_253 ys_X6_init ⟨Nat.le_of_ble_eq_true rfl, Nat.le_of_ble_eq_true rfl⟩ ⟨Nat.le_of_ble_eq_true rfl, Nat.le_of_ble_eq_true rfl⟩ g57 rfl rfl (fun _ => Nat.le_of_ble_eq_true rfl) hEE g571 [.int (8 : Int32), .ref v0, .ref w52.length, .int (8 : Int32), .ref x53] rfl g572 ?_
  refine J_aast (Cn := RX6) (pc := 43) C 4 6 (fun _ => rfl) rfl dX3_init_43 hf (fun w58 hf => ?_)
  refine J_iincL (pc := 44) C dX3_init_44 0 rfl (v := (9 : Int32)) (by decide) (by decide) [(1, .int (9 : Int32)), (0, .ref v0)] rfl ?_
  refine J_goto (pc := 47) C dX3_init_47 (tgt := 25) (by decide) ?_
  refine J_iload_n (pc := 25) C dX3_init_25 rfl 0 rfl ?_
  refine J_bipush (pc := 26) C dX3_init_26 (v := 13) (by decide) ?_
  refine J_icmp_ge (ρ := Unit) (T := ()) (F := ()) (r := ()) (pc := 28) C dX3_init_28 (tgt := 50) (by decide) (by simp) (fun h _ => absurd h (by decide)) (fun _ _ => ?_)
  refine J_aload_n (pc := 31) C dX3_init_31 rfl 1 rfl ?_
  refine J_getR (pc := 32) C dX3_init_32 (ci := 3) (k0 := 0) rfl iX3 (by decide) k_267 hf (fun x59 hf => ?_)
  refine J_iload_n (pc := 35) C dX3_init_35 rfl 0 rfl ?_
  refine J_new (pc := 36) C dX3_init_36 (ci := 6) (fs := [.null, .null, .null]) rfl iX6 tyX6 tyX6_ok k_250 k_252 k_83 (by decide +kernel) (fun _ => rfl) ⟨Nat.le_of_ble_eq_true rfl, Nat.le_of_ble_eq_true rfl⟩ hEE [.int (9 : Int32), .ref v0, .int (9 : Int32), .ref x59] rfl hf (fun w60 hf => ?_)
  refine J_dup (pc := 39) C dX3_init_39 rfl ?_
  obtain ⟨q61, h62, hf⟩ := bind_ok hf
  obtain ⟨g631, g632, _, g63, h62⟩ := clA_spec h62
  refine J_cINA (S := [.ref w58.length, .int (9 : Int32), .ref x59]) (pc := 40) C dX3_init_40 (c_X6_init _ _ h62) n_253 ys_X6_init ⟨Nat.le_of_ble_eq_true rfl, Nat.le_of_ble_eq_true rfl⟩ ⟨Nat.le_of_ble_eq_true rfl, Nat.le_of_ble_eq_true rfl⟩ g63 rfl rfl (fun _ => Nat.le_of_ble_eq_true rfl) hEE g631 [.int (9 : Int32), .ref v0, .ref w58.length, .int (9 : Int32), .ref x59] rfl g632 ?_
  refine J_aast (Cn := RX6) (pc := 43) C 4 6 (fun _ => rfl) rfl dX3_init_43 hf (fun w64 hf => ?_)
  refine J_iincL (pc := 44) C dX3_init_44 0 rfl (v := (10 : Int32)) (by decide) (by decide) [(1, .int (10 : Int32)), (0, .ref v0)] rfl ?_
  refine J_goto (pc := 47) C dX3_init_47 (tgt := 25) (by decide) ?_
  refine J_iload_n (pc := 25) C dX3_init_25 rfl 0 rfl ?_
  refine J_bipush (pc := 26) C dX3_init_26 (v := 13) (by decide) ?_
  refine J_icmp_ge (ρ := Unit) (T := ()) (F := ()) (r := ()) (pc := 28) C dX3_init_28 (tgt := 50) (by decide) (by simp) (fun h _ => absurd h (by decide)) (fun _ _ => ?_)
  refine J_aload_n (pc := 31) C dX3_init_31 rfl 1 rfl ?_
  refine J_getR (pc := 32) C dX3_init_32 (ci := 3) (k0 := 0) rfl iX3 (by decide) k_267 hf (fun x65 hf => ?_)
  refine J_iload_n (pc := 35) C dX3_init_35 rfl 0 rfl ?_
  refine J_new (pc := 36) C dX3_init_36 (ci := 6) (fs := [.null, .null, .null]) rfl iX6 tyX6 tyX6_ok k_250 k_252 k_83 (by decide +kernel) (fun _ => rfl) ⟨Nat.le_of_ble_eq_true rfl, Nat.le_of_ble_eq_true rfl⟩ hEE [.int (10 : Int32), .ref v0, .int (10 : Int32), .ref x65] rfl hf (fun w66 hf => ?_)
  refine J_dup (pc := 39) C dX3_init_39 rfl ?_
  obtain ⟨q67, h68, hf⟩ := bind_ok hf
  obtain ⟨g691, g692, _, g69, h68⟩ := clA_spec h68
  refine J_cINA (S := [.ref w64.length, .int (10 : Int32), .ref x65]) (pc := 40) C dX3_init_40 (c_X6_init _ _ h68) n_253 ys_X6_init ⟨Nat.le_of_ble_eq_true rfl, Nat.le_of_ble_eq_true rfl⟩ ⟨Nat.le_of_ble_eq_true rfl, Nat.le_of_ble_eq_true rfl⟩ g69 rfl rfl (fun _ => Nat.le_of_ble_eq_true rfl) hEE g691 [.int (10 : Int32), .ref v0, .ref w64.length, .int (10 : Int32), .ref x65] rfl g692 ?_
  refine J_aast (Cn := RX6) (pc := 43) C 4 6 (fun _ => rfl) rfl dX3_init_43 hf (fun w70 hf => ?_)
  refine J_iincL (pc := 44) C dX3_init_44 0 rfl (v := (11 : Int32)) (by decide) (by decide) [(1, .int (11 : Int32)), (0, .ref v0)] rfl ?_
  refine J_goto (pc := 47) C dX3_init_47 (tgt := 25) (by decide) ?_
  refine J_iload_n (pc := 25) C dX3_init_25 rfl 0 rfl ?_
  refine J_bipush (pc := 26) C dX3_init_26 (v := 13) (by decide) ?_
  refine J_icmp_ge (ρ := Unit) (T := ()) (F := ()) (r := ()) (pc := 28) C dX3_init_28 (tgt := 50) (by decide) (by simp) (fun h _ => absurd h (by decide)) (fun _ _ => ?_)
  refine J_aload_n (pc := 31) C dX3_init_31 rfl 1 rfl ?_
  refine J_getR (pc := 32) C dX3_init_32 (ci := 3) (k0 := 0) rfl iX3 (by decide) k_267 hf (fun x71 hf => ?_)
  refine J_iload_n (pc := 35) C dX3_init_35 rfl 0 rfl ?_
  refine J_new (pc := 36) C dX3_init_36 (ci := 6) (fs := [.null, .null, .null]) rfl iX6 tyX6 tyX6_ok k_250 k_252 k_83 (by decide +kernel) (fun _ => rfl) ⟨Nat.le_of_ble_eq_true rfl, Nat.le_of_ble_eq_true rfl⟩ hEE [.int (11 : Int32), .ref v0, .int (11 : Int32), .ref x71] rfl hf (fun w72 hf => ?_)
  refine J_dup (pc := 39) C dX3_init_39 rfl ?_
  obtain ⟨q73, h74, hf⟩ := bind_ok hf
  obtain ⟨g751, g752, _, g75, h74⟩ := clA_spec h74
  refine J_cINA (S := [.ref w70.length, .int (11 : Int32), .ref x71]) (pc := 40) C dX3_init_40 (c_X6_init _ _ h74) n_253 ys_X6_init ⟨Nat.le_of_ble_eq_true rfl, Nat.le_of_ble_eq_true rfl⟩ ⟨Nat.le_of_ble_eq_true rfl, Nat.le_of_ble_eq_true rfl⟩ g75 rfl rfl (fun _ => Nat.le_of_ble_eq_true rfl) hEE g751 [.int (11 : Int32), .ref v0, .ref w70.length, .int (11 : Int32), .ref x71] rfl g752 ?_
  refine J_aast (Cn := RX6) (pc := 43) C 4 6 (fun _ => rfl) rfl dX3_init_43 hf (fun w76 hf => ?_)
  refine J_iincL (pc := 44) C dX3_init_44 0 rfl (v := (12 : Int32)) (by decide) (by decide) [(1, .int (12 : Int32)), (0, .ref v0)] rfl ?_
  refine J_goto (pc := 47) C dX3_init_47 (tgt := 25) (by decide) ?_
  refine J_iload_n (pc := 25) C dX3_init_25 rfl 0 rfl ?_
  refine J_bipush (pc := 26) C dX3_init_26 (v := 13) (by decide) ?_
  refine J_icmp_ge (ρ := Unit) (T := ()) (F := ()) (r := ()) (pc := 28) C dX3_init_28 (tgt := 50) (by decide) (by simp) (fun h _ => absurd h (by decide)) (fun _ _ => ?_)
  refine J_aload_n (pc := 31) C dX3_init_31 rfl 1 rfl ?_
  refine J_getR (pc := 32) C dX3_init_32 (ci := 3) (k0 := 0) rfl iX3 (by decide) k_267 hf (fun x77 hf => ?_)
  refine J_iload_n (pc := 35) C dX3_init_35 rfl 0 rfl ?_
  refine J_new (pc := 36) C dX3_init_36 (ci := 6) (fs := [.null, .null, .null]) rfl iX6 tyX6 tyX6_ok k_250 k_252 k_83 (by decide +kernel) (fun _ => rfl) ⟨Nat.le_of_ble_eq_true rfl, Nat.le_of_ble_eq_true rfl⟩ hEE [.int (12 : Int32), .ref v0, .int (12 : Int32), .ref x77] rfl hf (fun w78 hf => ?_)
  refine J_dup (pc := 39) C dX3_init_39 rfl ?_
  obtain ⟨q79, h80, hf⟩ := bind_ok hf
  obtain ⟨g811, g812, _, g81, h80⟩ := clA_spec h80
  refine J_cINA (S := [.ref w76.length, .int (12 : Int32), .ref x77]) (pc := 40) C dX3_init_40 (c_X6_init _ _ h80) n_253 ys_X6_init ⟨Nat.le_of_ble_eq_true rfl, Nat.le_of_ble_eq_true rfl⟩ ⟨Nat.le_of_ble_eq_true rfl, Nat.le_of_ble_eq_true rfl⟩ g81 rfl rfl (fun _ => Nat.le_of_ble_eq_true rfl) hEE g811 [.int (12 : Int32), .ref v0, .ref w76.length, .int (12 : Int32), .ref x77] rfl g812 ?_
  refine J_aast (Cn := RX6) (pc := 43) C 4 6 (fun _ => rfl) rfl dX3_init_43 hf (fun w82 hf => ?_)
  refine J_iincL (pc := 44) C dX3_init_44 0 rfl (v := (13 : Int32)) (by decide) (by decide) [(1, .int (13 : Int32)), (0, .ref v0)] rfl ?_
  refine J_goto (pc := 47) C dX3_init_47 (tgt := 25) (by decide) ?_
  refine J_iload_n (pc := 25) C dX3_init_25 rfl 0 rfl ?_
  refine J_bipush (pc := 26) C dX3_init_26 (v := 13) (by decide) ?_
  refine J_icmp_ge (ρ := Unit) (T := ()) (F := ()) (r := ()) (pc := 28) C dX3_init_28 (tgt := 50) (by decide) (by simp) (fun _ _ => ?_) (fun h _ => absurd h (by decide))
  refine J_widen (k := 53) (n := 3380) (Nat.le_of_ble_eq_true rfl) (Nat.le_of_ble_eq_true rfl) ?_
  exact J_vret (pc := 50) C rfl dX3_init_50 hf
set_option maxRecDepth 100000 in
set_option maxHeartbeats 4000000 in
theorem c_X6_take {l : Launch} {D : va_G} {dA : FieldType → ClassId} (fu : Nat) (w : MW) (v0 : Nat) (v1 : Nat) {w' : MW} (hf : f_X6_take fu w v0 v1 = some w') : CT l D dA yX6_take cX6_take 6 none rmX6_take [.ref v0, .ref v1] w none w' := by
  refine J_met (by decide) rfl (Nat.le_of_ble_eq_true rfl) (fun p e s m args below meth c A E C => ?_)
  have B4 : ∀ (n : Nat) (w : MW) (v0 : Nat) (v1 : Nat) (v2 : Int32) (v3 : Int32), f_X6_take_4 fu n w v0 v1 v2 v3 = some w' → JW p l e rmX6_take s m args below meth c 6 D dA A E (MQ below (Qr D dA E none w' A) args s 0 0 A) 0 0 4 [(0, .ref v0), (1, .ref v1), (2, .int v2), (3, .int v3)] [] w := by
    intro n
    induction n with
    | zero => intro w v0 v1 v2 v3 hf; rw [f_X6_take_4] at hf; cases hf
    | succ n ih =>
      intro w v0 v1 v2 v3 hf
      rw [f_X6_take_4] at hf
      refine J_iload_n (pc := 4) C dX6_take_4 rfl 3 rfl ?_
      refine J_bipush (pc := 5) C dX6_take_5 (v := 8) (by decide) ?_
      refine J_icmp_ge (pc := 7) C dX6_take_7 (tgt := 79) (by decide) hf (fun _ hf => ?_) (fun _ hf => ?_)
      · exact J_vret (pc := 79) C rfl dX6_take_79 hf
      · refine J_aload_n (pc := 10) C dX6_take_10 rfl 1 rfl ?_
        refine J_getRN (pc := 11) C dX6_take_11 (ci := 7) (k0 := 0) rfl iX7 (by decide) n_213 hf (fun x3 hf => ?_)
        refine J_iload_n (pc := 14) C dX6_take_14 rfl 3 rfl ?_
        refine J_aald (Cn := RX0) (pc := 15) C 3 (fun _ => rfl) dX6_take_15 hf (fun x4 hf => ?_)
        refine J_astore (pc := 16) C dX6_take_16 (by decide) [(4, .ref x4), (0, .ref v0), (1, .ref v1), (2, .int v2), (3, .int v3)] rfl ?_
        refine J_aload (pc := 18) C dX6_take_18 0 rfl ?_
        refine J_getIN (pc := 20) C dX6_take_20 (ci := 0) (k0 := 1) rfl iX0 (by decide) n_183 hf (fun x5 hf => ?_)
        refine J_sipush (pc := 23) C dX6_take_23 (v := 240) (by decide) ?_
        refine J_iload_n (pc := 26) C dX6_take_26 rfl 3 rfl ?_
        refine J_isub (pc := 27) C dX6_take_27 ?_
        refine J_min (pc := 28) C dX6_take_28 k_420 k_421 k_88 k_422 (Nat.le_of_ble_eq_true rfl) (fun _ => Nat.le_of_ble_eq_true rfl) ⟨Nat.le_of_ble_eq_true rfl, Nat.le_of_ble_eq_true rfl⟩ ?_
        refine J_istore (pc := 31) C dX6_take_31 (by decide) hf (fun q => [(5, .int q), (4, .ref x4), (0, .ref v0), (1, .ref v1), (2, .int v2), (3, .int v3)]) (fun _ => rfl) (fun x6 hf => ?_)
        refine J_aload (pc := 33) C dX6_take_33 1 rfl ?_
        refine J_getRN (pc := 35) C dX6_take_35 (ci := 0) (k0 := 0) rfl iX0 (by decide) n_181 hf (fun x7 hf => ?_)
        refine J_iconst (pc := 38) C dX6_take_38 (v := 0) (by decide) ?_
        refine J_aload_n (pc := 39) C dX6_take_39 rfl 2 rfl ?_
        refine J_getR (pc := 40) C dX6_take_40 (ci := 6) (k0 := 0) rfl iX6 (by decide) k_257 hf (fun x8 hf => ?_)
        refine J_iload_n (pc := 43) C dX6_take_43 rfl 4 rfl ?_
        refine J_iload (pc := 44) C dX6_take_44 0 rfl ?_
        refine J_copy (ty := .int) (pc := 46) C 0 (fun _ => rfl) rfl k_423 k_425 k_424 k_89 (Nat.le_of_ble_eq_true rfl) (fun _ => Nat.le_of_ble_eq_true rfl) dX6_take_46 hf (fun w9 hf => ?_)
        refine J_aload_n (pc := 49) C dX6_take_49 rfl 2 rfl ?_
        refine J_getR (pc := 50) C dX6_take_50 (ci := 6) (k0 := 1) rfl iX6 (by decide) k_258 hf (fun x10 hf => ?_)
        refine J_iload_n (pc := 53) C dX6_take_53 rfl 5 rfl ?_
        refine J_iload (pc := 54) C dX6_take_54 0 rfl ?_
        refine J_iast (pc := 56) C dX6_take_56 hf (fun w11 hf => ?_)
        refine J_aload_n (pc := 57) C dX6_take_57 rfl 2 rfl ?_
        refine J_getR (pc := 58) C dX6_take_58 (ci := 6) (k0 := 2) rfl iX6 (by decide) k_259 hf (fun x12 hf => ?_)
        refine J_iload_n (pc := 61) C dX6_take_61 rfl 5 rfl ?_
        refine J_aload (pc := 62) C dX6_take_62 1 rfl ?_
        refine J_getIN (pc := 64) C dX6_take_64 (ci := 0) (k0 := 2) rfl iX0 (by decide) n_189 hf (fun x13 hf => ?_)
        refine J_iast (pc := 67) C dX6_take_67 hf (fun w14 hf => ?_)
        refine J_iload_n (pc := 68) C dX6_take_68 rfl 4 rfl ?_
        refine J_iload (pc := 69) C dX6_take_69 0 rfl ?_
        refine J_iadd (pc := 71) C dX6_take_71 ?_
        refine J_istore_n (pc := 72) C dX6_take_72 rfl (by decide) hf (fun q => [(2, .int q), (5, .int x6), (4, .ref x4), (0, .ref v0), (1, .ref v1), (3, .int v3)]) (fun _ => rfl) (fun x15 hf => ?_)
        refine J_iinc (pc := 73) C dX6_take_73 5 rfl (y := v3 + 1) rfl (by decide) hf (fun q => [(3, .int q), (2, .int x15), (5, .int x6), (4, .ref x4), (0, .ref v0), (1, .ref v1)]) (fun _ => rfl) (fun x16 hf => ?_)
        refine J_goto (pc := 76) C dX6_take_76 (tgt := 4) (by decide) ?_
        refine J_sub [4, 5, 1, 0] (L1 := [(0, .ref v0), (1, .ref v1), (2, .int x15), (3, .int x16)]) rfl ?_
        exact ih w14 v0 v1 x15 x16 hf
  rw [f_X6_take] at hf
  refine J_sub [0, 1] (L1 := [(0, .ref v0), (1, .ref v1)]) rfl ?_
  refine J_iconst (pc := 0) C dX6_take_0 (v := 0) (by decide) ?_
  refine J_istore_n (pc := 1) C dX6_take_1 rfl (by decide) hf (fun q => [(2, .int q), (0, .ref v0), (1, .ref v1)]) (fun _ => rfl) (fun x1 hf => ?_)
  refine J_iconst (pc := 2) C dX6_take_2 (v := 0) (by decide) ?_
  refine J_istore_n (pc := 3) C dX6_take_3 rfl (by decide) hf (fun q => [(3, .int q), (2, .int x1), (0, .ref v0), (1, .ref v1)]) (fun _ => rfl) (fun x2 hf => ?_)
  refine J_sub [2, 3, 1, 0] (L1 := [(0, .ref v0), (1, .ref v1), (2, .int x1), (3, .int x2)]) rfl ?_
  exact B4 fu w v0 v1 x1 x2 hf
set_option maxRecDepth 100000 in
set_option maxHeartbeats 4000000 in
theorem c_X3_prepare {l : Launch} {D : va_G} {dA : FieldType → ClassId} (fu : Nat) (w : MW) (v0 : Nat) (v1 : Nat) {w' : MW} (hf : f_X3_prepare fu w v0 v1 = some w') : CT l D dA yX3_prepare cX3_prepare 2 none rmX3_prepare [.ref v0, .ref v1] w none w' := by
  refine J_met (by decide) rfl (Nat.le_of_ble_eq_true rfl) (fun p e s m args below meth c A E C => ?_)
  rw [f_X3_prepare] at hf
  refine J_sub [0, 1] (L1 := [(0, .ref v0), (1, .ref v1)]) rfl ?_
  refine J_aload_n (pc := 0) C dX3_prepare_0 rfl 0 rfl ?_
  refine J_getR (pc := 1) C dX3_prepare_1 (ci := 3) (k0 := 0) rfl iX3 (by decide) k_267 hf (fun x1 hf => ?_)
  refine J_aload_n (pc := 4) C dX3_prepare_4 rfl 0 rfl ?_
  refine J_getI (pc := 5) C dX3_prepare_5 (ci := 3) (k0 := 1) rfl iX3 (by decide) k_268 hf (fun x2 hf => ?_)
  refine J_aald (Cn := RX6) (pc := 8) C 4 (fun _ => rfl) dX3_prepare_8 hf (fun x3 hf => ?_)
  refine J_aload_n (pc := 9) C dX3_prepare_9 rfl 1 rfl ?_
  obtain ⟨q4, h5, hf⟩ := bind_ok hf
  obtain ⟨_, g6, h5⟩ := cl_spec h5
  refine J_cV (S := []) (pc := 10) C dX3_prepare_10 (c_X6_take _ _ _ _ h5) k_698 ys_X6_take ⟨Nat.le_of_ble_eq_true rfl, Nat.le_of_ble_eq_true rfl⟩ ⟨Nat.le_of_ble_eq_true rfl, Nat.le_of_ble_eq_true rfl⟩ g6 rfl rfl (fun _ => Nat.le_of_ble_eq_true rfl) ?_
  exact J_vret (pc := 13) C rfl dX3_prepare_13 hf
set_option maxRecDepth 100000 in
set_option maxHeartbeats 4000000 in
theorem c_X3_settle {l : Launch} {D : va_G} {dA : FieldType → ClassId} (w : MW) (v0 : Nat) (v1 : Int32) {rr : Int32} {w' : MW} (hf : f_X3_settle w v0 v1 = some (rr, w')) : CT l D dA yX3_settle cX3_settle 2 (some .int) rmX3_settle [.ref v0, .int v1] w (some (.int rr)) w' := by
  refine J_met (by decide) rfl (Nat.le_of_ble_eq_true rfl) (fun p e s m args below meth c A E C => ?_)
  have B26 : ∀ (w : MW) (v0 : Nat) (v1 : Int32) (s0 : Nat) (s1 : Int32), f_X3_settle_26 w v0 v1 s0 s1 = some (rr, w') → JW p l e rmX3_settle s m args below meth c 2 D dA A E (MQ below (Qr D dA E (some (.int rr)) w' A) args s 0 0 A) 0 0 26 [(0, .ref v0), (1, .int v1)] [.int s1, .ref s0] w := by
    intro w v0 v1 s0 s1 hf
    rw [f_X3_settle_26] at hf
    refine J_put (pc := 26) C dX3_settle_26 (ci := 3) (k0 := 1) rfl iX3 tyX3 tyX3_ok nmX3 (by decide) k_268 rfl (ty := .int) (by decide +kernel) (fun _ => rfl) (fun _ => rfl) hf (fun w2 hf => ?_)
    refine J_aload_n (pc := 29) C dX3_settle_29 rfl 0 rfl ?_
    refine J_aload_n (pc := 30) C dX3_settle_30 rfl 0 rfl ?_
    refine J_getI (pc := 31) C dX3_settle_31 (ci := 3) (k0 := 2) rfl iX3 (by decide) k_269 hf (fun x3 hf => ?_)
    refine J_iconst (pc := 34) C dX3_settle_34 (v := 1) (by decide) ?_
    refine J_iadd (pc := 35) C dX3_settle_35 ?_
    refine J_bipush (pc := 36) C dX3_settle_36 (v := 12) (by decide) ?_
    refine J_min (pc := 38) C dX3_settle_38 k_704 k_421 k_88 k_422 (Nat.le_of_ble_eq_true rfl) (fun _ => Nat.le_of_ble_eq_true rfl) ⟨Nat.le_of_ble_eq_true rfl, Nat.le_of_ble_eq_true rfl⟩ ?_
    refine J_put (pc := 41) C dX3_settle_41 (ci := 3) (k0 := 2) rfl iX3 tyX3 tyX3_ok nmX3 (by decide) k_269 rfl (ty := .int) (by decide +kernel) (fun _ => rfl) (fun _ => rfl) hf (fun w4 hf => ?_)
    refine J_iload_n (pc := 44) C dX3_settle_44 rfl 1 rfl ?_
    exact J_iret (pc := 45) C  rfl rfl dX3_settle_45 hf
  rw [f_X3_settle] at hf
  refine J_sub [0, 1] (L1 := [(0, .ref v0), (1, .int v1)]) rfl ?_
  refine J_iload_n (pc := 0) C dX3_settle_0 rfl 1 rfl ?_
  refine J_if_lt (pc := 1) C dX3_settle_1 (tgt := 44) (by decide) hf (fun _ hf => ?_) (fun _ hf => ?_)
  · refine J_iload_n (pc := 44) C dX3_settle_44 rfl 1 rfl ?_
    exact J_iret (pc := 45) C  rfl rfl dX3_settle_45 hf
  · refine J_aload_n (pc := 4) C dX3_settle_4 rfl 0 rfl ?_
    refine J_aload_n (pc := 5) C dX3_settle_5 rfl 0 rfl ?_
    refine J_getI (pc := 6) C dX3_settle_6 (ci := 3) (k0 := 1) rfl iX3 (by decide) k_268 hf (fun x1 hf => ?_)
    refine J_iconst (pc := 9) C dX3_settle_9 (v := 1) (by decide) ?_
    refine J_iadd (pc := 10) C dX3_settle_10 ?_
    refine J_bipush (pc := 11) C dX3_settle_11 (v := 13) (by decide) ?_
    refine J_icmp_ge (pc := 13) C dX3_settle_13 (tgt := 25) (by decide) hf (fun _ hf => ?_) (fun _ hf => ?_)
    · refine J_iconst (pc := 25) C dX3_settle_25 (v := 0) (by decide) ?_
      refine J_sub [0, 1] (L1 := [(0, .ref v0), (1, .int v1)]) rfl ?_
      exact B26 w v0 v1 v0 (0 : Int32) hf
    · refine J_aload_n (pc := 16) C dX3_settle_16 rfl 0 rfl ?_
      refine J_getI (pc := 17) C dX3_settle_17 (ci := 3) (k0 := 1) rfl iX3 (by decide) k_268 hf (fun x5 hf => ?_)
      refine J_iconst (pc := 20) C dX3_settle_20 (v := 1) (by decide) ?_
      refine J_iadd (pc := 21) C dX3_settle_21 ?_
      refine J_goto (pc := 22) C dX3_settle_22 (tgt := 26) (by decide) ?_
      refine J_sub [0, 1] (L1 := [(0, .ref v0), (1, .int v1)]) rfl ?_
      exact B26 w v0 v1 v0 (x5 + (1 : Int32)) hf
set_option maxRecDepth 100000 in
set_option maxHeartbeats 4000000 in
theorem c_X6_give {l : Launch} {D : va_G} {dA : FieldType → ClassId} (fu : Nat) (w : MW) (v0 : Nat) (v1 : Nat) {w' : MW} (hf : f_X6_give fu w v0 v1 = some w') : CT l D dA yX6_give cX6_give 6 none rmX6_give [.ref v0, .ref v1] w none w' := by
  refine J_met (by decide) rfl (Nat.le_of_ble_eq_true rfl) (fun p e s m args below meth c A E C => ?_)
  have B4 : ∀ (n : Nat) (w : MW) (v0 : Nat) (v1 : Nat) (v2 : Int32) (v3 : Int32), f_X6_give_4 fu n w v0 v1 v2 v3 = some w' → JW p l e rmX6_give s m args below meth c 6 D dA A E (MQ below (Qr D dA E none w' A) args s 0 0 A) 0 0 4 [(0, .ref v0), (1, .ref v1), (2, .int v2), (3, .int v3)] [] w := by
    intro n
    induction n with
    | zero => intro w v0 v1 v2 v3 hf; rw [f_X6_give_4] at hf; cases hf
    | succ n ih =>
      intro w v0 v1 v2 v3 hf
      rw [f_X6_give_4] at hf
      refine J_iload_n (pc := 4) C dX6_give_4 rfl 3 rfl ?_
      refine J_bipush (pc := 5) C dX6_give_5 (v := 8) (by decide) ?_
      refine J_icmp_ge (pc := 7) C dX6_give_7 (tgt := 79) (by decide) hf (fun _ hf => ?_) (fun _ hf => ?_)
      · exact J_vret (pc := 79) C rfl dX6_give_79 hf
      · refine J_aload_n (pc := 10) C dX6_give_10 rfl 1 rfl ?_
        refine J_getRN (pc := 11) C dX6_give_11 (ci := 7) (k0 := 0) rfl iX7 (by decide) n_213 hf (fun x3 hf => ?_)
        refine J_iload_n (pc := 14) C dX6_give_14 rfl 3 rfl ?_
        refine J_aald (Cn := RX0) (pc := 15) C 3 (fun _ => rfl) dX6_give_15 hf (fun x4 hf => ?_)
        refine J_astore (pc := 16) C dX6_give_16 (by decide) [(4, .ref x4), (0, .ref v0), (1, .ref v1), (2, .int v2), (3, .int v3)] rfl ?_
        refine J_aload_n (pc := 18) C dX6_give_18 rfl 1 rfl ?_
        refine J_getR (pc := 19) C dX6_give_19 (ci := 6) (k0 := 1) rfl iX6 (by decide) k_258 hf (fun x5 hf => ?_)
        refine J_iload_n (pc := 22) C dX6_give_22 rfl 4 rfl ?_
        refine J_iald (pc := 23) C dX6_give_23 hf (fun x6 hf => ?_)
        refine J_sipush (pc := 24) C dX6_give_24 (v := 240) (by decide) ?_
        refine J_iload_n (pc := 27) C dX6_give_27 rfl 3 rfl ?_
        refine J_isub (pc := 28) C dX6_give_28 ?_
        refine J_min (pc := 29) C dX6_give_29 k_420 k_421 k_88 k_422 (Nat.le_of_ble_eq_true rfl) (fun _ => Nat.le_of_ble_eq_true rfl) ⟨Nat.le_of_ble_eq_true rfl, Nat.le_of_ble_eq_true rfl⟩ ?_
        refine J_istore (pc := 32) C dX6_give_32 (by decide) hf (fun q => [(5, .int q), (4, .ref x4), (0, .ref v0), (1, .ref v1), (2, .int v2), (3, .int v3)]) (fun _ => rfl) (fun x7 hf => ?_)
        refine J_aload_n (pc := 34) C dX6_give_34 rfl 2 rfl ?_
        refine J_getR (pc := 35) C dX6_give_35 (ci := 6) (k0 := 0) rfl iX6 (by decide) k_257 hf (fun x8 hf => ?_)
        refine J_iload_n (pc := 38) C dX6_give_38 rfl 4 rfl ?_
        refine J_aload (pc := 39) C dX6_give_39 1 rfl ?_
        refine J_getRN (pc := 41) C dX6_give_41 (ci := 0) (k0 := 0) rfl iX0 (by decide) n_181 hf (fun x9 hf => ?_)
        refine J_iconst (pc := 44) C dX6_give_44 (v := 0) (by decide) ?_
        refine J_iload (pc := 45) C dX6_give_45 0 rfl ?_
        refine J_copy (ty := .int) (pc := 47) C 0 (fun _ => rfl) rfl k_423 k_425 k_424 k_89 (Nat.le_of_ble_eq_true rfl) (fun _ => Nat.le_of_ble_eq_true rfl) dX6_give_47 hf (fun w10 hf => ?_)
        refine J_aload (pc := 50) C dX6_give_50 1 rfl ?_
        refine J_iload (pc := 52) C dX6_give_52 0 rfl ?_
        refine J_putN (pc := 54) C dX6_give_54 (ci := 0) (k0 := 1) rfl iX0 tyX0 tyX0_ok nmX0 (by decide) n_183 rfl (ty := .int) (by decide +kernel) (fun _ => rfl) (fun _ => rfl) hf (fun w11 hf => ?_)
        refine J_aload (pc := 57) C dX6_give_57 1 rfl ?_
        refine J_aload_n (pc := 59) C dX6_give_59 rfl 2 rfl ?_
        refine J_getR (pc := 60) C dX6_give_60 (ci := 6) (k0 := 2) rfl iX6 (by decide) k_259 hf (fun x12 hf => ?_)
        refine J_iload_n (pc := 63) C dX6_give_63 rfl 5 rfl ?_
        refine J_iald (pc := 64) C dX6_give_64 hf (fun x13 hf => ?_)
        refine J_putN (pc := 65) C dX6_give_65 (ci := 0) (k0 := 2) rfl iX0 tyX0 tyX0_ok nmX0 (by decide) n_189 rfl (ty := .int) (by decide +kernel) (fun _ => rfl) (fun _ => rfl) hf (fun w14 hf => ?_)
        refine J_iload_n (pc := 68) C dX6_give_68 rfl 4 rfl ?_
        refine J_iload (pc := 69) C dX6_give_69 0 rfl ?_
        refine J_iadd (pc := 71) C dX6_give_71 ?_
        refine J_istore_n (pc := 72) C dX6_give_72 rfl (by decide) hf (fun q => [(2, .int q), (5, .int x7), (4, .ref x4), (0, .ref v0), (1, .ref v1), (3, .int v3)]) (fun _ => rfl) (fun x15 hf => ?_)
        refine J_iinc (pc := 73) C dX6_give_73 5 rfl (y := v3 + 1) rfl (by decide) hf (fun q => [(3, .int q), (2, .int x15), (5, .int x7), (4, .ref x4), (0, .ref v0), (1, .ref v1)]) (fun _ => rfl) (fun x16 hf => ?_)
        refine J_goto (pc := 76) C dX6_give_76 (tgt := 4) (by decide) ?_
        refine J_sub [4, 5, 1, 0] (L1 := [(0, .ref v0), (1, .ref v1), (2, .int x15), (3, .int x16)]) rfl ?_
        exact ih w14 v0 v1 x15 x16 hf
  rw [f_X6_give] at hf
  refine J_sub [0, 1] (L1 := [(0, .ref v0), (1, .ref v1)]) rfl ?_
  refine J_iconst (pc := 0) C dX6_give_0 (v := 0) (by decide) ?_
  refine J_istore_n (pc := 1) C dX6_give_1 rfl (by decide) hf (fun q => [(2, .int q), (0, .ref v0), (1, .ref v1)]) (fun _ => rfl) (fun x1 hf => ?_)
  refine J_iconst (pc := 2) C dX6_give_2 (v := 0) (by decide) ?_
  refine J_istore_n (pc := 3) C dX6_give_3 rfl (by decide) hf (fun q => [(3, .int q), (2, .int x1), (0, .ref v0), (1, .ref v1)]) (fun _ => rfl) (fun x2 hf => ?_)
  refine J_sub [2, 3, 1, 0] (L1 := [(0, .ref v0), (1, .ref v1), (2, .int x1), (3, .int x2)]) rfl ?_
  exact B4 fu w v0 v1 x1 x2 hf
set_option maxRecDepth 100000 in
set_option maxHeartbeats 4000000 in
theorem c_X3_stepBack {l : Launch} {D : va_G} {dA : FieldType → ClassId} (fu : Nat) (w : MW) (v0 : Nat) (v1 : Nat) {w' : MW} (hf : f_X3_stepBack fu w v0 v1 = some w') : CT l D dA yX3_stepBack cX3_stepBack 2 none rmX3_stepBack [.ref v0, .ref v1] w none w' := by
  refine J_met (by decide) rfl (Nat.le_of_ble_eq_true rfl) (fun p e s m args below meth c A E C => ?_)
  have B19 : ∀ (w : MW) (v0 : Nat) (v1 : Nat) (s0 : Nat) (s1 : Int32), f_X3_stepBack_19 fu w v0 v1 s0 s1 = some w' → JW p l e rmX3_stepBack s m args below meth c 2 D dA A E (MQ below (Qr D dA E none w' A) args s 0 0 A) 0 0 19 [(0, .ref v0), (1, .ref v1)] [.int s1, .ref s0] w := by
    intro w v0 v1 s0 s1 hf
    rw [f_X3_stepBack_19] at hf
    refine J_put (pc := 19) C dX3_stepBack_19 (ci := 3) (k0 := 1) rfl iX3 tyX3 tyX3_ok nmX3 (by decide) k_268 rfl (ty := .int) (by decide +kernel) (fun _ => rfl) (fun _ => rfl) hf (fun w2 hf => ?_)
    refine J_aload_n (pc := 22) C dX3_stepBack_22 rfl 0 rfl ?_
    refine J_dup (pc := 23) C dX3_stepBack_23 rfl ?_
    refine J_getI (pc := 24) C dX3_stepBack_24 (ci := 3) (k0 := 2) rfl iX3 (by decide) k_269 hf (fun x3 hf => ?_)
    refine J_iconst (pc := 27) C dX3_stepBack_27 (v := 1) (by decide) ?_
    refine J_isub (pc := 28) C dX3_stepBack_28 ?_
    refine J_put (pc := 29) C dX3_stepBack_29 (ci := 3) (k0 := 2) rfl iX3 tyX3 tyX3_ok nmX3 (by decide) k_269 rfl (ty := .int) (by decide +kernel) (fun _ => rfl) (fun _ => rfl) hf (fun w4 hf => ?_)
    refine J_aload_n (pc := 32) C dX3_stepBack_32 rfl 0 rfl ?_
    refine J_getR (pc := 33) C dX3_stepBack_33 (ci := 3) (k0 := 0) rfl iX3 (by decide) k_267 hf (fun x5 hf => ?_)
    refine J_aload_n (pc := 36) C dX3_stepBack_36 rfl 0 rfl ?_
    refine J_getI (pc := 37) C dX3_stepBack_37 (ci := 3) (k0 := 1) rfl iX3 (by decide) k_268 hf (fun x6 hf => ?_)
    refine J_aald (Cn := RX6) (pc := 40) C 4 (fun _ => rfl) dX3_stepBack_40 hf (fun x7 hf => ?_)
    refine J_aload_n (pc := 41) C dX3_stepBack_41 rfl 1 rfl ?_
    obtain ⟨q8, h9, hf⟩ := bind_ok hf
    obtain ⟨_, g10, h9⟩ := cl_spec h9
    refine J_cV (S := []) (pc := 42) C dX3_stepBack_42 (c_X6_give _ _ _ _ h9) k_797 ys_X6_give ⟨Nat.le_of_ble_eq_true rfl, Nat.le_of_ble_eq_true rfl⟩ ⟨Nat.le_of_ble_eq_true rfl, Nat.le_of_ble_eq_true rfl⟩ g10 rfl rfl (fun _ => Nat.le_of_ble_eq_true rfl) ?_
    exact J_vret (pc := 45) C rfl dX3_stepBack_45 hf
  rw [f_X3_stepBack] at hf
  refine J_sub [0, 1] (L1 := [(0, .ref v0), (1, .ref v1)]) rfl ?_
  refine J_aload_n (pc := 0) C dX3_stepBack_0 rfl 0 rfl ?_
  refine J_aload_n (pc := 1) C dX3_stepBack_1 rfl 0 rfl ?_
  refine J_getI (pc := 2) C dX3_stepBack_2 (ci := 3) (k0 := 1) rfl iX3 (by decide) k_268 hf (fun x1 hf => ?_)
  refine J_if_le (pc := 5) C dX3_stepBack_5 (tgt := 17) (by decide) hf (fun _ hf => ?_) (fun _ hf => ?_)
  · refine J_bipush (pc := 17) C dX3_stepBack_17 (v := 12) (by decide) ?_
    refine J_sub [0, 1] (L1 := [(0, .ref v0), (1, .ref v1)]) rfl ?_
    exact B19 w v0 v1 v0 (12 : Int32) hf
  · refine J_aload_n (pc := 8) C dX3_stepBack_8 rfl 0 rfl ?_
    refine J_getI (pc := 9) C dX3_stepBack_9 (ci := 3) (k0 := 1) rfl iX3 (by decide) k_268 hf (fun x11 hf => ?_)
    refine J_iconst (pc := 12) C dX3_stepBack_12 (v := 1) (by decide) ?_
    refine J_isub (pc := 13) C dX3_stepBack_13 ?_
    refine J_goto (pc := 14) C dX3_stepBack_14 (tgt := 19) (by decide) ?_
    refine J_sub [0, 1] (L1 := [(0, .ref v0), (1, .ref v1)]) rfl ?_
    exact B19 w v0 v1 v0 (x11 - (1 : Int32)) hf
set_option maxRecDepth 100000 in
set_option maxHeartbeats 4000000 in
theorem c_X3_forget {l : Launch} {D : va_G} {dA : FieldType → ClassId} (w : MW) (v0 : Nat) {w' : MW} (hf : f_X3_forget w v0 = some w') : CT l D dA yX3_forget cX3_forget 1 none rmX3_forget [.ref v0] w none w' := by
  refine J_met (by decide) rfl (Nat.le_of_ble_eq_true rfl) (fun p e s m args below meth c A E C => ?_)
  rw [f_X3_forget] at hf
  refine J_sub [0] (L1 := [(0, .ref v0)]) rfl ?_
  refine J_aload_n (pc := 0) C dX3_forget_0 rfl 0 rfl ?_
  refine J_iconst (pc := 1) C dX3_forget_1 (v := 0) (by decide) ?_
  refine J_put (pc := 2) C dX3_forget_2 (ci := 3) (k0 := 2) rfl iX3 tyX3 tyX3_ok nmX3 (by decide) k_269 rfl (ty := .int) (by decide +kernel) (fun _ => rfl) (fun _ => rfl) hf (fun w1 hf => ?_)
  exact J_vret (pc := 5) C rfl dX3_forget_5 hf
set_option maxRecDepth 100000 in
set_option maxHeartbeats 4000000 in
theorem c_X4_byteAt {l : Launch} {D : va_G} {dA : FieldType → ClassId} (w : MW) (v0 : Nat) (v1 : Int32) {rr : Int32} (hf : f_X4_byteAt w v0 v1 = some rr) : CT l D dA yX4_byteAt cX4_byteAt 2 (some .int) rmX4_byteAt [.ref v0, .int v1] w (some (.int rr)) w := by
  refine J_met (by decide) rfl (Nat.le_of_ble_eq_true rfl) (fun p e s m args below meth c A E C => ?_)
  rw [f_X4_byteAt] at hf
  refine J_sub [0, 1] (L1 := [(0, .ref v0), (1, .int v1)]) rfl ?_
  refine J_iload_n (pc := 0) C dX4_byteAt_0 rfl 1 rfl ?_
  refine J_if_lt (pc := 1) C dX4_byteAt_1 (tgt := 34) (by decide) hf (fun _ hf => ?_) (fun _ hf => ?_)
  · refine J_iconst (pc := 34) C dX4_byteAt_34 (v := -1) (by decide) ?_
    exact J_iretP (pc := 35) C  rfl rfl dX4_byteAt_35 hf
  · refine J_iload_n (pc := 4) C dX4_byteAt_4 rfl 1 rfl ?_
    refine J_aload_n (pc := 5) C dX4_byteAt_5 rfl 0 rfl ?_
    refine J_getI (pc := 6) C dX4_byteAt_6 (ci := 4) (k0 := 1) rfl iX4 (by decide) k_285 hf (fun x1 hf => ?_)
    refine J_icmp_ge (pc := 9) C dX4_byteAt_9 (tgt := 34) (by decide) hf (fun _ hf => ?_) (fun _ hf => ?_)
    · refine J_iconst (pc := 34) C dX4_byteAt_34 (v := -1) (by decide) ?_
      exact J_iretP (pc := 35) C  rfl rfl dX4_byteAt_35 hf
    · refine J_iload_n (pc := 12) C dX4_byteAt_12 rfl 1 rfl ?_
      refine J_aload_n (pc := 13) C dX4_byteAt_13 rfl 0 rfl ?_
      refine J_getR (pc := 14) C dX4_byteAt_14 (ci := 4) (k0 := 0) rfl iX4 (by decide) k_284 hf (fun x2 hf => ?_)
      refine J_alen (ty := .byte) (pc := 17) C 1 (fun _ => rfl) dX4_byteAt_17 hf (fun x3 hf => ?_)
      refine J_icmp_ge (pc := 18) C dX4_byteAt_18 (tgt := 34) (by decide) hf (fun _ hf => ?_) (fun _ hf => ?_)
      · refine J_iconst (pc := 34) C dX4_byteAt_34 (v := -1) (by decide) ?_
        exact J_iretP (pc := 35) C  rfl rfl dX4_byteAt_35 hf
      · refine J_aload_n (pc := 21) C dX4_byteAt_21 rfl 0 rfl ?_
        refine J_getR (pc := 22) C dX4_byteAt_22 (ci := 4) (k0 := 0) rfl iX4 (by decide) k_284 hf (fun x4 hf => ?_)
        refine J_iload_n (pc := 25) C dX4_byteAt_25 rfl 1 rfl ?_
        refine J_bald (pc := 26) C dX4_byteAt_26 hf (fun x5 hf => ?_)
        refine J_sipush (pc := 27) C dX4_byteAt_27 (v := 255) (by decide) ?_
        refine J_iand (pc := 30) C dX4_byteAt_30 ?_
        refine J_goto (pc := 31) C dX4_byteAt_31 (tgt := 35) (by decide) ?_
        exact J_iretP (pc := 35) C  rfl rfl dX4_byteAt_35 hf
set_option maxRecDepth 100000 in
set_option maxHeartbeats 4000000 in
theorem c_X4_add {l : Launch} {D : va_G} {dA : FieldType → ClassId} (w : MW) (v0 : Nat) (v1 : Int32) {w' : MW} (hf : f_X4_add w v0 v1 = some w') : CT l D dA yX4_add cX4_add 2 none rmX4_add [.ref v0, .int v1] w none w' := by
  refine J_met (by decide) rfl (Nat.le_of_ble_eq_true rfl) (fun p e s m args below meth c A E C => ?_)
  rw [f_X4_add] at hf
  refine J_sub [0, 1] (L1 := [(0, .ref v0), (1, .int v1)]) rfl ?_
  refine J_aload_n (pc := 0) C dX4_add_0 rfl 0 rfl ?_
  refine J_getI (pc := 1) C dX4_add_1 (ci := 4) (k0 := 1) rfl iX4 (by decide) k_285 hf (fun x1 hf => ?_)
  refine J_if_lt (pc := 4) C dX4_add_4 (tgt := 40) (by decide) hf (fun _ hf => ?_) (fun _ hf => ?_)
  · exact J_vret (pc := 40) C rfl dX4_add_40 hf
  · refine J_aload_n (pc := 7) C dX4_add_7 rfl 0 rfl ?_
    refine J_getI (pc := 8) C dX4_add_8 (ci := 4) (k0 := 1) rfl iX4 (by decide) k_285 hf (fun x2 hf => ?_)
    refine J_aload_n (pc := 11) C dX4_add_11 rfl 0 rfl ?_
    refine J_getR (pc := 12) C dX4_add_12 (ci := 4) (k0 := 0) rfl iX4 (by decide) k_284 hf (fun x3 hf => ?_)
    refine J_alen (ty := .byte) (pc := 15) C 1 (fun _ => rfl) dX4_add_15 hf (fun x4 hf => ?_)
    refine J_icmp_ge (pc := 16) C dX4_add_16 (tgt := 40) (by decide) hf (fun _ hf => ?_) (fun _ hf => ?_)
    · exact J_vret (pc := 40) C rfl dX4_add_40 hf
    · refine J_aload_n (pc := 19) C dX4_add_19 rfl 0 rfl ?_
      refine J_getR (pc := 20) C dX4_add_20 (ci := 4) (k0 := 0) rfl iX4 (by decide) k_284 hf (fun x5 hf => ?_)
      refine J_aload_n (pc := 23) C dX4_add_23 rfl 0 rfl ?_
      refine J_getI (pc := 24) C dX4_add_24 (ci := 4) (k0 := 1) rfl iX4 (by decide) k_285 hf (fun x6 hf => ?_)
      refine J_iload_n (pc := 27) C dX4_add_27 rfl 1 rfl ?_
      refine J_i2b (pc := 28) C dX4_add_28 ?_
      refine J_bast (pc := 29) C dX4_add_29 hf (fun w7 hf => ?_)
      refine J_aload_n (pc := 30) C dX4_add_30 rfl 0 rfl ?_
      refine J_dup (pc := 31) C dX4_add_31 rfl ?_
      refine J_getI (pc := 32) C dX4_add_32 (ci := 4) (k0 := 1) rfl iX4 (by decide) k_285 hf (fun x8 hf => ?_)
      refine J_iconst (pc := 35) C dX4_add_35 (v := 1) (by decide) ?_
      refine J_iadd (pc := 36) C dX4_add_36 ?_
      refine J_put (pc := 37) C dX4_add_37 (ci := 4) (k0 := 1) rfl iX4 tyX4 tyX4_ok nmX4 (by decide) k_285 rfl (ty := .int) (by decide +kernel) (fun _ => rfl) (fun _ => rfl) hf (fun w9 hf => ?_)
      exact J_vret (pc := 40) C rfl dX4_add_40 hf
set_option maxRecDepth 100000 in
set_option maxHeartbeats 4000000 in
theorem c_X4_addFour {l : Launch} {D : va_G} {dA : FieldType → ClassId} (w : MW) (v0 : Nat) (v1 : Int32) {w' : MW} (hf : f_X4_addFour w v0 v1 = some w') : CT l D dA yX4_addFour cX4_addFour 2 none rmX4_addFour [.ref v0, .int v1] w none w' := by
  refine J_met (by decide) rfl (Nat.le_of_ble_eq_true rfl) (fun p e s m args below meth c A E C => ?_)
  rw [f_X4_addFour] at hf
  refine J_sub [0, 1] (L1 := [(0, .ref v0), (1, .int v1)]) rfl ?_
  refine J_aload_n (pc := 0) C dX4_addFour_0 rfl 0 rfl ?_
  refine J_iload_n (pc := 1) C dX4_addFour_1 rfl 1 rfl ?_
  refine J_bipush (pc := 2) C dX4_addFour_2 (v := 24) (by decide) ?_
  refine J_iushr (pc := 4) C dX4_addFour_4 ?_
  obtain ⟨q1, h2, hf⟩ := bind_ok hf
  obtain ⟨_, g3, h2⟩ := cl_spec h2
  refine J_cV (S := []) (pc := 5) C dX4_addFour_5 (c_X4_add _ _ _ h2) k_404 ys_X4_add ⟨Nat.le_of_ble_eq_true rfl, Nat.le_of_ble_eq_true rfl⟩ ⟨Nat.le_of_ble_eq_true rfl, Nat.le_of_ble_eq_true rfl⟩ g3 rfl rfl (fun _ => Nat.le_of_ble_eq_true rfl) ?_
  refine J_aload_n (pc := 8) C dX4_addFour_8 rfl 0 rfl ?_
  refine J_iload_n (pc := 9) C dX4_addFour_9 rfl 1 rfl ?_
  refine J_bipush (pc := 10) C dX4_addFour_10 (v := 16) (by decide) ?_
  refine J_iushr (pc := 12) C dX4_addFour_12 ?_
  obtain ⟨q4, h5, hf⟩ := bind_ok hf
  obtain ⟨_, g6, h5⟩ := cl_spec h5
  refine J_cV (S := []) (pc := 13) C dX4_addFour_13 (c_X4_add _ _ _ h5) k_404 ys_X4_add ⟨Nat.le_of_ble_eq_true rfl, Nat.le_of_ble_eq_true rfl⟩ ⟨Nat.le_of_ble_eq_true rfl, Nat.le_of_ble_eq_true rfl⟩ g6 rfl rfl (fun _ => Nat.le_of_ble_eq_true rfl) ?_
  refine J_aload_n (pc := 16) C dX4_addFour_16 rfl 0 rfl ?_
  refine J_iload_n (pc := 17) C dX4_addFour_17 rfl 1 rfl ?_
  refine J_bipush (pc := 18) C dX4_addFour_18 (v := 8) (by decide) ?_
  refine J_iushr (pc := 20) C dX4_addFour_20 ?_
  obtain ⟨q7, h8, hf⟩ := bind_ok hf
  obtain ⟨_, g9, h8⟩ := cl_spec h8
  refine J_cV (S := []) (pc := 21) C dX4_addFour_21 (c_X4_add _ _ _ h8) k_404 ys_X4_add ⟨Nat.le_of_ble_eq_true rfl, Nat.le_of_ble_eq_true rfl⟩ ⟨Nat.le_of_ble_eq_true rfl, Nat.le_of_ble_eq_true rfl⟩ g9 rfl rfl (fun _ => Nat.le_of_ble_eq_true rfl) ?_
  refine J_aload_n (pc := 24) C dX4_addFour_24 rfl 0 rfl ?_
  refine J_iload_n (pc := 25) C dX4_addFour_25 rfl 1 rfl ?_
  obtain ⟨q10, h11, hf⟩ := bind_ok hf
  obtain ⟨_, g12, h11⟩ := cl_spec h11
  refine J_cV (S := []) (pc := 26) C dX4_addFour_26 (c_X4_add _ _ _ h11) k_404 ys_X4_add ⟨Nat.le_of_ble_eq_true rfl, Nat.le_of_ble_eq_true rfl⟩ ⟨Nat.le_of_ble_eq_true rfl, Nat.le_of_ble_eq_true rfl⟩ g12 rfl rfl (fun _ => Nat.le_of_ble_eq_true rfl) ?_
  exact J_vret (pc := 29) C rfl dX4_addFour_29 hf
set_option maxRecDepth 100000 in
set_option maxHeartbeats 4000000 in
theorem c_X4_addNumber {l : Launch} {D : va_G} {dA : FieldType → ClassId} (fu : Nat) (w : MW) (v0 : Nat) (v1 : Int32) {w' : MW} (hf : f_X4_addNumber fu w v0 v1 = some w') : CT l D dA yX4_addNumber cX4_addNumber 5 none rmX4_addNumber [.ref v0, .int v1] w none w' := by
  refine J_met (by decide) rfl (Nat.le_of_ble_eq_true rfl) (fun p e s m args below meth c A E C => ?_)
  have B51 : ∀ (lr6 : MW → Nat → Int32 → Int32 → Int32 → Option MW) (lh6 : ∀ (w : MW) (v0 : Nat) (v1 : Int32) (v2 : Int32) (v3 : Int32), lr6 w v0 v1 v2 v3 = some w' → JW p l e rmX4_addNumber s m args below meth c 5 D dA A E (MQ below (Qr D dA E none w' A) args s 0 0 A) 0 0 6 [(0, .ref v0), (1, .int v1), (2, .int v2), (3, .int v3)] [] w) (w : MW) (v0 : Nat) (v1 : Int32) (v2 : Int32) (v3 : Int32), f_X4_addNumber_51 fu lr6 w v0 v1 v2 v3 = some w' → JW p l e rmX4_addNumber s m args below meth c 5 D dA A E (MQ below (Qr D dA E none w' A) args s 0 0 A) 0 0 51 [(0, .ref v0), (1, .int v1), (2, .int v2), (3, .int v3)] [] w := by
    intro lr6 lh6 w v0 v1 v2 v3 hf
    rw [f_X4_addNumber_51] at hf
    refine J_iload_n (pc := 51) C dX4_addNumber_51 rfl 3 rfl ?_
    refine J_bipush (pc := 52) C dX4_addNumber_52 (v := 10) (by decide) ?_
    refine J_idivL (pc := 54) C dX4_addNumber_54 (by decide) ?_
    refine J_istore_n (pc := 55) C dX4_addNumber_55 rfl (by decide) hf (fun q => [(3, .int q), (0, .ref v0), (1, .int v1), (2, .int v2)]) (fun _ => rfl) (fun x6 hf => ?_)
    refine J_goto (pc := 56) C dX4_addNumber_56 (tgt := 6) (by decide) ?_
    refine J_sub [1, 2, 3, 0] (L1 := [(0, .ref v0), (1, .int v1), (2, .int v2), (3, .int x6)]) rfl ?_
    exact lh6 w v0 v1 v2 x6 hf
  have B37 : ∀ (lr6 : MW → Nat → Int32 → Int32 → Int32 → Option MW) (lh6 : ∀ (w : MW) (v0 : Nat) (v1 : Int32) (v2 : Int32) (v3 : Int32), lr6 w v0 v1 v2 v3 = some w' → JW p l e rmX4_addNumber s m args below meth c 5 D dA A E (MQ below (Qr D dA E none w' A) args s 0 0 A) 0 0 6 [(0, .ref v0), (1, .int v1), (2, .int v2), (3, .int v3)] [] w) (w : MW) (v0 : Nat) (v1 : Int32) (v3 : Int32) (v4 : Int32) (s0 : Int32), f_X4_addNumber_37 fu lr6 w v0 v1 v3 v4 s0 = some w' → JW p l e rmX4_addNumber s m args below meth c 5 D dA A E (MQ below (Qr D dA E none w' A) args s 0 0 A) 0 0 37 [(0, .ref v0), (1, .int v1), (3, .int v3), (4, .int v4)] [.int s0] w := by
    intro lr6 lh6 w v0 v1 v3 v4 s0 hf
    rw [f_X4_addNumber_37] at hf
    refine J_istore_n (pc := 37) C dX4_addNumber_37 rfl (by decide) hf (fun q => [(2, .int q), (0, .ref v0), (1, .int v1), (3, .int v3), (4, .int v4)]) (fun _ => rfl) (fun x5 hf => ?_)
    refine J_iload_n (pc := 38) C dX4_addNumber_38 rfl 0 rfl ?_
    refine J_if_eq (pc := 39) C dX4_addNumber_39 (tgt := 51) (by decide) hf (fun _ hf => ?_) (fun _ hf => ?_)
    · refine J_sub [1, 2, 0, 3] (L1 := [(0, .ref v0), (1, .int v1), (2, .int x5), (3, .int v3)]) rfl ?_
      exact B51 lr6 lh6 w v0 v1 x5 v3 hf
    · refine J_aload_n (pc := 42) C dX4_addNumber_42 rfl 1 rfl ?_
      refine J_bipush (pc := 43) C dX4_addNumber_43 (v := 48) (by decide) ?_
      refine J_iload (pc := 45) C dX4_addNumber_45 4 rfl ?_
      refine J_iadd (pc := 47) C dX4_addNumber_47 ?_
      obtain ⟨q7, h8, hf⟩ := bind_ok hf
      obtain ⟨_, g9, h8⟩ := cl_spec h8
      refine J_cV (S := []) (pc := 48) C dX4_addNumber_48 (c_X4_add _ _ _ h8) k_404 ys_X4_add ⟨Nat.le_of_ble_eq_true rfl, Nat.le_of_ble_eq_true rfl⟩ ⟨Nat.le_of_ble_eq_true rfl, Nat.le_of_ble_eq_true rfl⟩ g9 rfl rfl (fun _ => Nat.le_of_ble_eq_true rfl) ?_
      refine J_sub [1, 2, 0, 3] (L1 := [(0, .ref v0), (1, .int v1), (2, .int x5), (3, .int v3)]) rfl ?_
      exact B51 lr6 lh6 q7 v0 v1 x5 v3 hf
  have B6 : ∀ (n : Nat) (w : MW) (v0 : Nat) (v1 : Int32) (v2 : Int32) (v3 : Int32), f_X4_addNumber_6 fu n w v0 v1 v2 v3 = some w' → JW p l e rmX4_addNumber s m args below meth c 5 D dA A E (MQ below (Qr D dA E none w' A) args s 0 0 A) 0 0 6 [(0, .ref v0), (1, .int v1), (2, .int v2), (3, .int v3)] [] w := by
    intro n
    induction n with
    | zero => intro w v0 v1 v2 v3 hf; rw [f_X4_addNumber_6] at hf; cases hf
    | succ n ih =>
      intro w v0 v1 v2 v3 hf
      rw [f_X4_addNumber_6] at hf
      refine J_iload_n (pc := 6) C dX4_addNumber_6 rfl 3 rfl ?_
      refine J_if_le (pc := 7) C dX4_addNumber_7 (tgt := 59) (by decide) hf (fun _ hf => ?_) (fun _ hf => ?_)
      · exact J_vret (pc := 59) C rfl dX4_addNumber_59 hf
      · refine J_iload_n (pc := 10) C dX4_addNumber_10 rfl 1 rfl ?_
        refine J_iload_n (pc := 11) C dX4_addNumber_11 rfl 3 rfl ?_
        refine J_idiv (pc := 12) C dX4_addNumber_12 hf (fun x3 hf => ?_)
        refine J_bipush (pc := 13) C dX4_addNumber_13 (v := 10) (by decide) ?_
        refine J_iremL (pc := 15) C dX4_addNumber_15 (by decide) ?_
        refine J_istore (pc := 16) C dX4_addNumber_16 (by decide) hf (fun q => [(4, .int q), (0, .ref v0), (1, .int v1), (2, .int v2), (3, .int v3)]) (fun _ => rfl) (fun x4 hf => ?_)
        refine J_iload_n (pc := 18) C dX4_addNumber_18 rfl 3 rfl ?_
        refine J_if_ne (pc := 19) C dX4_addNumber_19 (tgt := 32) (by decide) hf (fun _ hf => ?_) (fun _ hf => ?_)
        · refine J_iconst (pc := 32) C dX4_addNumber_32 (v := 1) (by decide) ?_
          refine J_goto (pc := 33) C dX4_addNumber_33 (tgt := 37) (by decide) ?_
          refine J_sub [1, 2, 4, 0] (L1 := [(0, .ref v0), (1, .int v1), (3, .int v3), (4, .int x4)]) rfl ?_
          exact B37 (f_X4_addNumber_6 fu n) ih w v0 v1 v3 x4 (1 : Int32) hf
        · refine J_iload (pc := 22) C dX4_addNumber_22 0 rfl ?_
          refine J_if_gt (pc := 24) C dX4_addNumber_24 (tgt := 32) (by decide) hf (fun _ hf => ?_) (fun _ hf => ?_)
          · refine J_iconst (pc := 32) C dX4_addNumber_32 (v := 1) (by decide) ?_
            refine J_goto (pc := 33) C dX4_addNumber_33 (tgt := 37) (by decide) ?_
            refine J_sub [1, 2, 4, 0] (L1 := [(0, .ref v0), (1, .int v1), (3, .int v3), (4, .int x4)]) rfl ?_
            exact B37 (f_X4_addNumber_6 fu n) ih w v0 v1 v3 x4 (1 : Int32) hf
          · refine J_iload_n (pc := 27) C dX4_addNumber_27 rfl 4 rfl ?_
            refine J_iconst (pc := 28) C dX4_addNumber_28 (v := 1) (by decide) ?_
            refine J_icmp_ne (pc := 29) C dX4_addNumber_29 (tgt := 36) (by decide) hf (fun _ hf => ?_) (fun _ hf => ?_)
            · refine J_iconst (pc := 36) C dX4_addNumber_36 (v := 0) (by decide) ?_
              refine J_sub [1, 2, 4, 0] (L1 := [(0, .ref v0), (1, .int v1), (3, .int v3), (4, .int x4)]) rfl ?_
              exact B37 (f_X4_addNumber_6 fu n) ih w v0 v1 v3 x4 (0 : Int32) hf
            · refine J_iconst (pc := 32) C dX4_addNumber_32 (v := 1) (by decide) ?_
              refine J_goto (pc := 33) C dX4_addNumber_33 (tgt := 37) (by decide) ?_
              refine J_sub [1, 2, 4, 0] (L1 := [(0, .ref v0), (1, .int v1), (3, .int v3), (4, .int x4)]) rfl ?_
              exact B37 (f_X4_addNumber_6 fu n) ih w v0 v1 v3 x4 (1 : Int32) hf
  rw [f_X4_addNumber] at hf
  refine J_sub [0, 1] (L1 := [(0, .ref v0), (1, .int v1)]) rfl ?_
  refine J_iconst (pc := 0) C dX4_addNumber_0 (v := 0) (by decide) ?_
  refine J_istore_n (pc := 1) C dX4_addNumber_1 rfl (by decide) hf (fun q => [(2, .int q), (0, .ref v0), (1, .int v1)]) (fun _ => rfl) (fun x1 hf => ?_)
  refine J_sipush (pc := 2) C dX4_addNumber_2 (v := 1000) (by decide) ?_
  refine J_istore_n (pc := 5) C dX4_addNumber_5 rfl (by decide) hf (fun q => [(3, .int q), (2, .int x1), (0, .ref v0), (1, .int v1)]) (fun _ => rfl) (fun x2 hf => ?_)
  refine J_sub [2, 3, 1, 0] (L1 := [(0, .ref v0), (1, .int v1), (2, .int x1), (3, .int x2)]) rfl ?_
  exact B6 fu w v0 v1 x1 x2 hf
set_option maxRecDepth 100000 in
set_option maxHeartbeats 4000000 in
theorem c_X4_copy {l : Launch} {D : va_G} {dA : FieldType → ClassId} (w : MW) (v0 : Nat) (v1 : Nat) {w' : MW} (hf : f_X4_copy w v0 v1 = some w') : CT l D dA yX4_copy cX4_copy 2 none rmX4_copy [.ref v0, .ref v1] w none w' := by
  refine J_met (by decide) rfl (Nat.le_of_ble_eq_true rfl) (fun p e s m args below meth c A E C => ?_)
  rw [f_X4_copy] at hf
  refine J_sub [0, 1] (L1 := [(0, .ref v0), (1, .ref v1)]) rfl ?_
  refine J_aload_n (pc := 0) C dX4_copy_0 rfl 0 rfl ?_
  refine J_aload_n (pc := 1) C dX4_copy_1 rfl 1 rfl ?_
  refine J_getI (pc := 2) C dX4_copy_2 (ci := 4) (k0 := 1) rfl iX4 (by decide) k_285 hf (fun x1 hf => ?_)
  refine J_aload_n (pc := 5) C dX4_copy_5 rfl 0 rfl ?_
  refine J_getR (pc := 6) C dX4_copy_6 (ci := 4) (k0 := 0) rfl iX4 (by decide) k_284 hf (fun x2 hf => ?_)
  refine J_alen (ty := .byte) (pc := 9) C 1 (fun _ => rfl) dX4_copy_9 hf (fun x3 hf => ?_)
  refine J_min (pc := 10) C dX4_copy_10 k_987 k_421 k_88 k_422 (Nat.le_of_ble_eq_true rfl) (fun _ => Nat.le_of_ble_eq_true rfl) ⟨Nat.le_of_ble_eq_true rfl, Nat.le_of_ble_eq_true rfl⟩ ?_
  refine J_put (pc := 13) C dX4_copy_13 (ci := 4) (k0 := 1) rfl iX4 tyX4 tyX4_ok nmX4 (by decide) k_285 rfl (ty := .int) (by decide +kernel) (fun _ => rfl) (fun _ => rfl) hf (fun w4 hf => ?_)
  refine J_aload_n (pc := 16) C dX4_copy_16 rfl 1 rfl ?_
  refine J_getR (pc := 17) C dX4_copy_17 (ci := 4) (k0 := 0) rfl iX4 (by decide) k_284 hf (fun x5 hf => ?_)
  refine J_iconst (pc := 20) C dX4_copy_20 (v := 0) (by decide) ?_
  refine J_aload_n (pc := 21) C dX4_copy_21 rfl 0 rfl ?_
  refine J_getR (pc := 22) C dX4_copy_22 (ci := 4) (k0 := 0) rfl iX4 (by decide) k_284 hf (fun x6 hf => ?_)
  refine J_iconst (pc := 25) C dX4_copy_25 (v := 0) (by decide) ?_
  refine J_aload_n (pc := 26) C dX4_copy_26 rfl 0 rfl ?_
  refine J_getI (pc := 27) C dX4_copy_27 (ci := 4) (k0 := 1) rfl iX4 (by decide) k_285 hf (fun x7 hf => ?_)
  refine J_copy (ty := .byte) (pc := 30) C 1 (fun _ => rfl) rfl k_988 k_425 k_424 k_89 (Nat.le_of_ble_eq_true rfl) (fun _ => Nat.le_of_ble_eq_true rfl) dX4_copy_30 hf (fun w8 hf => ?_)
  exact J_vret (pc := 33) C rfl dX4_copy_33 hf
set_option maxRecDepth 100000 in
set_option maxHeartbeats 4000000 in
theorem c_X5_init {l : Launch} {D : va_G} {dA : FieldType → ClassId} (w0 : MW) (v0 : Nat) (v1 : Nat) (v2 : Nat) {w' : MW} (hf : f_X5_init w0 v0 v1 v2 = some w') : CA l D dA yX5_init cX5_init 3 none rmX5_init 1 4 [.ref v0, .ref v1, .ref v2] w0 none w' := by
  refine J_metA (by decide) rfl (Nat.le_of_ble_eq_true rfl) (fun p e s m args below meth c A E C hini hEE => ?_)
  rw [f_X5_init] at hf
  refine J_sub [0, 1, 2] (L1 := [(0, .ref v0), (1, .ref v1), (2, .ref v2)]) rfl ?_
  refine J_aload_n (pc := 0) C dX5_init_0 rfl 0 rfl ?_
  refine J_objInit (pc := 1) C dX5_init_1 k_299 k_101 k_102 (Nat.le_of_ble_eq_true rfl) (fun _ => Nat.le_of_ble_eq_true rfl) ?_
  refine J_aload_n (pc := 4) C dX5_init_4 rfl 0 rfl ?_
  refine J_iconst (pc := 5) C dX5_init_5 (v := 4) (by decide) ?_
  refine J_newa (aty := .int) (ty := .int) (N := 4) (pc := 6) C 0 (fun _ => rfl) dX5_init_6 rfl k_145 (fun _ => rfl) (fun _ _ h => h) (by decide) (by decide) (Nat.le_of_ble_eq_true rfl) ⟨Nat.le_of_ble_eq_true rfl, Nat.le_of_ble_eq_true rfl⟩ hEE [.ref v0, .ref v1, .ref v2, .ref v0] rfl hf (fun w1 hf => ?_)
  refine J_putF (pc := 8) C dX5_init_8 (ci := 5) (k0 := 2) rfl iX5 tyX5 tyX5_ok nmX5 (by decide) k_302 hini rfl rfl (ty := (.array .int)) (by decide +kernel) (fun _ => rfl) (fun _ => rfl) hf (fun w2 hf => ?_)
  refine J_aload_n (pc := 11) C dX5_init_11 rfl 0 rfl ?_
  refine J_aload_n (pc := 12) C dX5_init_12 rfl 1 rfl ?_
  refine J_putF (pc := 13) C dX5_init_13 (ci := 5) (k0 := 0) rfl iX5 tyX5 tyX5_ok nmX5 (by decide) k_300 hini rfl rfl (ty := (.object "MeltingHeaps$Row")) (by decide +kernel) (fun _ => rfl) (fun _ => rfl) hf (fun w3 hf => ?_)
  refine J_aload_n (pc := 16) C dX5_init_16 rfl 0 rfl ?_
  refine J_aload_n (pc := 17) C dX5_init_17 rfl 2 rfl ?_
  refine J_putF (pc := 18) C dX5_init_18 (ci := 5) (k0 := 1) rfl iX5 tyX5 tyX5_ok nmX5 (by decide) k_301 hini rfl rfl (ty := (.object "MeltingHeaps$Store")) (by decide +kernel) (fun _ => rfl) (fun _ => rfl) hf (fun w4 hf => ?_)
  refine J_widen (k := 1) (n := 4) (Nat.le_of_ble_eq_true rfl) (Nat.le_of_ble_eq_true rfl) ?_
  exact J_vret (pc := 21) C rfl dX5_init_21 hf
theorem z_X5_isBlank (v0 : Int32) : narrow .boolean (.int (f_X5_isBlank v0)) = .int (f_X5_isBlank v0) := by
  unfold f_X5_isBlank
  (repeat' split) <;> rfl
set_option maxRecDepth 100000 in
set_option maxHeartbeats 4000000 in
theorem c_X5_isBlank {l : Launch} {D : va_G} {dA : FieldType → ClassId} (w : MW) (v0 : Int32) {rr : Int32} (hf : f_X5_isBlank v0 = rr) : CT l D dA yX5_isBlank cX5_isBlank 1 (some .boolean) rmX5_isBlank [.int v0] w (some (.int rr)) w := by
  refine J_met (by decide) rfl (Nat.le_of_ble_eq_true rfl) (fun p e s m args below meth c A E C => ?_)
  rw [f_X5_isBlank] at hf
  refine J_sub [0] (L1 := [(0, .int v0)]) rfl ?_
  refine J_iload_n (pc := 0) C dX5_isBlank_0 rfl 0 rfl ?_
  refine J_bipush (pc := 1) C dX5_isBlank_1 (v := 32) (by decide) ?_
  refine J_icmp_eq (pc := 3) C dX5_isBlank_3 (tgt := 12) (by decide) hf (fun _ hf => ?_) (fun _ hf => ?_)
  · refine J_iconst (pc := 12) C dX5_isBlank_12 (v := 1) (by decide) ?_
    refine J_goto (pc := 13) C dX5_isBlank_13 (tgt := 17) (by decide) ?_
    exact J_iretT (pc := 17) C  rfl (by decide) dX5_isBlank_17 hf
  · refine J_iload_n (pc := 6) C dX5_isBlank_6 rfl 0 rfl ?_
    refine J_bipush (pc := 7) C dX5_isBlank_7 (v := 10) (by decide) ?_
    refine J_icmp_ne (pc := 9) C dX5_isBlank_9 (tgt := 16) (by decide) hf (fun _ hf => ?_) (fun _ hf => ?_)
    · refine J_iconst (pc := 16) C dX5_isBlank_16 (v := 0) (by decide) ?_
      exact J_iretT (pc := 17) C  rfl (by decide) dX5_isBlank_17 hf
    · refine J_iconst (pc := 12) C dX5_isBlank_12 (v := 1) (by decide) ?_
      refine J_goto (pc := 13) C dX5_isBlank_13 (tgt := 17) (by decide) ?_
      exact J_iretT (pc := 17) C  rfl (by decide) dX5_isBlank_17 hf
theorem z_X5_isLetter (v0 : Int32) : narrow .boolean (.int (f_X5_isLetter v0)) = .int (f_X5_isLetter v0) := by
  unfold f_X5_isLetter
  (repeat' split) <;> rfl
set_option maxRecDepth 100000 in
set_option maxHeartbeats 4000000 in
theorem c_X5_isLetter {l : Launch} {D : va_G} {dA : FieldType → ClassId} (w : MW) (v0 : Int32) {rr : Int32} (hf : f_X5_isLetter v0 = rr) : CT l D dA yX5_isLetter cX5_isLetter 1 (some .boolean) rmX5_isLetter [.int v0] w (some (.int rr)) w := by
  refine J_met (by decide) rfl (Nat.le_of_ble_eq_true rfl) (fun p e s m args below meth c A E C => ?_)
  rw [f_X5_isLetter] at hf
  refine J_sub [0] (L1 := [(0, .int v0)]) rfl ?_
  refine J_iload_n (pc := 0) C dX5_isLetter_0 rfl 0 rfl ?_
  refine J_bipush (pc := 1) C dX5_isLetter_1 (v := 97) (by decide) ?_
  refine J_icmp_lt (pc := 3) C dX5_isLetter_3 (tgt := 16) (by decide) hf (fun _ hf => ?_) (fun _ hf => ?_)
  · refine J_iconst (pc := 16) C dX5_isLetter_16 (v := 0) (by decide) ?_
    exact J_iretT (pc := 17) C  rfl (by decide) dX5_isLetter_17 hf
  · refine J_iload_n (pc := 6) C dX5_isLetter_6 rfl 0 rfl ?_
    refine J_bipush (pc := 7) C dX5_isLetter_7 (v := 122) (by decide) ?_
    refine J_icmp_gt (pc := 9) C dX5_isLetter_9 (tgt := 16) (by decide) hf (fun _ hf => ?_) (fun _ hf => ?_)
    · refine J_iconst (pc := 16) C dX5_isLetter_16 (v := 0) (by decide) ?_
      exact J_iretT (pc := 17) C  rfl (by decide) dX5_isLetter_17 hf
    · refine J_iconst (pc := 12) C dX5_isLetter_12 (v := 1) (by decide) ?_
      refine J_goto (pc := 13) C dX5_isLetter_13 (tgt := 17) (by decide) ?_
      exact J_iretT (pc := 17) C  rfl (by decide) dX5_isLetter_17 hf
set_option maxRecDepth 100000 in
set_option maxHeartbeats 4000000 in
theorem c_X5_readWord {l : Launch} {D : va_G} {dA : FieldType → ClassId} (fu : Nat) (w : MW) (v0 : Nat) {w' : MW} (hf : f_X5_readWord fu w v0 = some w') : CT l D dA yX5_readWord cX5_readWord 1 none rmX5_readWord [.ref v0] w none w' := by
  refine J_met (by decide) rfl (Nat.le_of_ble_eq_true rfl) (fun p e s m args below meth c A E C => ?_)
  have B5 : ∀ (n : Nat) (w : MW) (v0 : Nat), f_X5_readWord_5 fu n w v0 = some w' → JW p l e rmX5_readWord s m args below meth c 1 D dA A E (MQ below (Qr D dA E none w' A) args s 0 0 A) 0 0 5 [(0, .ref v0)] [] w := by
    intro n
    induction n with
    | zero => intro w v0 hf; rw [f_X5_readWord_5] at hf; cases hf
    | succ n ih =>
      intro w v0 hf
      rw [f_X5_readWord_5] at hf
      refine J_aload_n (pc := 5) C dX5_readWord_5 rfl 0 rfl ?_
      refine J_getI (pc := 6) C dX5_readWord_6 (ci := 5) (k0 := 3) rfl iX5 (by decide) k_303 hf (fun x2 hf => ?_)
      refine J_aload_n (pc := 9) C dX5_readWord_9 rfl 0 rfl ?_
      refine J_getR (pc := 10) C dX5_readWord_10 (ci := 5) (k0 := 0) rfl iX5 (by decide) k_300 hf (fun x3 hf => ?_)
      refine J_getIN (pc := 13) C dX5_readWord_13 (ci := 4) (k0 := 1) rfl iX4 (by decide) n_287 hf (fun x4 hf => ?_)
      refine J_icmp_ge (pc := 16) C dX5_readWord_16 (tgt := 49) (by decide) hf (fun _ hf => ?_) (fun _ hf => ?_)
      · exact J_vret (pc := 49) C rfl dX5_readWord_49 hf
      · refine J_aload_n (pc := 19) C dX5_readWord_19 rfl 0 rfl ?_
        refine J_getR (pc := 20) C dX5_readWord_20 (ci := 5) (k0 := 0) rfl iX5 (by decide) k_300 hf (fun x5 hf => ?_)
        refine J_aload_n (pc := 23) C dX5_readWord_23 rfl 0 rfl ?_
        refine J_getI (pc := 24) C dX5_readWord_24 (ci := 5) (k0 := 3) rfl iX5 (by decide) k_303 hf (fun x6 hf => ?_)
        obtain ⟨q7, h8, hf⟩ := bind_ok hf
        obtain ⟨_, g9, h8⟩ := cl_spec h8
        refine J_cV (S := []) (pc := 27) C dX5_readWord_27 (c_X4_byteAt _ _ _ h8) k_442 ys_X4_byteAt ⟨Nat.le_of_ble_eq_true rfl, Nat.le_of_ble_eq_true rfl⟩ ⟨Nat.le_of_ble_eq_true rfl, Nat.le_of_ble_eq_true rfl⟩ g9 rfl rfl (fun _ => Nat.le_of_ble_eq_true rfl) ?_
        refine J_cS (S := []) (pc := 30) C dX5_readWord_30 (c_X5_isLetter _ _ rfl) k_449 ys_X5_isLetter ⟨Nat.le_of_ble_eq_true rfl, Nat.le_of_ble_eq_true rfl⟩ ⟨Nat.le_of_ble_eq_true rfl, Nat.le_of_ble_eq_true rfl⟩ rfl rfl (fun _ => Nat.le_of_ble_eq_true rfl) ?_
        refine J_if_eq (pc := 33) C dX5_readWord_33 (tgt := 49) (by decide) hf (fun _ hf => ?_) (fun _ hf => ?_)
        · exact J_vret (pc := 49) C rfl dX5_readWord_49 hf
        · refine J_aload_n (pc := 36) C dX5_readWord_36 rfl 0 rfl ?_
          refine J_dup (pc := 37) C dX5_readWord_37 rfl ?_
          refine J_getI (pc := 38) C dX5_readWord_38 (ci := 5) (k0 := 3) rfl iX5 (by decide) k_303 hf (fun x10 hf => ?_)
          refine J_iconst (pc := 41) C dX5_readWord_41 (v := 1) (by decide) ?_
          refine J_iadd (pc := 42) C dX5_readWord_42 ?_
          refine J_put (pc := 43) C dX5_readWord_43 (ci := 5) (k0 := 3) rfl iX5 tyX5 tyX5_ok nmX5 (by decide) k_303 rfl (ty := .int) (by decide +kernel) (fun _ => rfl) (fun _ => rfl) hf (fun w11 hf => ?_)
          refine J_goto (pc := 46) C dX5_readWord_46 (tgt := 5) (by decide) ?_
          refine J_sub [0] (L1 := [(0, .ref v0)]) rfl ?_
          exact ih w11 v0 hf
  rw [f_X5_readWord] at hf
  refine J_sub [0] (L1 := [(0, .ref v0)]) rfl ?_
  refine J_aload_n (pc := 0) C dX5_readWord_0 rfl 0 rfl ?_
  refine J_iconst (pc := 1) C dX5_readWord_1 (v := 2) (by decide) ?_
  refine J_put (pc := 2) C dX5_readWord_2 (ci := 5) (k0 := 4) rfl iX5 tyX5 tyX5_ok nmX5 (by decide) k_304 rfl (ty := .int) (by decide +kernel) (fun _ => rfl) (fun _ => rfl) hf (fun w1 hf => ?_)
  refine J_sub [0] (L1 := [(0, .ref v0)]) rfl ?_
  exact B5 fu w1 v0 hf
theorem z_X5_isDigit (v0 : Int32) : narrow .boolean (.int (f_X5_isDigit v0)) = .int (f_X5_isDigit v0) := by
  unfold f_X5_isDigit
  (repeat' split) <;> rfl
set_option maxRecDepth 100000 in
set_option maxHeartbeats 4000000 in
theorem c_X5_isDigit {l : Launch} {D : va_G} {dA : FieldType → ClassId} (w : MW) (v0 : Int32) {rr : Int32} (hf : f_X5_isDigit v0 = rr) : CT l D dA yX5_isDigit cX5_isDigit 1 (some .boolean) rmX5_isDigit [.int v0] w (some (.int rr)) w := by
  refine J_met (by decide) rfl (Nat.le_of_ble_eq_true rfl) (fun p e s m args below meth c A E C => ?_)
  rw [f_X5_isDigit] at hf
  refine J_sub [0] (L1 := [(0, .int v0)]) rfl ?_
  refine J_iload_n (pc := 0) C dX5_isDigit_0 rfl 0 rfl ?_
  refine J_bipush (pc := 1) C dX5_isDigit_1 (v := 48) (by decide) ?_
  refine J_icmp_lt (pc := 3) C dX5_isDigit_3 (tgt := 16) (by decide) hf (fun _ hf => ?_) (fun _ hf => ?_)
  · refine J_iconst (pc := 16) C dX5_isDigit_16 (v := 0) (by decide) ?_
    exact J_iretT (pc := 17) C  rfl (by decide) dX5_isDigit_17 hf
  · refine J_iload_n (pc := 6) C dX5_isDigit_6 rfl 0 rfl ?_
    refine J_bipush (pc := 7) C dX5_isDigit_7 (v := 57) (by decide) ?_
    refine J_icmp_gt (pc := 9) C dX5_isDigit_9 (tgt := 16) (by decide) hf (fun _ hf => ?_) (fun _ hf => ?_)
    · refine J_iconst (pc := 16) C dX5_isDigit_16 (v := 0) (by decide) ?_
      exact J_iretT (pc := 17) C  rfl (by decide) dX5_isDigit_17 hf
    · refine J_iconst (pc := 12) C dX5_isDigit_12 (v := 1) (by decide) ?_
      refine J_goto (pc := 13) C dX5_isDigit_13 (tgt := 17) (by decide) ?_
      exact J_iretT (pc := 17) C  rfl (by decide) dX5_isDigit_17 hf
set_option maxRecDepth 100000 in
set_option maxHeartbeats 4000000 in
theorem c_X5_readNumber {l : Launch} {D : va_G} {dA : FieldType → ClassId} (fu : Nat) (w : MW) (v0 : Nat) {w' : MW} (hf : f_X5_readNumber fu w v0 = some w') : CT l D dA yX5_readNumber cX5_readNumber 1 none rmX5_readNumber [.ref v0] w none w' := by
  refine J_met (by decide) rfl (Nat.le_of_ble_eq_true rfl) (fun p e s m args below meth c A E C => ?_)
  have B94 : ∀ (w : MW) (s0 : Nat) (s1 : Int32), f_X5_readNumber_94 fu w s0 s1 = some w' → JW p l e rmX5_readNumber s m args below meth c 1 D dA A E (MQ below (Qr D dA E none w' A) args s 0 0 A) 0 0 94 [] [.int s1, .ref s0] w := by
    intro w s0 s1 hf
    rw [f_X5_readNumber_94] at hf
    refine J_put (pc := 94) C dX5_readNumber_94 (ci := 5) (k0 := 4) rfl iX5 tyX5 tyX5_ok nmX5 (by decide) k_304 rfl (ty := .int) (by decide +kernel) (fun _ => rfl) (fun _ => rfl) hf (fun w7 hf => ?_)
    exact J_vret (pc := 97) C rfl dX5_readNumber_97 hf
  have B75 : ∀ (w : MW) (v0 : Nat), f_X5_readNumber_75 fu w v0 = some w' → JW p l e rmX5_readNumber s m args below meth c 1 D dA A E (MQ below (Qr D dA E none w' A) args s 0 0 A) 0 0 75 [(0, .ref v0)] [] w := by
    intro w v0 hf
    rw [f_X5_readNumber_75] at hf
    refine J_aload_n (pc := 75) C dX5_readNumber_75 rfl 0 rfl ?_
    refine J_aload_n (pc := 76) C dX5_readNumber_76 rfl 0 rfl ?_
    refine J_getI (pc := 77) C dX5_readNumber_77 (ci := 5) (k0 := 3) rfl iX5 (by decide) k_303 hf (fun x5 hf => ?_)
    refine J_aload_n (pc := 80) C dX5_readNumber_80 rfl 0 rfl ?_
    refine J_getI (pc := 81) C dX5_readNumber_81 (ci := 5) (k0 := 5) rfl iX5 (by decide) k_305 hf (fun x6 hf => ?_)
    refine J_isub (pc := 84) C dX5_readNumber_84 ?_
    refine J_iconst (pc := 85) C dX5_readNumber_85 (v := 4) (by decide) ?_
    refine J_icmp_le (pc := 86) C dX5_readNumber_86 (tgt := 93) (by decide) hf (fun _ hf => ?_) (fun _ hf => ?_)
    · refine J_iconst (pc := 93) C dX5_readNumber_93 (v := 3) (by decide) ?_
      refine J_sub [] (L1 := []) rfl ?_
      exact B94 w v0 (3 : Int32) hf
    · refine J_iconst (pc := 89) C dX5_readNumber_89 (v := 1) (by decide) ?_
      refine J_goto (pc := 90) C dX5_readNumber_90 (tgt := 94) (by decide) ?_
      refine J_sub [] (L1 := []) rfl ?_
      exact B94 w v0 (1 : Int32) hf
  have B5 : ∀ (n : Nat) (w : MW) (v0 : Nat), f_X5_readNumber_5 fu n w v0 = some w' → JW p l e rmX5_readNumber s m args below meth c 1 D dA A E (MQ below (Qr D dA E none w' A) args s 0 0 A) 0 0 5 [(0, .ref v0)] [] w := by
    intro n
    induction n with
    | zero => intro w v0 hf; rw [f_X5_readNumber_5] at hf; cases hf
    | succ n ih =>
      intro w v0 hf
      rw [f_X5_readNumber_5] at hf
      refine J_aload_n (pc := 5) C dX5_readNumber_5 rfl 0 rfl ?_
      refine J_getI (pc := 6) C dX5_readNumber_6 (ci := 5) (k0 := 3) rfl iX5 (by decide) k_303 hf (fun x2 hf => ?_)
      refine J_aload_n (pc := 9) C dX5_readNumber_9 rfl 0 rfl ?_
      refine J_getR (pc := 10) C dX5_readNumber_10 (ci := 5) (k0 := 0) rfl iX5 (by decide) k_300 hf (fun x3 hf => ?_)
      refine J_getIN (pc := 13) C dX5_readNumber_13 (ci := 4) (k0 := 1) rfl iX4 (by decide) n_287 hf (fun x4 hf => ?_)
      refine J_icmp_ge (pc := 16) C dX5_readNumber_16 (tgt := 75) (by decide) hf (fun _ hf => ?_) (fun _ hf => ?_)
      · refine J_sub [0] (L1 := [(0, .ref v0)]) rfl ?_
        exact B75 w v0 hf
      · refine J_aload_n (pc := 19) C dX5_readNumber_19 rfl 0 rfl ?_
        refine J_getR (pc := 20) C dX5_readNumber_20 (ci := 5) (k0 := 0) rfl iX5 (by decide) k_300 hf (fun x8 hf => ?_)
        refine J_aload_n (pc := 23) C dX5_readNumber_23 rfl 0 rfl ?_
        refine J_getI (pc := 24) C dX5_readNumber_24 (ci := 5) (k0 := 3) rfl iX5 (by decide) k_303 hf (fun x9 hf => ?_)
        obtain ⟨q10, h11, hf⟩ := bind_ok hf
        obtain ⟨_, g12, h11⟩ := cl_spec h11
        refine J_cV (S := []) (pc := 27) C dX5_readNumber_27 (c_X4_byteAt _ _ _ h11) k_442 ys_X4_byteAt ⟨Nat.le_of_ble_eq_true rfl, Nat.le_of_ble_eq_true rfl⟩ ⟨Nat.le_of_ble_eq_true rfl, Nat.le_of_ble_eq_true rfl⟩ g12 rfl rfl (fun _ => Nat.le_of_ble_eq_true rfl) ?_
        refine J_cS (S := []) (pc := 30) C dX5_readNumber_30 (c_X5_isDigit _ _ rfl) k_456 ys_X5_isDigit ⟨Nat.le_of_ble_eq_true rfl, Nat.le_of_ble_eq_true rfl⟩ ⟨Nat.le_of_ble_eq_true rfl, Nat.le_of_ble_eq_true rfl⟩ rfl rfl (fun _ => Nat.le_of_ble_eq_true rfl) ?_
        refine J_if_eq (pc := 33) C dX5_readNumber_33 (tgt := 75) (by decide) hf (fun _ hf => ?_) (fun _ hf => ?_)
        · refine J_sub [0] (L1 := [(0, .ref v0)]) rfl ?_
          exact B75 w v0 hf
        · refine J_aload_n (pc := 36) C dX5_readNumber_36 rfl 0 rfl ?_
          refine J_aload_n (pc := 37) C dX5_readNumber_37 rfl 0 rfl ?_
          refine J_getI (pc := 38) C dX5_readNumber_38 (ci := 5) (k0 := 6) rfl iX5 (by decide) k_306 hf (fun x13 hf => ?_)
          refine J_bipush (pc := 41) C dX5_readNumber_41 (v := 10) (by decide) ?_
          refine J_imul (pc := 43) C dX5_readNumber_43 ?_
          refine J_aload_n (pc := 44) C dX5_readNumber_44 rfl 0 rfl ?_
          refine J_getR (pc := 45) C dX5_readNumber_45 (ci := 5) (k0 := 0) rfl iX5 (by decide) k_300 hf (fun x14 hf => ?_)
          refine J_aload_n (pc := 48) C dX5_readNumber_48 rfl 0 rfl ?_
          refine J_getI (pc := 49) C dX5_readNumber_49 (ci := 5) (k0 := 3) rfl iX5 (by decide) k_303 hf (fun x15 hf => ?_)
          obtain ⟨q16, h17, hf⟩ := bind_ok hf
          obtain ⟨_, g18, h17⟩ := cl_spec h17
          refine J_cV (S := [.int (x13 * (10 : Int32)), .ref v0]) (pc := 52) C dX5_readNumber_52 (c_X4_byteAt _ _ _ h17) k_442 ys_X4_byteAt ⟨Nat.le_of_ble_eq_true rfl, Nat.le_of_ble_eq_true rfl⟩ ⟨Nat.le_of_ble_eq_true rfl, Nat.le_of_ble_eq_true rfl⟩ g18 rfl rfl (fun _ => Nat.le_of_ble_eq_true rfl) ?_
          refine J_iadd (pc := 55) C dX5_readNumber_55 ?_
          refine J_bipush (pc := 56) C dX5_readNumber_56 (v := 48) (by decide) ?_
          refine J_isub (pc := 58) C dX5_readNumber_58 ?_
          refine J_put (pc := 59) C dX5_readNumber_59 (ci := 5) (k0 := 6) rfl iX5 tyX5 tyX5_ok nmX5 (by decide) k_306 rfl (ty := .int) (by decide +kernel) (fun _ => rfl) (fun _ => rfl) hf (fun w19 hf => ?_)
          refine J_aload_n (pc := 62) C dX5_readNumber_62 rfl 0 rfl ?_
          refine J_dup (pc := 63) C dX5_readNumber_63 rfl ?_
          refine J_getI (pc := 64) C dX5_readNumber_64 (ci := 5) (k0 := 3) rfl iX5 (by decide) k_303 hf (fun x20 hf => ?_)
          refine J_iconst (pc := 67) C dX5_readNumber_67 (v := 1) (by decide) ?_
          refine J_iadd (pc := 68) C dX5_readNumber_68 ?_
          refine J_put (pc := 69) C dX5_readNumber_69 (ci := 5) (k0 := 3) rfl iX5 tyX5 tyX5_ok nmX5 (by decide) k_303 rfl (ty := .int) (by decide +kernel) (fun _ => rfl) (fun _ => rfl) hf (fun w21 hf => ?_)
          refine J_goto (pc := 72) C dX5_readNumber_72 (tgt := 5) (by decide) ?_
          refine J_sub [0] (L1 := [(0, .ref v0)]) rfl ?_
          exact ih w21 v0 hf
  rw [f_X5_readNumber] at hf
  refine J_sub [0] (L1 := [(0, .ref v0)]) rfl ?_
  refine J_aload_n (pc := 0) C dX5_readNumber_0 rfl 0 rfl ?_
  refine J_iconst (pc := 1) C dX5_readNumber_1 (v := 0) (by decide) ?_
  refine J_put (pc := 2) C dX5_readNumber_2 (ci := 5) (k0 := 6) rfl iX5 tyX5 tyX5_ok nmX5 (by decide) k_306 rfl (ty := .int) (by decide +kernel) (fun _ => rfl) (fun _ => rfl) hf (fun w1 hf => ?_)
  refine J_sub [0] (L1 := [(0, .ref v0)]) rfl ?_
  exact B5 fu w1 v0 hf
