set_option maxRecDepth 100000 in
set_option maxHeartbeats 4000000 in
theorem c_X9_init {l : Launch} {D : va_G} {dA : FieldType → ClassId} (w : MW) (v0 : Nat) {w' : MW} (hf : f_X9_init w v0 = some w') : CT l D dA yX9_init cX9_init 1 none rmX9_init [.ref v0] w none w' := by
  refine J_metI (by decide) rfl (Nat.le_of_ble_eq_true rfl) (fun p e s m args below meth c A E C hini => ?_)
  rw [f_X9_init] at hf
  refine J_sub [0] (L1 := [(0, .ref v0)]) rfl ?_
  refine J_aload_n (pc := 0) C dX9_init_0 rfl 0 rfl ?_
  refine J_objInit (pc := 1) C dX9_init_1 k_151 k_101 k_102 (Nat.le_of_ble_eq_true rfl) (fun _ => Nat.le_of_ble_eq_true rfl) ?_
  exact J_vret (pc := 4) C rfl dX9_init_4 hf
set_option maxRecDepth 100000 in
set_option maxHeartbeats 4000000 in
theorem c_X7_init {l : Launch} {D : va_G} {dA : FieldType → ClassId} (w0 : MW) (v0 : Nat) {w' : MW} (hf : f_X7_init w0 v0 = some w') : CA l D dA yX7_init cX7_init 2 none rmX7_init 29 971 [.ref v0] w0 none w' := by
  refine J_metA (by decide) rfl (Nat.le_of_ble_eq_true rfl) (fun p e s m args below meth c A E C hini hEE => ?_)
  rw [f_X7_init] at hf
  refine J_sub [0] (L1 := [(0, .ref v0)]) rfl ?_
  refine J_aload_n (pc := 0) C dX7_init_0 rfl 0 rfl ?_
  refine J_objInit (pc := 1) C dX7_init_1 k_108 k_101 k_102 (Nat.le_of_ble_eq_true rfl) (fun _ => Nat.le_of_ble_eq_true rfl) ?_
  refine J_aload_n (pc := 4) C dX7_init_4 rfl 0 rfl ?_
  refine J_bipush (pc := 5) C dX7_init_5 (v := 8) (by decide) ?_
  refine J_newq (Cn := RX0) (N := 8) (pc := 7) C 3 (fun _ => rfl) (by decide) dX7_init_7 k_109 (by decide) (by decide) (Nat.le_of_ble_eq_true rfl) ⟨Nat.le_of_ble_eq_true rfl, Nat.le_of_ble_eq_true rfl⟩ hEE [.ref v0, .ref v0] rfl hf (fun w1 hf => ?_)
  refine J_putF (pc := 10) C dX7_init_10 (ci := 7) (k0 := 0) rfl iX7 tyX7 tyX7_ok nmX7 (by decide) k_212 hini rfl rfl (ty := (.array (.object "MeltingHeaps$Heap"))) (by decide +kernel) (fun _ => rfl) (fun _ => rfl) hf (fun w2 hf => ?_)
  refine J_aload_n (pc := 13) C dX7_init_13 rfl 0 rfl ?_
  refine J_new (pc := 14) C dX7_init_14 (ci := 8) (fs := [.null, .null, .null, .null, .null, .null, .null, .int 0, .int 0]) rfl iX8 tyX8 tyX8_ok k_111 k_112 k_78 (by decide +kernel) (fun _ => rfl) ⟨Nat.le_of_ble_eq_true rfl, Nat.le_of_ble_eq_true rfl⟩ hEE [.ref v0, .ref v0] rfl hf (fun w3 hf => ?_)
  refine J_dup (pc := 17) C dX7_init_17 rfl ?_
  obtain ⟨q4, h5, hf⟩ := bind_ok hf
  obtain ⟨g61, g62, _, g6, h5⟩ := clA_spec h5
  refine J_cINA (S := [.ref w2.length, .ref v0]) (pc := 18) C dX7_init_18 (c_X8_init _ _ h5) n_113 ys_X8_init ⟨Nat.le_of_ble_eq_true rfl, Nat.le_of_ble_eq_true rfl⟩ ⟨Nat.le_of_ble_eq_true rfl, Nat.le_of_ble_eq_true rfl⟩ g6 rfl rfl (fun _ => Nat.le_of_ble_eq_true rfl) hEE g61 [.ref v0, .ref w2.length, .ref v0] rfl g62 ?_
  refine J_putF (pc := 21) C dX7_init_21 (ci := 7) (k0 := 1) rfl iX7 tyX7 tyX7_ok nmX7 (by decide) k_215 hini rfl rfl (ty := (.object "MeltingHeaps$Tree")) (by decide +kernel) (fun _ => rfl) (fun _ => rfl) hf (fun w7 hf => ?_)
  refine J_aload_n (pc := 24) C dX7_init_24 rfl 0 rfl ?_
  refine J_new (pc := 25) C dX7_init_25 (ci := 9) (fs := [.int 0, .int 0, .int 0, .int 0, .int 0]) rfl iX9 tyX9 tyX9_ok k_146 k_147 k_79 (by decide +kernel) (fun _ => rfl) ⟨Nat.le_of_ble_eq_true rfl, Nat.le_of_ble_eq_true rfl⟩ hEE [.ref v0, .ref v0] rfl hf (fun w8 hf => ?_)
  refine J_dup (pc := 28) C dX7_init_28 rfl ?_
  obtain ⟨q9, h10, hf⟩ := bind_ok hf
  obtain ⟨_, g11, h10⟩ := cl_spec h10
  refine J_cIN (S := [.ref w7.length, .ref v0]) (pc := 29) C dX7_init_29 (c_X9_init _ _ h10) n_148 ys_X9_init ⟨Nat.le_of_ble_eq_true rfl, Nat.le_of_ble_eq_true rfl⟩ ⟨Nat.le_of_ble_eq_true rfl, Nat.le_of_ble_eq_true rfl⟩ g11 rfl rfl (fun _ => Nat.le_of_ble_eq_true rfl) ?_
  refine J_putF (pc := 32) C dX7_init_32 (ci := 7) (k0 := 2) rfl iX7 tyX7 tyX7_ok nmX7 (by decide) k_217 hini rfl rfl (ty := (.object "MeltingHeaps$Weave")) (by decide +kernel) (fun _ => rfl) (fun _ => rfl) hf (fun w12 hf => ?_)
  refine J_aload_n (pc := 35) C dX7_init_35 rfl 0 rfl ?_
  refine J_bipush (pc := 36) C dX7_init_36 (v := 8) (by decide) ?_
  refine J_newa (aty := .int) (ty := .int) (N := 8) (pc := 38) C 0 (fun _ => rfl) dX7_init_38 rfl k_145 (fun _ => rfl) (fun _ _ h => h) (by decide) (by decide) (Nat.le_of_ble_eq_true rfl) ⟨Nat.le_of_ble_eq_true rfl, Nat.le_of_ble_eq_true rfl⟩ hEE [.ref v0, .ref v0] rfl hf (fun w13 hf => ?_)
  refine J_putF (pc := 40) C dX7_init_40 (ci := 7) (k0 := 4) rfl iX7 tyX7 tyX7_ok nmX7 (by decide) k_220 hini rfl rfl (ty := (.array .int)) (by decide +kernel) (fun _ => rfl) (fun _ => rfl) hf (fun w14 hf => ?_)
  refine J_aload_n (pc := 43) C dX7_init_43 rfl 0 rfl ?_
  refine J_iconst (pc := 44) C dX7_init_44 (v := -1) (by decide) ?_
  refine J_put (pc := 45) C dX7_init_45 (ci := 7) (k0 := 5) rfl iX7 tyX7 tyX7_ok nmX7 (by decide) k_221 rfl (ty := .int) (by decide +kernel) (fun _ => rfl) (fun _ => rfl) hf (fun w15 hf => ?_)
  refine J_aload_n (pc := 48) C dX7_init_48 rfl 0 rfl ?_
  refine J_iconst (pc := 49) C dX7_init_49 (v := -1) (by decide) ?_
  refine J_put (pc := 50) C dX7_init_50 (ci := 7) (k0 := 6) rfl iX7 tyX7 tyX7_ok nmX7 (by decide) k_223 rfl (ty := .int) (by decide +kernel) (fun _ => rfl) (fun _ => rfl) hf (fun w16 hf => ?_)
  refine J_aload_n (pc := 53) C dX7_init_53 rfl 0 rfl ?_
  refine J_iconst (pc := 54) C dX7_init_54 (v := -1) (by decide) ?_
  refine J_put (pc := 55) C dX7_init_55 (ci := 7) (k0 := 7) rfl iX7 tyX7 tyX7_ok nmX7 (by decide) k_225 rfl (ty := .int) (by decide +kernel) (fun _ => rfl) (fun _ => rfl) hf (fun w17 hf => ?_)
  refine J_iconst (pc := 58) C dX7_init_58 (v := 0) (by decide) ?_
  refine J_storeL (v := (0 : Int32)) (pc := 59) C dX7_init_59 rfl (by decide) ([(1, .int (0 : Int32)), (0, .ref v0)]) rfl ?_
  refine J_iload_n (pc := 60) C dX7_init_60 rfl 0 rfl ?_
  refine J_bipush (pc := 61) C dX7_init_61 (v := 8) (by decide) ?_
  refine J_icmp_ge (ρ := Unit) (T := ()) (F := ()) (r := ()) (pc := 63) C dX7_init_63 (tgt := 85) (by decide) (by simp) (fun h _ => absurd h (by decide)) (fun _ _ => ?_)
  refine J_aload_n (pc := 66) C dX7_init_66 rfl 1 rfl ?_
  refine J_getR (pc := 67) C dX7_init_67 (ci := 7) (k0 := 0) rfl iX7 (by decide) k_212 hf (fun x18 hf => ?_)
  refine J_iload_n (pc := 70) C dX7_init_70 rfl 0 rfl ?_
  refine J_new (pc := 71) C dX7_init_71 (ci := 0) (fs := [.null, .int 0, .int 0]) rfl iX0 tyX0 tyX0_ok k_109 k_175 k_80 (by decide +kernel) (fun _ => rfl) ⟨Nat.le_of_ble_eq_true rfl, Nat.le_of_ble_eq_true rfl⟩ hEE [.int (0 : Int32), .ref v0, .int (0 : Int32), .ref x18] rfl hf (fun w19 hf => ?_)
  refine J_dup (pc := 74) C dX7_init_74 rfl ?_
  obtain ⟨q20, h21, hf⟩ := bind_ok hf
  obtain ⟨g221, g222, _, g22, h21⟩ := clA_spec h21
  refine J_cINA (S := [.ref w17.length, .int (0 : Int32), .ref x18]) (pc := 75) C dX7_init_75 (c_X0_init _ _ h21) n_176 ys_X0_init ⟨Nat.le_of_ble_eq_true rfl, Nat.le_of_ble_eq_true rfl⟩ ⟨Nat.le_of_ble_eq_true rfl, Nat.le_of_ble_eq_true rfl⟩ g22 rfl rfl (fun _ => Nat.le_of_ble_eq_true rfl) hEE g221 [.int (0 : Int32), .ref v0, .ref w17.length, .int (0 : Int32), .ref x18] rfl g222 ?_
  refine J_aast (Cn := RX0) (pc := 78) C 3 0 (fun _ => rfl) rfl dX7_init_78 hf (fun w23 hf => ?_)
  refine J_iincL (pc := 79) C dX7_init_79 0 rfl (v := (1 : Int32)) (by decide) (by decide) [(1, .int (1 : Int32)), (0, .ref v0)] rfl ?_
  refine J_goto (pc := 82) C dX7_init_82 (tgt := 60) (by decide) ?_
  refine J_iload_n (pc := 60) C dX7_init_60 rfl 0 rfl ?_
  refine J_bipush (pc := 61) C dX7_init_61 (v := 8) (by decide) ?_
  refine J_icmp_ge (ρ := Unit) (T := ()) (F := ()) (r := ()) (pc := 63) C dX7_init_63 (tgt := 85) (by decide) (by simp) (fun h _ => absurd h (by decide)) (fun _ _ => ?_)
  refine J_aload_n (pc := 66) C dX7_init_66 rfl 1 rfl ?_
  refine J_getR (pc := 67) C dX7_init_67 (ci := 7) (k0 := 0) rfl iX7 (by decide) k_212 hf (fun x24 hf => ?_)
  refine J_iload_n (pc := 70) C dX7_init_70 rfl 0 rfl ?_
  refine J_new (pc := 71) C dX7_init_71 (ci := 0) (fs := [.null, .int 0, .int 0]) rfl iX0 tyX0 tyX0_ok k_109 k_175 k_80 (by decide +kernel) (fun _ => rfl) ⟨Nat.le_of_ble_eq_true rfl, Nat.le_of_ble_eq_true rfl⟩ hEE [.int (1 : Int32), .ref v0, .int (1 : Int32), .ref x24] rfl hf (fun w25 hf => ?_)
  refine J_dup (pc := 74) C dX7_init_74 rfl ?_
  obtain ⟨q26, h27, hf⟩ := bind_ok hf
  obtain ⟨g281, g282, _, g28, h27⟩ := clA_spec h27
  refine J_cINA (S := [.ref w23.length, .int (1 : Int32), .ref x24]) (pc := 75) C dX7_init_75 (c_X0_init _ _ h27) n_176 ys_X0_init ⟨Nat.le_of_ble_eq_true rfl, Nat.le_of_ble_eq_true rfl⟩ ⟨Nat.le_of_ble_eq_true rfl, Nat.le_of_ble_eq_true rfl⟩ g28 rfl rfl (fun _ => Nat.le_of_ble_eq_true rfl) hEE g281 [.int (1 : Int32), .ref v0, .ref w23.length, .int (1 : Int32), .ref x24] rfl g282 ?_
  refine J_aast (Cn := RX0) (pc := 78) C 3 0 (fun _ => rfl) rfl dX7_init_78 hf (fun w29 hf => ?_)
  refine J_iincL (pc := 79) C dX7_init_79 0 rfl (v := (2 : Int32)) (by decide) (by decide) [(1, .int (2 : Int32)), (0, .ref v0)] rfl ?_
  refine J_goto (pc := 82) C dX7_init_82 (tgt := 60) (by decide) ?_
  refine J_iload_n (pc := 60) C dX7_init_60 rfl 0 rfl ?_
  refine J_bipush (pc := 61) C dX7_init_61 (v := 8) (by decide) ?_
  refine J_icmp_ge (ρ := Unit) (T := ()) (F := ()) (r := ()) (pc := 63) C dX7_init_63 (tgt := 85) (by decide) (by simp) (fun h _ => absurd h (by decide)) (fun _ _ => ?_)
  refine J_aload_n (pc := 66) C dX7_init_66 rfl 1 rfl ?_
  refine J_getR (pc := 67) C dX7_init_67 (ci := 7) (k0 := 0) rfl iX7 (by decide) k_212 hf (fun x30 hf => ?_)
  refine J_iload_n (pc := 70) C dX7_init_70 rfl 0 rfl ?_
  refine J_new (pc := 71) C dX7_init_71 (ci := 0) (fs := [.null, .int 0, .int 0]) rfl iX0 tyX0 tyX0_ok k_109 k_175 k_80 (by decide +kernel) (fun _ => rfl) ⟨Nat.le_of_ble_eq_true rfl, Nat.le_of_ble_eq_true rfl⟩ hEE [.int (2 : Int32), .ref v0, .int (2 : Int32), .ref x30] rfl hf (fun w31 hf => ?_)
  refine J_dup (pc := 74) C dX7_init_74 rfl ?_
  obtain ⟨q32, h33, hf⟩ := bind_ok hf
  obtain ⟨g341, g342, _, g34, h33⟩ := clA_spec h33
  refine J_cINA (S := [.ref w29.length, .int (2 : Int32), .ref x30]) (pc := 75) C dX7_init_75 (c_X0_init _ _ h33) n_176 ys_X0_init ⟨Nat.le_of_ble_eq_true rfl, Nat.le_of_ble_eq_true rfl⟩ ⟨Nat.le_of_ble_eq_true rfl, Nat.le_of_ble_eq_true rfl⟩ g34 rfl rfl (fun _ => Nat.le_of_ble_eq_true rfl) hEE g341 [.int (2 : Int32), .ref v0, .ref w29.length, .int (2 : Int32), .ref x30] rfl g342 ?_
  refine J_aast (Cn := RX0) (pc := 78) C 3 0 (fun _ => rfl) rfl dX7_init_78 hf (fun w35 hf => ?_)
  refine J_iincL (pc := 79) C dX7_init_79 0 rfl (v := (3 : Int32)) (by decide) (by decide) [(1, .int (3 : Int32)), (0, .ref v0)] rfl ?_
  refine J_goto (pc := 82) C dX7_init_82 (tgt := 60) (by decide) ?_
  refine J_iload_n (pc := 60) C dX7_init_60 rfl 0 rfl ?_
  refine J_bipush (pc := 61) C dX7_init_61 (v := 8) (by decide) ?_
  refine J_icmp_ge (ρ := Unit) (T := ()) (F := ()) (r := ()) (pc := 63) C dX7_init_63 (tgt := 85) (by decide) (by simp) (fun h _ => absurd h (by decide)) (fun _ _ => ?_)
  refine J_aload_n (pc := 66) C dX7_init_66 rfl 1 rfl ?_
  refine J_getR (pc := 67) C dX7_init_67 (ci := 7) (k0 := 0) rfl iX7 (by decide) k_212 hf (fun x36 hf => ?_)
  refine J_iload_n (pc := 70) C dX7_init_70 rfl 0 rfl ?_
  refine J_new (pc := 71) C dX7_init_71 (ci := 0) (fs := [.null, .int 0, .int 0]) rfl iX0 tyX0 tyX0_ok k_109 k_175 k_80 (by decide +kernel) (fun _ => rfl) ⟨Nat.le_of_ble_eq_true rfl, Nat.le_of_ble_eq_true rfl⟩ hEE [.int (3 : Int32), .ref v0, .int (3 : Int32), .ref x36] rfl hf (fun w37 hf => ?_)
  refine J_dup (pc := 74) C dX7_init_74 rfl ?_
  obtain ⟨q38, h39, hf⟩ := bind_ok hf
  obtain ⟨g401, g402, _, g40, h39⟩ := clA_spec h39
  refine J_cINA (S := [.ref w35.length, .int (3 : Int32), .ref x36]) (pc := 75) C dX7_init_75 (c_X0_init _ _ h39) n_176 ys_X0_init ⟨Nat.le_of_ble_eq_true rfl, Nat.le_of_ble_eq_true rfl⟩ ⟨Nat.le_of_ble_eq_true rfl, Nat.le_of_ble_eq_true rfl⟩ g40 rfl rfl (fun _ => Nat.le_of_ble_eq_true rfl) hEE g401 [.int (3 : Int32), .ref v0, .ref w35.length, .int (3 : Int32), .ref x36] rfl g402 ?_
  refine J_aast (Cn := RX0) (pc := 78) C 3 0 (fun _ => rfl) rfl dX7_init_78 hf (fun w41 hf => ?_)
  refine J_iincL (pc := 79) C dX7_init_79 0 rfl (v := (4 : Int32)) (by decide) (by decide) [(1, .int (4 : Int32)), (0, .ref v0)] rfl ?_
  refine J_goto (pc := 82) C dX7_init_82 (tgt := 60) (by decide) ?_
  refine J_iload_n (pc := 60) C dX7_init_60 rfl 0 rfl ?_
  refine J_bipush (pc := 61) C dX7_init_61 (v := 8) (by decide) ?_
  refine J_icmp_ge (ρ := Unit) (T := ()) (F := ()) (r := ()) (pc := 63) C dX7_init_63 (tgt := 85) (by decide) (by simp) (fun h _ => absurd h (by decide)) (fun _ _ => ?_)
  refine J_aload_n (pc := 66) C dX7_init_66 rfl 1 rfl ?_
  refine J_getR (pc := 67) C dX7_init_67 (ci := 7) (k0 := 0) rfl iX7 (by decide) k_212 hf (fun x42 hf => ?_)
  refine J_iload_n (pc := 70) C dX7_init_70 rfl 0 rfl ?_
  refine J_new (pc := 71) C dX7_init_71 (ci := 0) (fs := [.null, .int 0, .int 0]) rfl iX0 tyX0 tyX0_ok k_109 k_175 k_80 (by decide +kernel) (fun _ => rfl) ⟨Nat.le_of_ble_eq_true rfl, Nat.le_of_ble_eq_true rfl⟩ hEE [.int (4 : Int32), .ref v0, .int (4 : Int32), .ref x42] rfl hf (fun w43 hf => ?_)
  refine J_dup (pc := 74) C dX7_init_74 rfl ?_
  obtain ⟨q44, h45, hf⟩ := bind_ok hf
  obtain ⟨g461, g462, _, g46, h45⟩ := clA_spec h45
  refine J_cINA (S := [.ref w41.length, .int (4 : Int32), .ref x42]) (pc := 75) C dX7_init_75 (c_X0_init _ _ h45) n_176 ys_X0_init ⟨Nat.le_of_ble_eq_true rfl, Nat.le_of_ble_eq_true rfl⟩ ⟨Nat.le_of_ble_eq_true rfl, Nat.le_of_ble_eq_true rfl⟩ g46 rfl rfl (fun _ => Nat.le_of_ble_eq_true rfl) hEE g461 [.int (4 : Int32), .ref v0, .ref w41.length, .int (4 : Int32), .ref x42] rfl g462 ?_
  refine J_aast (Cn := RX0) (pc := 78) C 3 0 (fun _ => rfl) rfl dX7_init_78 hf (fun w47 hf => ?_)
  refine J_iincL (pc := 79) C dX7_init_79 0 rfl (v := (5 : Int32)) (by decide) (by decide) [(1, .int (5 : Int32)), (0, .ref v0)] rfl ?_
  refine J_goto (pc := 82) C dX7_init_82 (tgt := 60) (by decide) ?_
  refine J_iload_n (pc := 60) C dX7_init_60 rfl 0 rfl ?_
  refine J_bipush (pc := 61) C dX7_init_61 (v := 8) (by decide) ?_
  refine J_icmp_ge (ρ := Unit) (T := ()) (F := ()) (r := ()) (pc := 63) C dX7_init_63 (tgt := 85) (by decide) (by simp) (fun h _ => absurd h (by decide)) (fun _ _ => ?_)
  refine J_aload_n (pc := 66) C dX7_init_66 rfl 1 rfl ?_
  refine J_getR (pc := 67) C dX7_init_67 (ci := 7) (k0 := 0) rfl iX7 (by decide) k_212 hf (fun x48 hf => ?_)
  refine J_iload_n (pc := 70) C dX7_init_70 rfl 0 rfl ?_
  refine J_new (pc := 71) C dX7_init_71 (ci := 0) (fs := [.null, .int 0, .int 0]) rfl iX0 tyX0 tyX0_ok k_109 k_175 k_80 (by decide +kernel) (fun _ => rfl) ⟨Nat.le_of_ble_eq_true rfl, Nat.le_of_ble_eq_true rfl⟩ hEE [.int (5 : Int32), .ref v0, .int (5 : Int32), .ref x48] rfl hf (fun w49 hf => ?_)
  refine J_dup (pc := 74) C dX7_init_74 rfl ?_
  obtain ⟨q50, h51, hf⟩ := bind_ok hf
  obtain ⟨g521, g522, _, g52, h51⟩ := clA_spec h51
  refine J_cINA (S := [.ref w47.length, .int (5 : Int32), .ref x48]) (pc := 75) C dX7_init_75 (c_X0_init _ _ h51) n_176 ys_X0_init ⟨Nat.le_of_ble_eq_true rfl, Nat.le_of_ble_eq_true rfl⟩ ⟨Nat.le_of_ble_eq_true rfl, Nat.le_of_ble_eq_true rfl⟩ g52 rfl rfl (fun _ => Nat.le_of_ble_eq_true rfl) hEE g521 [.int (5 : Int32), .ref v0, .ref w47.length, .int (5 : Int32), .ref x48] rfl g522 ?_
  refine J_aast (Cn := RX0) (pc := 78) C 3 0 (fun _ => rfl) rfl dX7_init_78 hf (fun w53 hf => ?_)
  refine J_iincL (pc := 79) C dX7_init_79 0 rfl (v := (6 : Int32)) (by decide) (by decide) [(1, .int (6 : Int32)), (0, .ref v0)] rfl ?_
  refine J_goto (pc := 82) C dX7_init_82 (tgt := 60) (by decide) ?_
  refine J_iload_n (pc := 60) C dX7_init_60 rfl 0 rfl ?_
  refine J_bipush (pc := 61) C dX7_init_61 (v := 8) (by decide) ?_
  refine J_icmp_ge (ρ := Unit) (T := ()) (F := ()) (r := ()) (pc := 63) C dX7_init_63 (tgt := 85) (by decide) (by simp) (fun h _ => absurd h (by decide)) (fun _ _ => ?_)
  refine J_aload_n (pc := 66) C dX7_init_66 rfl 1 rfl ?_
  refine J_getR (pc := 67) C dX7_init_67 (ci := 7) (k0 := 0) rfl iX7 (by decide) k_212 hf (fun x54 hf => ?_)
  refine J_iload_n (pc := 70) C dX7_init_70 rfl 0 rfl ?_
  refine J_new (pc := 71) C dX7_init_71 (ci := 0) (fs := [.null, .int 0, .int 0]) rfl iX0 tyX0 tyX0_ok k_109 k_175 k_80 (by decide +kernel) (fun _ => rfl) ⟨Nat.le_of_ble_eq_true rfl, Nat.le_of_ble_eq_true rfl⟩ hEE [.int (6 : Int32), .ref v0, .int (6 : Int32), .ref x54] rfl hf (fun w55 hf => ?_)
  refine J_dup (pc := 74) C dX7_init_74 rfl ?_
  obtain ⟨q56, h57, hf⟩ := bind_ok hf
  obtain ⟨g581, g582, _, g58, h57⟩ := clA_spec h57
  refine J_cINA (S := [.ref w53.length, .int (6 : Int32), .ref x54]) (pc := 75) C dX7_init_75 (c_X0_init _ _ h57) n_176 ys_X0_init ⟨Nat.le_of_ble_eq_true rfl, Nat.le_of_ble_eq_true rfl⟩ ⟨Nat.le_of_ble_eq_true rfl, Nat.le_of_ble_eq_true rfl⟩ g58 rfl rfl (fun _ => Nat.le_of_ble_eq_true rfl) hEE g581 [.int (6 : Int32), .ref v0, .ref w53.length, .int (6 : Int32), .ref x54] rfl g582 ?_
  refine J_aast (Cn := RX0) (pc := 78) C 3 0 (fun _ => rfl) rfl dX7_init_78 hf (fun w59 hf => ?_)
  refine J_iincL (pc := 79) C dX7_init_79 0 rfl (v := (7 : Int32)) (by decide) (by decide) [(1, .int (7 : Int32)), (0, .ref v0)] rfl ?_
  refine J_goto (pc := 82) C dX7_init_82 (tgt := 60) (by decide) ?_
  refine J_iload_n (pc := 60) C dX7_init_60 rfl 0 rfl ?_
  refine J_bipush (pc := 61) C dX7_init_61 (v := 8) (by decide) ?_
  refine J_icmp_ge (ρ := Unit) (T := ()) (F := ()) (r := ()) (pc := 63) C dX7_init_63 (tgt := 85) (by decide) (by simp) (fun h _ => absurd h (by decide)) (fun _ _ => ?_)
  refine J_aload_n (pc := 66) C dX7_init_66 rfl 1 rfl ?_
  refine J_getR (pc := 67) C dX7_init_67 (ci := 7) (k0 := 0) rfl iX7 (by decide) k_212 hf (fun x60 hf => ?_)
  refine J_iload_n (pc := 70) C dX7_init_70 rfl 0 rfl ?_
  refine J_new (pc := 71) C dX7_init_71 (ci := 0) (fs := [.null, .int 0, .int 0]) rfl iX0 tyX0 tyX0_ok k_109 k_175 k_80 (by decide +kernel) (fun _ => rfl) ⟨Nat.le_of_ble_eq_true rfl, Nat.le_of_ble_eq_true rfl⟩ hEE [.int (7 : Int32), .ref v0, .int (7 : Int32), .ref x60] rfl hf (fun w61 hf => ?_)
  refine J_dup (pc := 74) C dX7_init_74 rfl ?_
  obtain ⟨q62, h63, hf⟩ := bind_ok hf
  obtain ⟨g641, g642, _, g64, h63⟩ := clA_spec h63
  refine J_cINA (S := [.ref w59.length, .int (7 : Int32), .ref x60]) (pc := 75) C dX7_init_75 (c_X0_init _ _ h63) n_176 ys_X0_init ⟨Nat.le_of_ble_eq_true rfl, Nat.le_of_ble_eq_true rfl⟩ ⟨Nat.le_of_ble_eq_true rfl, Nat.le_of_ble_eq_true rfl⟩ g64 rfl rfl (fun _ => Nat.le_of_ble_eq_true rfl) hEE g641 [.int (7 : Int32), .ref v0, .ref w59.length, .int (7 : Int32), .ref x60] rfl g642 ?_
  refine J_aast (Cn := RX0) (pc := 78) C 3 0 (fun _ => rfl) rfl dX7_init_78 hf (fun w65 hf => ?_)
  refine J_iincL (pc := 79) C dX7_init_79 0 rfl (v := (8 : Int32)) (by decide) (by decide) [(1, .int (8 : Int32)), (0, .ref v0)] rfl ?_
  refine J_goto (pc := 82) C dX7_init_82 (tgt := 60) (by decide) ?_
  refine J_iload_n (pc := 60) C dX7_init_60 rfl 0 rfl ?_
  refine J_bipush (pc := 61) C dX7_init_61 (v := 8) (by decide) ?_
  refine J_icmp_ge (ρ := Unit) (T := ()) (F := ()) (r := ()) (pc := 63) C dX7_init_63 (tgt := 85) (by decide) (by simp) (fun _ _ => ?_) (fun h _ => absurd h (by decide))
  refine J_aload_n (pc := 85) C dX7_init_85 rfl 1 rfl ?_
  refine J_new (pc := 86) C dX7_init_86 (ci := 2) (fs := [.null, .null]) rfl iX2 tyX2 tyX2_ok k_199 k_200 k_81 (by decide +kernel) (fun _ => rfl) ⟨Nat.le_of_ble_eq_true rfl, Nat.le_of_ble_eq_true rfl⟩ hEE [.int (8 : Int32), .ref v0, .ref v0] rfl hf (fun w66 hf => ?_)
  refine J_dup (pc := 89) C dX7_init_89 rfl ?_
  refine J_aload_n (pc := 90) C dX7_init_90 rfl 1 rfl ?_
  refine J_getR (pc := 91) C dX7_init_91 (ci := 7) (k0 := 0) rfl iX7 (by decide) k_212 hf (fun x67 hf => ?_)
  obtain ⟨q68, h69, hf⟩ := bind_ok hf
  obtain ⟨g701, g702, _, g70, h69⟩ := clA_spec h69
  refine J_cIA (S := [.ref w65.length, .ref v0]) (pc := 94) C dX7_init_94 (c_X2_init _ _ _ h69) k_201 ys_X2_init ⟨Nat.le_of_ble_eq_true rfl, Nat.le_of_ble_eq_true rfl⟩ ⟨Nat.le_of_ble_eq_true rfl, Nat.le_of_ble_eq_true rfl⟩ g70 rfl rfl (fun _ => Nat.le_of_ble_eq_true rfl) hEE g701 [.int (8 : Int32), .ref v0, .ref w65.length, .ref v0] rfl g702 ?_
  refine J_putF (pc := 97) C dX7_init_97 (ci := 7) (k0 := 3) rfl iX7 tyX7 tyX7_ok nmX7 (by decide) k_218 hini rfl rfl (ty := (.object "MeltingHeaps$Parade")) (by decide +kernel) (fun _ => rfl) (fun _ => rfl) hf (fun w71 hf => ?_)
  refine J_widen (k := 29) (n := 971) (Nat.le_of_ble_eq_true rfl) (Nat.le_of_ble_eq_true rfl) ?_
  exact J_vret (pc := 100) C rfl dX7_init_100 hf
set_option maxRecDepth 100000 in
set_option maxHeartbeats 4000000 in
theorem c_X7_empty {l : Launch} {D : va_G} {dA : FieldType → ClassId} (fu : Nat) (w : MW) (v0 : Nat) {w' : MW} (hf : f_X7_empty fu w v0 = some w') : CT l D dA yX7_empty cX7_empty 2 none rmX7_empty [.ref v0] w none w' := by
  refine J_met (by decide) rfl (Nat.le_of_ble_eq_true rfl) (fun p e s m args below meth c A E C => ?_)
  have B2 : ∀ (n : Nat) (w : MW) (v0 : Nat) (v1 : Int32), f_X7_empty_2 fu n w v0 v1 = some w' → JW p l e rmX7_empty s m args below meth c 2 D dA A E (MQ below (Qr D dA E none w' A) args s 0 0 A) 0 0 2 [(0, .ref v0), (1, .int v1)] [] w := by
    intro n
    induction n with
    | zero => intro w v0 v1 hf; rw [f_X7_empty_2] at hf; cases hf
    | succ n ih =>
      intro w v0 v1 hf
      rw [f_X7_empty_2] at hf
      refine J_iload_n (pc := 2) C dX7_empty_2 rfl 1 rfl ?_
      refine J_bipush (pc := 3) C dX7_empty_3 (v := 8) (by decide) ?_
      refine J_icmp_ge (pc := 5) C dX7_empty_5 (tgt := 23) (by decide) hf (fun _ hf => ?_) (fun _ hf => ?_)
      · exact J_vret (pc := 23) C rfl dX7_empty_23 hf
      · refine J_aload_n (pc := 8) C dX7_empty_8 rfl 0 rfl ?_
        refine J_getR (pc := 9) C dX7_empty_9 (ci := 7) (k0 := 0) rfl iX7 (by decide) k_212 hf (fun x2 hf => ?_)
        refine J_iload_n (pc := 12) C dX7_empty_12 rfl 1 rfl ?_
        refine J_aald (Cn := RX0) (pc := 13) C 3 (fun _ => rfl) dX7_empty_13 hf (fun x3 hf => ?_)
        obtain ⟨q4, h5, hf⟩ := bind_ok hf
        obtain ⟨_, g6, h5⟩ := cl_spec h5
        refine J_cV (S := []) (pc := 14) C dX7_empty_14 (c_X0_empty _ _ h5) k_430 ys_X0_empty ⟨Nat.le_of_ble_eq_true rfl, Nat.le_of_ble_eq_true rfl⟩ ⟨Nat.le_of_ble_eq_true rfl, Nat.le_of_ble_eq_true rfl⟩ g6 rfl rfl (fun _ => Nat.le_of_ble_eq_true rfl) ?_
        refine J_iinc (pc := 17) C dX7_empty_17 1 rfl (y := v1 + 1) rfl (by decide) hf (fun q => [(1, .int q), (0, .ref v0)]) (fun _ => rfl) (fun x7 hf => ?_)
        refine J_goto (pc := 20) C dX7_empty_20 (tgt := 2) (by decide) ?_
        refine J_sub [1, 0] (L1 := [(0, .ref v0), (1, .int x7)]) rfl ?_
        exact ih q4 v0 x7 hf
  rw [f_X7_empty] at hf
  refine J_sub [0] (L1 := [(0, .ref v0)]) rfl ?_
  refine J_iconst (pc := 0) C dX7_empty_0 (v := 0) (by decide) ?_
  refine J_istore_n (pc := 1) C dX7_empty_1 rfl (by decide) hf (fun q => [(1, .int q), (0, .ref v0)]) (fun _ => rfl) (fun x1 hf => ?_)
  refine J_sub [1, 0] (L1 := [(0, .ref v0), (1, .int x1)]) rfl ?_
  exact B2 fu w v0 x1 hf
set_option maxRecDepth 100000 in
set_option maxHeartbeats 4000000 in
theorem c_X8_addKey {l : Launch} {D : va_G} {dA : FieldType → ClassId} (w : MW) (v0 : Nat) (v1 : Int32) {w' : MW} (hf : f_X8_addKey w v0 v1 = some w') : CT l D dA yX8_addKey cX8_addKey 2 none rmX8_addKey [.ref v0, .int v1] w none w' := by
  refine J_met (by decide) rfl (Nat.le_of_ble_eq_true rfl) (fun p e s m args below meth c A E C => ?_)
  rw [f_X8_addKey] at hf
  refine J_sub [0, 1] (L1 := [(0, .ref v0), (1, .int v1)]) rfl ?_
  refine J_aload_n (pc := 0) C dX8_addKey_0 rfl 0 rfl ?_
  refine J_getI (pc := 1) C dX8_addKey_1 (ci := 8) (k0 := 7) rfl iX8 (by decide) k_124 hf (fun x1 hf => ?_)
  refine J_if_lt (pc := 4) C dX8_addKey_4 (tgt := 36) (by decide) hf (fun _ hf => ?_) (fun _ hf => ?_)
  · exact J_vret (pc := 36) C rfl dX8_addKey_36 hf
  · refine J_aload_n (pc := 7) C dX8_addKey_7 rfl 0 rfl ?_
    refine J_getI (pc := 8) C dX8_addKey_8 (ci := 8) (k0 := 7) rfl iX8 (by decide) k_124 hf (fun x2 hf => ?_)
    refine J_bipush (pc := 11) C dX8_addKey_11 (v := 61) (by decide) ?_
    refine J_icmp_ge (pc := 13) C dX8_addKey_13 (tgt := 36) (by decide) hf (fun _ hf => ?_) (fun _ hf => ?_)
    · exact J_vret (pc := 36) C rfl dX8_addKey_36 hf
    · refine J_aload_n (pc := 16) C dX8_addKey_16 rfl 0 rfl ?_
      refine J_getR (pc := 17) C dX8_addKey_17 (ci := 8) (k0 := 0) rfl iX8 (by decide) k_117 hf (fun x3 hf => ?_)
      refine J_aload_n (pc := 20) C dX8_addKey_20 rfl 0 rfl ?_
      refine J_getI (pc := 21) C dX8_addKey_21 (ci := 8) (k0 := 7) rfl iX8 (by decide) k_124 hf (fun x4 hf => ?_)
      refine J_iload_n (pc := 24) C dX8_addKey_24 rfl 1 rfl ?_
      refine J_iast (pc := 25) C dX8_addKey_25 hf (fun w5 hf => ?_)
      refine J_aload_n (pc := 26) C dX8_addKey_26 rfl 0 rfl ?_
      refine J_dup (pc := 27) C dX8_addKey_27 rfl ?_
      refine J_getI (pc := 28) C dX8_addKey_28 (ci := 8) (k0 := 7) rfl iX8 (by decide) k_124 hf (fun x6 hf => ?_)
      refine J_iconst (pc := 31) C dX8_addKey_31 (v := 1) (by decide) ?_
      refine J_iadd (pc := 32) C dX8_addKey_32 ?_
      refine J_put (pc := 33) C dX8_addKey_33 (ci := 8) (k0 := 7) rfl iX8 tyX8 tyX8_ok nmX8 (by decide) k_124 rfl (ty := .int) (by decide +kernel) (fun _ => rfl) (fun _ => rfl) hf (fun w7 hf => ?_)
      exact J_vret (pc := 36) C rfl dX8_addKey_36 hf
set_option maxRecDepth 100000 in
set_option maxHeartbeats 4000000 in
theorem c_X10_priority {l : Launch} {D : va_G} {dA : FieldType → ClassId} (w : MW) (v0 : Int32) {rr : Int32} (hf : f_X10_priority v0 = rr) : CT l D dA yX10_priority cX10_priority 1 (some .int) rmX10_priority [.int v0] w (some (.int rr)) w := by
  refine J_met (by decide) rfl (Nat.le_of_ble_eq_true rfl) (fun p e s m args below meth c A E C => ?_)
  rw [f_X10_priority] at hf
  refine J_sub [0] (L1 := [(0, .int v0)]) rfl ?_
  refine J_iload_n (pc := 0) C dX10_priority_0 rfl 0 rfl ?_
  refine J_ldcw (pc := 1) C dX10_priority_1 (v := 40503) k_773 ?_
  refine J_imul (pc := 4) C dX10_priority_4 ?_
  refine J_sipush (pc := 5) C dX10_priority_5 (v := 9973) (by decide) ?_
  refine J_iadd (pc := 8) C dX10_priority_8 ?_
  refine J_ldcw (pc := 9) C dX10_priority_9 (v := 65535) k_774 ?_
  refine J_iand (pc := 12) C dX10_priority_12 ?_
  exact J_iretT (pc := 13) C  rfl rfl dX10_priority_13 hf
set_option maxRecDepth 100000 in
set_option maxHeartbeats 4000000 in
theorem c_X8_link {l : Launch} {D : va_G} {dA : FieldType → ClassId} (fu : Nat) (w : MW) (v0 : Nat) {w' : MW} (hf : f_X8_link fu w v0 = some w') : CT l D dA yX8_link cX8_link 4 none rmX8_link [.ref v0] w none w' := by
  refine J_met (by decide) rfl (Nat.le_of_ble_eq_true rfl) (fun p e s m args below meth c A E C => ?_)
  have B159 : ∀ (w : MW) (s0 : Nat) (s1 : Int32), f_X8_link_159 fu w s0 s1 = some w' → JW p l e rmX8_link s m args below meth c 4 D dA A E (MQ below (Qr D dA E none w' A) args s 0 0 A) 0 0 159 [] [.int s1, .ref s0] w := by
    intro w s0 s1 hf
    rw [f_X8_link_159] at hf
    refine J_put (pc := 159) C dX8_link_159 (ci := 8) (k0 := 8) rfl iX8 tyX8 tyX8_ok nmX8 (by decide) k_125 rfl (ty := .int) (by decide +kernel) (fun _ => rfl) (fun _ => rfl) hf (fun w5 hf => ?_)
    exact J_vret (pc := 162) C rfl dX8_link_162 hf
  have B125 : ∀ (lr4 : MW → Nat → Int32 → Int32 → Option MW) (lh4 : ∀ (w : MW) (v0 : Nat) (v1 : Int32) (v2 : Int32), lr4 w v0 v1 v2 = some w' → JW p l e rmX8_link s m args below meth c 4 D dA A E (MQ below (Qr D dA E none w' A) args s 0 0 A) 0 0 4 [(0, .ref v0), (1, .int v1), (2, .int v2)] [] w) (w : MW) (v0 : Nat) (v1 : Int32) (v2 : Int32), f_X8_link_125 fu lr4 w v0 v1 v2 = some w' → JW p l e rmX8_link s m args below meth c 4 D dA A E (MQ below (Qr D dA E none w' A) args s 0 0 A) 0 0 125 [(0, .ref v0), (1, .int v1), (2, .int v2)] [] w := by
    intro lr4 lh4 w v0 v1 v2 hf
    rw [f_X8_link_125] at hf
    refine J_aload_n (pc := 125) C dX8_link_125 rfl 0 rfl ?_
    refine J_getR (pc := 126) C dX8_link_126 (ci := 8) (k0 := 6) rfl iX8 (by decide) k_123 hf (fun x15 hf => ?_)
    refine J_iload_n (pc := 129) C dX8_link_129 rfl 1 rfl ?_
    refine J_iload_n (pc := 130) C dX8_link_130 rfl 2 rfl ?_
    refine J_iast (pc := 131) C dX8_link_131 hf (fun w16 hf => ?_)
    refine J_iinc (pc := 132) C dX8_link_132 1 rfl (y := v1 + 1) rfl (by decide) hf (fun q => [(1, .int q), (0, .ref v0), (2, .int v2)]) (fun _ => rfl) (fun x17 hf => ?_)
    refine J_iinc (pc := 135) C dX8_link_135 2 rfl (y := v2 + 1) rfl (by decide) hf (fun q => [(2, .int q), (1, .int x17), (0, .ref v0)]) (fun _ => rfl) (fun x18 hf => ?_)
    refine J_goto (pc := 138) C dX8_link_138 (tgt := 4) (by decide) ?_
    refine J_sub [2, 1, 0] (L1 := [(0, .ref v0), (1, .int x17), (2, .int x18)]) rfl ?_
    exact lh4 w16 v0 x17 x18 hf
  have B107 : ∀ (lr4 : MW → Nat → Int32 → Int32 → Option MW) (lh4 : ∀ (w : MW) (v0 : Nat) (v1 : Int32) (v2 : Int32), lr4 w v0 v1 v2 = some w' → JW p l e rmX8_link s m args below meth c 4 D dA A E (MQ below (Qr D dA E none w' A) args s 0 0 A) 0 0 4 [(0, .ref v0), (1, .int v1), (2, .int v2)] [] w) (w : MW) (v0 : Nat) (v1 : Int32) (v2 : Int32), f_X8_link_107 fu lr4 w v0 v1 v2 = some w' → JW p l e rmX8_link s m args below meth c 4 D dA A E (MQ below (Qr D dA E none w' A) args s 0 0 A) 0 0 107 [(0, .ref v0), (1, .int v1), (2, .int v2)] [] w := by
    intro lr4 lh4 w v0 v1 v2 hf
    rw [f_X8_link_107] at hf
    refine J_iload_n (pc := 107) C dX8_link_107 rfl 1 rfl ?_
    refine J_if_le (pc := 108) C dX8_link_108 (tgt := 125) (by decide) hf (fun _ hf => ?_) (fun _ hf => ?_)
    · refine J_sub [0, 1, 2] (L1 := [(0, .ref v0), (1, .int v1), (2, .int v2)]) rfl ?_
      exact B125 lr4 lh4 w v0 v1 v2 hf
    · refine J_aload_n (pc := 111) C dX8_link_111 rfl 0 rfl ?_
      refine J_getR (pc := 112) C dX8_link_112 (ci := 8) (k0 := 3) rfl iX8 (by decide) k_120 hf (fun x19 hf => ?_)
      refine J_aload_n (pc := 115) C dX8_link_115 rfl 0 rfl ?_
      refine J_getR (pc := 116) C dX8_link_116 (ci := 8) (k0 := 6) rfl iX8 (by decide) k_123 hf (fun x20 hf => ?_)
      refine J_iload_n (pc := 119) C dX8_link_119 rfl 1 rfl ?_
      refine J_iconst (pc := 120) C dX8_link_120 (v := 1) (by decide) ?_
      refine J_isub (pc := 121) C dX8_link_121 ?_
      refine J_iald (pc := 122) C dX8_link_122 hf (fun x21 hf => ?_)
      refine J_iload_n (pc := 123) C dX8_link_123 rfl 2 rfl ?_
      refine J_iast (pc := 124) C dX8_link_124 hf (fun w22 hf => ?_)
      refine J_sub [0, 1, 2] (L1 := [(0, .ref v0), (1, .int v1), (2, .int v2)]) rfl ?_
      exact B125 lr4 lh4 w22 v0 v1 v2 hf
  have B94 : ∀ (lr4 : MW → Nat → Int32 → Int32 → Option MW) (lh4 : ∀ (w : MW) (v0 : Nat) (v1 : Int32) (v2 : Int32), lr4 w v0 v1 v2 = some w' → JW p l e rmX8_link s m args below meth c 4 D dA A E (MQ below (Qr D dA E none w' A) args s 0 0 A) 0 0 4 [(0, .ref v0), (1, .int v1), (2, .int v2)] [] w) (w : MW) (v0 : Nat) (v1 : Int32) (v2 : Int32) (v3 : Int32) (s0 : Nat) (s1 : Int32) (s2 : Int32), f_X8_link_94 fu lr4 w v0 v1 v2 v3 s0 s1 s2 = some w' → JW p l e rmX8_link s m args below meth c 4 D dA A E (MQ below (Qr D dA E none w' A) args s 0 0 A) 0 0 94 [(0, .ref v0), (1, .int v1), (2, .int v2), (3, .int v3)] [.int s2, .int s1, .ref s0] w := by
    intro lr4 lh4 w v0 v1 v2 v3 s0 s1 s2 hf
    rw [f_X8_link_94] at hf
    refine J_iast (pc := 94) C dX8_link_94 hf (fun w14 hf => ?_)
    refine J_iload_n (pc := 95) C dX8_link_95 rfl 3 rfl ?_
    refine J_iconst (pc := 96) C dX8_link_96 (v := -1) (by decide) ?_
    refine J_icmp_eq (pc := 97) C dX8_link_97 (tgt := 107) (by decide) hf (fun _ hf => ?_) (fun _ hf => ?_)
    · refine J_sub [0, 1, 2] (L1 := [(0, .ref v0), (1, .int v1), (2, .int v2)]) rfl ?_
      exact B107 lr4 lh4 w14 v0 v1 v2 hf
    · refine J_aload_n (pc := 100) C dX8_link_100 rfl 0 rfl ?_
      refine J_getR (pc := 101) C dX8_link_101 (ci := 8) (k0 := 1) rfl iX8 (by decide) k_118 hf (fun x23 hf => ?_)
      refine J_iload_n (pc := 104) C dX8_link_104 rfl 3 rfl ?_
      refine J_iload_n (pc := 105) C dX8_link_105 rfl 2 rfl ?_
      refine J_iast (pc := 106) C dX8_link_106 hf (fun w24 hf => ?_)
      refine J_sub [0, 1, 2] (L1 := [(0, .ref v0), (1, .int v1), (2, .int v2)]) rfl ?_
      exact B107 lr4 lh4 w24 v0 v1 v2 hf
  have B59 : ∀ (lr4 : MW → Nat → Int32 → Int32 → Option MW) (lh4 : ∀ (w : MW) (v0 : Nat) (v1 : Int32) (v2 : Int32), lr4 w v0 v1 v2 = some w' → JW p l e rmX8_link s m args below meth c 4 D dA A E (MQ below (Qr D dA E none w' A) args s 0 0 A) 0 0 4 [(0, .ref v0), (1, .int v1), (2, .int v2)] [] w) (w : MW) (v0 : Nat) (v1 : Int32) (v2 : Int32) (v3 : Int32), f_X8_link_59 fu lr4 w v0 v1 v2 v3 = some w' → JW p l e rmX8_link s m args below meth c 4 D dA A E (MQ below (Qr D dA E none w' A) args s 0 0 A) 0 0 59 [(0, .ref v0), (1, .int v1), (2, .int v2), (3, .int v3)] [] w := by
    intro lr4 lh4 w v0 v1 v2 v3 hf
    rw [f_X8_link_59] at hf
    refine J_aload_n (pc := 59) C dX8_link_59 rfl 0 rfl ?_
    refine J_getR (pc := 60) C dX8_link_60 (ci := 8) (k0 := 2) rfl iX8 (by decide) k_119 hf (fun x9 hf => ?_)
    refine J_iload_n (pc := 63) C dX8_link_63 rfl 2 rfl ?_
    refine J_iload_n (pc := 64) C dX8_link_64 rfl 3 rfl ?_
    refine J_iast (pc := 65) C dX8_link_65 hf (fun w10 hf => ?_)
    refine J_aload_n (pc := 66) C dX8_link_66 rfl 0 rfl ?_
    refine J_getR (pc := 67) C dX8_link_67 (ci := 8) (k0 := 3) rfl iX8 (by decide) k_120 hf (fun x11 hf => ?_)
    refine J_iload_n (pc := 70) C dX8_link_70 rfl 2 rfl ?_
    refine J_iconst (pc := 71) C dX8_link_71 (v := -1) (by decide) ?_
    refine J_iast (pc := 72) C dX8_link_72 hf (fun w12 hf => ?_)
    refine J_aload_n (pc := 73) C dX8_link_73 rfl 0 rfl ?_
    refine J_getR (pc := 74) C dX8_link_74 (ci := 8) (k0 := 1) rfl iX8 (by decide) k_118 hf (fun x13 hf => ?_)
    refine J_iload_n (pc := 77) C dX8_link_77 rfl 2 rfl ?_
    refine J_iload_n (pc := 78) C dX8_link_78 rfl 1 rfl ?_
    refine J_if_le (pc := 79) C dX8_link_79 (tgt := 93) (by decide) hf (fun _ hf => ?_) (fun _ hf => ?_)
    · refine J_iconst (pc := 93) C dX8_link_93 (v := -1) (by decide) ?_
      refine J_sub [0, 1, 2, 3] (L1 := [(0, .ref v0), (1, .int v1), (2, .int v2), (3, .int v3)]) rfl ?_
      exact B94 lr4 lh4 w12 v0 v1 v2 v3 x13 v2 (-1 : Int32) hf
    · refine J_aload_n (pc := 82) C dX8_link_82 rfl 0 rfl ?_
      refine J_getR (pc := 83) C dX8_link_83 (ci := 8) (k0 := 6) rfl iX8 (by decide) k_123 hf (fun x25 hf => ?_)
      refine J_iload_n (pc := 86) C dX8_link_86 rfl 1 rfl ?_
      refine J_iconst (pc := 87) C dX8_link_87 (v := 1) (by decide) ?_
      refine J_isub (pc := 88) C dX8_link_88 ?_
      refine J_iald (pc := 89) C dX8_link_89 hf (fun x26 hf => ?_)
      refine J_goto (pc := 90) C dX8_link_90 (tgt := 94) (by decide) ?_
      refine J_sub [0, 1, 2, 3] (L1 := [(0, .ref v0), (1, .int v1), (2, .int v2), (3, .int v3)]) rfl ?_
      exact B94 lr4 lh4 w12 v0 v1 v2 v3 x13 v2 x26 hf
  have B14 : ∀ (lr4 : MW → Nat → Int32 → Int32 → Option MW) (lh4 : ∀ (w : MW) (v0 : Nat) (v1 : Int32) (v2 : Int32), lr4 w v0 v1 v2 = some w' → JW p l e rmX8_link s m args below meth c 4 D dA A E (MQ below (Qr D dA E none w' A) args s 0 0 A) 0 0 4 [(0, .ref v0), (1, .int v1), (2, .int v2)] [] w) (n : Nat) (w : MW) (v0 : Nat) (v1 : Int32) (v2 : Int32) (v3 : Int32), f_X8_link_14 fu lr4 n w v0 v1 v2 v3 = some w' → JW p l e rmX8_link s m args below meth c 4 D dA A E (MQ below (Qr D dA E none w' A) args s 0 0 A) 0 0 14 [(0, .ref v0), (1, .int v1), (2, .int v2), (3, .int v3)] [] w := by
    intro lr4 lh4 n
    induction n with
    | zero => intro w v0 v1 v2 v3 hf; rw [f_X8_link_14] at hf; cases hf
    | succ n ih =>
      intro w v0 v1 v2 v3 hf
      rw [f_X8_link_14] at hf
      refine J_iload_n (pc := 14) C dX8_link_14 rfl 1 rfl ?_
      refine J_if_le (pc := 15) C dX8_link_15 (tgt := 59) (by decide) hf (fun _ hf => ?_) (fun _ hf => ?_)
      · refine J_sub [0, 1, 2, 3] (L1 := [(0, .ref v0), (1, .int v1), (2, .int v2), (3, .int v3)]) rfl ?_
        exact B59 lr4 lh4 w v0 v1 v2 v3 hf
      · refine J_aload_n (pc := 18) C dX8_link_18 rfl 0 rfl ?_
        refine J_getR (pc := 19) C dX8_link_19 (ci := 8) (k0 := 0) rfl iX8 (by decide) k_117 hf (fun x27 hf => ?_)
        refine J_aload_n (pc := 22) C dX8_link_22 rfl 0 rfl ?_
        refine J_getR (pc := 23) C dX8_link_23 (ci := 8) (k0 := 6) rfl iX8 (by decide) k_123 hf (fun x28 hf => ?_)
        refine J_iload_n (pc := 26) C dX8_link_26 rfl 1 rfl ?_
        refine J_iconst (pc := 27) C dX8_link_27 (v := 1) (by decide) ?_
        refine J_isub (pc := 28) C dX8_link_28 ?_
        refine J_iald (pc := 29) C dX8_link_29 hf (fun x29 hf => ?_)
        refine J_iald (pc := 30) C dX8_link_30 hf (fun x30 hf => ?_)
        refine J_cSN (S := []) (pc := 31) C dX8_link_31 (c_X10_priority _ _ rfl) n_770 ys_X10_priority ⟨Nat.le_of_ble_eq_true rfl, Nat.le_of_ble_eq_true rfl⟩ ⟨Nat.le_of_ble_eq_true rfl, Nat.le_of_ble_eq_true rfl⟩ rfl rfl (fun _ => Nat.le_of_ble_eq_true rfl) ?_
        refine J_aload_n (pc := 34) C dX8_link_34 rfl 0 rfl ?_
        refine J_getR (pc := 35) C dX8_link_35 (ci := 8) (k0 := 0) rfl iX8 (by decide) k_117 hf (fun x31 hf => ?_)
        refine J_iload_n (pc := 38) C dX8_link_38 rfl 2 rfl ?_
        refine J_iald (pc := 39) C dX8_link_39 hf (fun x32 hf => ?_)
        refine J_cSN (S := [.int (f_X10_priority x30)]) (pc := 40) C dX8_link_40 (c_X10_priority _ _ rfl) n_770 ys_X10_priority ⟨Nat.le_of_ble_eq_true rfl, Nat.le_of_ble_eq_true rfl⟩ ⟨Nat.le_of_ble_eq_true rfl, Nat.le_of_ble_eq_true rfl⟩ rfl rfl (fun _ => Nat.le_of_ble_eq_true rfl) ?_
        refine J_icmp_ge (pc := 43) C dX8_link_43 (tgt := 59) (by decide) hf (fun _ hf => ?_) (fun _ hf => ?_)
        · refine J_sub [0, 1, 2, 3] (L1 := [(0, .ref v0), (1, .int v1), (2, .int v2), (3, .int v3)]) rfl ?_
          exact B59 lr4 lh4 w v0 v1 v2 v3 hf
        · refine J_iinc (pc := 46) C dX8_link_46 1 rfl (y := v1 + (-1)) rfl (by decide) hf (fun q => [(1, .int q), (0, .ref v0), (2, .int v2), (3, .int v3)]) (fun _ => rfl) (fun x33 hf => ?_)
          refine J_aload_n (pc := 49) C dX8_link_49 rfl 1 rfl ?_
          refine J_getR (pc := 50) C dX8_link_50 (ci := 8) (k0 := 6) rfl iX8 (by decide) k_123 hf (fun x34 hf => ?_)
          refine J_iload_n (pc := 53) C dX8_link_53 rfl 0 rfl ?_
          refine J_iald (pc := 54) C dX8_link_54 hf (fun x35 hf => ?_)
          refine J_istore_n (pc := 55) C dX8_link_55 rfl (by decide) hf (fun q => [(3, .int q), (1, .int x33), (0, .ref v0), (2, .int v2)]) (fun _ => rfl) (fun x36 hf => ?_)
          refine J_goto (pc := 56) C dX8_link_56 (tgt := 14) (by decide) ?_
          refine J_sub [2, 1, 3, 0] (L1 := [(0, .ref v0), (1, .int x33), (2, .int v2), (3, .int x36)]) rfl ?_
          exact ih w v0 x33 v2 x36 hf
  have B4 : ∀ (n : Nat) (w : MW) (v0 : Nat) (v1 : Int32) (v2 : Int32), f_X8_link_4 fu n w v0 v1 v2 = some w' → JW p l e rmX8_link s m args below meth c 4 D dA A E (MQ below (Qr D dA E none w' A) args s 0 0 A) 0 0 4 [(0, .ref v0), (1, .int v1), (2, .int v2)] [] w := by
    intro n
    induction n with
    | zero => intro w v0 v1 v2 hf; rw [f_X8_link_4] at hf; cases hf
    | succ n ih =>
      intro w v0 v1 v2 hf
      rw [f_X8_link_4] at hf
      refine J_iload_n (pc := 4) C dX8_link_4 rfl 2 rfl ?_
      refine J_aload_n (pc := 5) C dX8_link_5 rfl 0 rfl ?_
      refine J_getI (pc := 6) C dX8_link_6 (ci := 8) (k0 := 7) rfl iX8 (by decide) k_124 hf (fun x3 hf => ?_)
      refine J_icmp_ge (pc := 9) C dX8_link_9 (tgt := 141) (by decide) hf (fun _ hf => ?_) (fun _ hf => ?_)
      · refine J_aload_n (pc := 141) C dX8_link_141 rfl 0 rfl ?_
        refine J_aload_n (pc := 142) C dX8_link_142 rfl 0 rfl ?_
        refine J_getI (pc := 143) C dX8_link_143 (ci := 8) (k0 := 7) rfl iX8 (by decide) k_124 hf (fun x4 hf => ?_)
        refine J_if_le (pc := 146) C dX8_link_146 (tgt := 158) (by decide) hf (fun _ hf => ?_) (fun _ hf => ?_)
        · refine J_iconst (pc := 158) C dX8_link_158 (v := -1) (by decide) ?_
          refine J_sub [] (L1 := []) rfl ?_
          exact B159 w v0 (-1 : Int32) hf
        · refine J_aload_n (pc := 149) C dX8_link_149 rfl 0 rfl ?_
          refine J_getR (pc := 150) C dX8_link_150 (ci := 8) (k0 := 6) rfl iX8 (by decide) k_123 hf (fun x6 hf => ?_)
          refine J_iconst (pc := 153) C dX8_link_153 (v := 0) (by decide) ?_
          refine J_iald (pc := 154) C dX8_link_154 hf (fun x7 hf => ?_)
          refine J_goto (pc := 155) C dX8_link_155 (tgt := 159) (by decide) ?_
          refine J_sub [] (L1 := []) rfl ?_
          exact B159 w v0 x7 hf
      · refine J_iconst (pc := 12) C dX8_link_12 (v := -1) (by decide) ?_
        refine J_istore_n (pc := 13) C dX8_link_13 rfl (by decide) hf (fun q => [(3, .int q), (0, .ref v0), (1, .int v1), (2, .int v2)]) (fun _ => rfl) (fun x8 hf => ?_)
        refine J_sub [1, 2, 3, 0] (L1 := [(0, .ref v0), (1, .int v1), (2, .int v2), (3, .int x8)]) rfl ?_
        exact B14 (f_X8_link_4 fu n) ih fu w v0 v1 v2 x8 hf
  rw [f_X8_link] at hf
  refine J_sub [0] (L1 := [(0, .ref v0)]) rfl ?_
  refine J_iconst (pc := 0) C dX8_link_0 (v := 0) (by decide) ?_
  refine J_istore_n (pc := 1) C dX8_link_1 rfl (by decide) hf (fun q => [(1, .int q), (0, .ref v0)]) (fun _ => rfl) (fun x1 hf => ?_)
  refine J_iconst (pc := 2) C dX8_link_2 (v := 0) (by decide) ?_
  refine J_istore_n (pc := 3) C dX8_link_3 rfl (by decide) hf (fun q => [(2, .int q), (1, .int x1), (0, .ref v0)]) (fun _ => rfl) (fun x2 hf => ?_)
  refine J_sub [2, 1, 0] (L1 := [(0, .ref v0), (1, .int x1), (2, .int x2)]) rfl ?_
  exact B4 fu w v0 x1 x2 hf
set_option maxRecDepth 100000 in
set_option maxHeartbeats 4000000 in
theorem c_X8_climb {l : Launch} {D : va_G} {dA : FieldType → ClassId} (fu : Nat) (w : MW) (v0 : Nat) {w' : MW} (hf : f_X8_climb fu w v0 = some w') : CT l D dA yX8_climb cX8_climb 4 none rmX8_climb [.ref v0] w none w' := by
  refine J_met (by decide) rfl (Nat.le_of_ble_eq_true rfl) (fun p e s m args below meth c A E C => ?_)
  have B95 : ∀ (lr32 : MW → Nat → Int32 → Option MW) (lh32 : ∀ (w : MW) (v0 : Nat) (v1 : Int32), lr32 w v0 v1 = some w' → JW p l e rmX8_climb s m args below meth c 4 D dA A E (MQ below (Qr D dA E none w' A) args s 0 0 A) 0 0 32 [(0, .ref v0), (1, .int v1)] [] w) (w : MW) (v0 : Nat) (v1 : Int32), f_X8_climb_95 fu lr32 w v0 v1 = some w' → JW p l e rmX8_climb s m args below meth c 4 D dA A E (MQ below (Qr D dA E none w' A) args s 0 0 A) 0 0 95 [(0, .ref v0), (1, .int v1)] [] w := by
    intro lr32 lh32 w v0 v1 hf
    rw [f_X8_climb_95] at hf
    refine J_iinc (pc := 95) C dX8_climb_95 1 rfl (y := v1 + 1) rfl (by decide) hf (fun q => [(1, .int q), (0, .ref v0)]) (fun _ => rfl) (fun x10 hf => ?_)
    refine J_goto (pc := 98) C dX8_climb_98 (tgt := 32) (by decide) ?_
    refine J_sub [1, 0] (L1 := [(0, .ref v0), (1, .int x10)]) rfl ?_
    exact lh32 w v0 x10 hf
  have B49 : ∀ (lr32 : MW → Nat → Int32 → Option MW) (lh32 : ∀ (w : MW) (v0 : Nat) (v1 : Int32), lr32 w v0 v1 = some w' → JW p l e rmX8_climb s m args below meth c 4 D dA A E (MQ below (Qr D dA E none w' A) args s 0 0 A) 0 0 32 [(0, .ref v0), (1, .int v1)] [] w) (n : Nat) (w : MW) (v0 : Nat) (v1 : Int32) (v2 : Int32) (v3 : Int32), f_X8_climb_49 fu lr32 n w v0 v1 v2 v3 = some w' → JW p l e rmX8_climb s m args below meth c 4 D dA A E (MQ below (Qr D dA E none w' A) args s 0 0 A) 0 0 49 [(0, .ref v0), (1, .int v1), (2, .int v2), (3, .int v3)] [] w := by
    intro lr32 lh32 n
    induction n with
    | zero => intro w v0 v1 v2 v3 hf; rw [f_X8_climb_49] at hf; cases hf
    | succ n ih =>
      intro w v0 v1 v2 v3 hf
      rw [f_X8_climb_49] at hf
      refine J_iload_n (pc := 49) C dX8_climb_49 rfl 3 rfl ?_
      refine J_aload_n (pc := 50) C dX8_climb_50 rfl 0 rfl ?_
      refine J_getI (pc := 51) C dX8_climb_51 (ci := 8) (k0 := 7) rfl iX8 (by decide) k_124 hf (fun x9 hf => ?_)
      refine J_icmp_ge (pc := 54) C dX8_climb_54 (tgt := 95) (by decide) hf (fun _ hf => ?_) (fun _ hf => ?_)
      · refine J_sub [0, 1] (L1 := [(0, .ref v0), (1, .int v1)]) rfl ?_
        exact B95 lr32 lh32 w v0 v1 hf
      · refine J_iload_n (pc := 57) C dX8_climb_57 rfl 2 rfl ?_
        refine J_iconst (pc := 58) C dX8_climb_58 (v := -1) (by decide) ?_
        refine J_icmp_eq (pc := 59) C dX8_climb_59 (tgt := 95) (by decide) hf (fun _ hf => ?_) (fun _ hf => ?_)
        · refine J_sub [0, 1] (L1 := [(0, .ref v0), (1, .int v1)]) rfl ?_
          exact B95 lr32 lh32 w v0 v1 hf
        · refine J_aload_n (pc := 62) C dX8_climb_62 rfl 0 rfl ?_
          refine J_getR (pc := 63) C dX8_climb_63 (ci := 8) (k0 := 4) rfl iX8 (by decide) k_121 hf (fun x11 hf => ?_)
          refine J_iload_n (pc := 66) C dX8_climb_66 rfl 1 rfl ?_
          refine J_dup2 (pc := 67) C dX8_climb_67 rfl rfl ?_
          refine J_iald (pc := 68) C dX8_climb_68 hf (fun x12 hf => ?_)
          refine J_iconst (pc := 69) C dX8_climb_69 (v := 1) (by decide) ?_
          refine J_iadd (pc := 70) C dX8_climb_70 ?_
          refine J_iast (pc := 71) C dX8_climb_71 hf (fun w13 hf => ?_)
          refine J_aload_n (pc := 72) C dX8_climb_72 rfl 0 rfl ?_
          refine J_getR (pc := 73) C dX8_climb_73 (ci := 8) (k0 := 5) rfl iX8 (by decide) k_122 hf (fun x14 hf => ?_)
          refine J_iload_n (pc := 76) C dX8_climb_76 rfl 2 rfl ?_
          refine J_dup2 (pc := 77) C dX8_climb_77 rfl rfl ?_
          refine J_iald (pc := 78) C dX8_climb_78 hf (fun x15 hf => ?_)
          refine J_iconst (pc := 79) C dX8_climb_79 (v := 1) (by decide) ?_
          refine J_iadd (pc := 80) C dX8_climb_80 ?_
          refine J_iast (pc := 81) C dX8_climb_81 hf (fun w16 hf => ?_)
          refine J_aload_n (pc := 82) C dX8_climb_82 rfl 0 rfl ?_
          refine J_getR (pc := 83) C dX8_climb_83 (ci := 8) (k0 := 1) rfl iX8 (by decide) k_118 hf (fun x17 hf => ?_)
          refine J_iload_n (pc := 86) C dX8_climb_86 rfl 2 rfl ?_
          refine J_iald (pc := 87) C dX8_climb_87 hf (fun x18 hf => ?_)
          refine J_istore_n (pc := 88) C dX8_climb_88 rfl (by decide) hf (fun q => [(2, .int q), (0, .ref v0), (1, .int v1), (3, .int v3)]) (fun _ => rfl) (fun x19 hf => ?_)
          refine J_iinc (pc := 89) C dX8_climb_89 3 rfl (y := v3 + 1) rfl (by decide) hf (fun q => [(3, .int q), (2, .int x19), (0, .ref v0), (1, .int v1)]) (fun _ => rfl) (fun x20 hf => ?_)
          refine J_goto (pc := 92) C dX8_climb_92 (tgt := 49) (by decide) ?_
          refine J_sub [2, 3, 1, 0] (L1 := [(0, .ref v0), (1, .int v1), (2, .int x19), (3, .int x20)]) rfl ?_
          exact ih w16 v0 v1 x19 x20 hf
  have B32 : ∀ (n : Nat) (w : MW) (v0 : Nat) (v1 : Int32), f_X8_climb_32 fu n w v0 v1 = some w' → JW p l e rmX8_climb s m args below meth c 4 D dA A E (MQ below (Qr D dA E none w' A) args s 0 0 A) 0 0 32 [(0, .ref v0), (1, .int v1)] [] w := by
    intro n
    induction n with
    | zero => intro w v0 v1 hf; rw [f_X8_climb_32] at hf; cases hf
    | succ n ih =>
      intro w v0 v1 hf
      rw [f_X8_climb_32] at hf
      refine J_iload_n (pc := 32) C dX8_climb_32 rfl 1 rfl ?_
      refine J_aload_n (pc := 33) C dX8_climb_33 rfl 0 rfl ?_
      refine J_getI (pc := 34) C dX8_climb_34 (ci := 8) (k0 := 7) rfl iX8 (by decide) k_124 hf (fun x4 hf => ?_)
      refine J_icmp_ge (pc := 37) C dX8_climb_37 (tgt := 101) (by decide) hf (fun _ hf => ?_) (fun _ hf => ?_)
      · exact J_vret (pc := 101) C rfl dX8_climb_101 hf
      · refine J_aload_n (pc := 40) C dX8_climb_40 rfl 0 rfl ?_
        refine J_getR (pc := 41) C dX8_climb_41 (ci := 8) (k0 := 1) rfl iX8 (by decide) k_118 hf (fun x5 hf => ?_)
        refine J_iload_n (pc := 44) C dX8_climb_44 rfl 1 rfl ?_
        refine J_iald (pc := 45) C dX8_climb_45 hf (fun x6 hf => ?_)
        refine J_istore_n (pc := 46) C dX8_climb_46 rfl (by decide) hf (fun q => [(2, .int q), (0, .ref v0), (1, .int v1)]) (fun _ => rfl) (fun x7 hf => ?_)
        refine J_iconst (pc := 47) C dX8_climb_47 (v := 0) (by decide) ?_
        refine J_istore_n (pc := 48) C dX8_climb_48 rfl (by decide) hf (fun q => [(3, .int q), (2, .int x7), (0, .ref v0), (1, .int v1)]) (fun _ => rfl) (fun x8 hf => ?_)
        refine J_sub [2, 3, 1, 0] (L1 := [(0, .ref v0), (1, .int v1), (2, .int x7), (3, .int x8)]) rfl ?_
        exact B49 (f_X8_climb_32 fu n) ih fu w v0 v1 x7 x8 hf
  have B2 : ∀ (n : Nat) (w : MW) (v0 : Nat) (v1 : Int32), f_X8_climb_2 fu n w v0 v1 = some w' → JW p l e rmX8_climb s m args below meth c 4 D dA A E (MQ below (Qr D dA E none w' A) args s 0 0 A) 0 0 2 [(0, .ref v0), (1, .int v1)] [] w := by
    intro n
    induction n with
    | zero => intro w v0 v1 hf; rw [f_X8_climb_2] at hf; cases hf
    | succ n ih =>
      intro w v0 v1 hf
      rw [f_X8_climb_2] at hf
      refine J_iload_n (pc := 2) C dX8_climb_2 rfl 1 rfl ?_
      refine J_aload_n (pc := 3) C dX8_climb_3 rfl 0 rfl ?_
      refine J_getI (pc := 4) C dX8_climb_4 (ci := 8) (k0 := 7) rfl iX8 (by decide) k_124 hf (fun x2 hf => ?_)
      refine J_icmp_ge (pc := 7) C dX8_climb_7 (tgt := 30) (by decide) hf (fun _ hf => ?_) (fun _ hf => ?_)
      · refine J_iconst (pc := 30) C dX8_climb_30 (v := 0) (by decide) ?_
        refine J_istore_n (pc := 31) C dX8_climb_31 rfl (by decide) hf (fun q => [(1, .int q), (0, .ref v0)]) (fun _ => rfl) (fun x3 hf => ?_)
        refine J_sub [1, 0] (L1 := [(0, .ref v0), (1, .int x3)]) rfl ?_
        exact B32 fu w v0 x3 hf
      · refine J_aload_n (pc := 10) C dX8_climb_10 rfl 0 rfl ?_
        refine J_getR (pc := 11) C dX8_climb_11 (ci := 8) (k0 := 4) rfl iX8 (by decide) k_121 hf (fun x21 hf => ?_)
        refine J_iload_n (pc := 14) C dX8_climb_14 rfl 1 rfl ?_
        refine J_iconst (pc := 15) C dX8_climb_15 (v := 0) (by decide) ?_
        refine J_iast (pc := 16) C dX8_climb_16 hf (fun w22 hf => ?_)
        refine J_aload_n (pc := 17) C dX8_climb_17 rfl 0 rfl ?_
        refine J_getR (pc := 18) C dX8_climb_18 (ci := 8) (k0 := 5) rfl iX8 (by decide) k_122 hf (fun x23 hf => ?_)
        refine J_iload_n (pc := 21) C dX8_climb_21 rfl 1 rfl ?_
        refine J_iconst (pc := 22) C dX8_climb_22 (v := 0) (by decide) ?_
        refine J_iast (pc := 23) C dX8_climb_23 hf (fun w24 hf => ?_)
        refine J_iinc (pc := 24) C dX8_climb_24 1 rfl (y := v1 + 1) rfl (by decide) hf (fun q => [(1, .int q), (0, .ref v0)]) (fun _ => rfl) (fun x25 hf => ?_)
        refine J_goto (pc := 27) C dX8_climb_27 (tgt := 2) (by decide) ?_
        refine J_sub [1, 0] (L1 := [(0, .ref v0), (1, .int x25)]) rfl ?_
        exact ih w24 v0 x25 hf
  rw [f_X8_climb] at hf
  refine J_sub [0] (L1 := [(0, .ref v0)]) rfl ?_
  refine J_iconst (pc := 0) C dX8_climb_0 (v := 0) (by decide) ?_
  refine J_istore_n (pc := 1) C dX8_climb_1 rfl (by decide) hf (fun q => [(1, .int q), (0, .ref v0)]) (fun _ => rfl) (fun x1 hf => ?_)
  refine J_sub [1, 0] (L1 := [(0, .ref v0), (1, .int x1)]) rfl ?_
  exact B2 fu w v0 x1 hf
set_option maxRecDepth 100000 in
set_option maxHeartbeats 4000000 in
theorem c_X8_grow {l : Launch} {D : va_G} {dA : FieldType → ClassId} (fu : Nat) (w : MW) (v0 : Nat) (v1 : Nat) (v2 : Int32) (v3 : Int32) {w' : MW} (hf : f_X8_grow fu w v0 v1 v2 v3 = some w') : CT l D dA yX8_grow cX8_grow 7 none rmX8_grow [.ref v0, .ref v1, .int v2, .int v3] w none w' := by
  refine J_met (by decide) rfl (Nat.le_of_ble_eq_true rfl) (fun p e s m args below meth c A E C => ?_)
  have B84 : ∀ (w : MW) (v0 : Nat), f_X8_grow_84 fu w v0 = some w' → JW p l e rmX8_grow s m args below meth c 7 D dA A E (MQ below (Qr D dA E none w' A) args s 0 0 A) 0 0 84 [(0, .ref v0)] [] w := by
    intro w v0 hf
    rw [f_X8_grow_84] at hf
    refine J_aload_n (pc := 84) C dX8_grow_84 rfl 0 rfl ?_
    obtain ⟨q5, h6, hf⟩ := bind_ok hf
    obtain ⟨_, g7, h6⟩ := cl_spec h6
    refine J_cV (S := []) (pc := 85) C dX8_grow_85 (c_X8_link _ _ _ h6) k_766 ys_X8_link ⟨Nat.le_of_ble_eq_true rfl, Nat.le_of_ble_eq_true rfl⟩ ⟨Nat.le_of_ble_eq_true rfl, Nat.le_of_ble_eq_true rfl⟩ g7 rfl rfl (fun _ => Nat.le_of_ble_eq_true rfl) ?_
    refine J_aload_n (pc := 88) C dX8_grow_88 rfl 0 rfl ?_
    obtain ⟨q8, h9, hf⟩ := bind_ok hf
    obtain ⟨_, g10, h9⟩ := cl_spec h9
    refine J_cV (S := []) (pc := 89) C dX8_grow_89 (c_X8_climb _ _ _ h9) k_775 ys_X8_climb ⟨Nat.le_of_ble_eq_true rfl, Nat.le_of_ble_eq_true rfl⟩ ⟨Nat.le_of_ble_eq_true rfl, Nat.le_of_ble_eq_true rfl⟩ g10 rfl rfl (fun _ => Nat.le_of_ble_eq_true rfl) ?_
    exact J_vret (pc := 92) C rfl dX8_grow_92 hf
  have B68 : ∀ (lr20 : MW → Nat → Nat → Int32 → Int32 → Int32 → Int32 → Option MW) (lh20 : ∀ (w : MW) (v0 : Nat) (v1 : Nat) (v2 : Int32) (v3 : Int32) (v4 : Int32) (v5 : Int32), lr20 w v0 v1 v2 v3 v4 v5 = some w' → JW p l e rmX8_grow s m args below meth c 7 D dA A E (MQ below (Qr D dA E none w' A) args s 0 0 A) 0 0 20 [(0, .ref v0), (1, .ref v1), (2, .int v2), (3, .int v3), (4, .int v4), (5, .int v5)] [] w) (w : MW) (v0 : Nat) (v1 : Nat) (v2 : Int32) (v3 : Int32) (v4 : Int32) (v5 : Int32), f_X8_grow_68 fu lr20 w v0 v1 v2 v3 v4 v5 = some w' → JW p l e rmX8_grow s m args below meth c 7 D dA A E (MQ below (Qr D dA E none w' A) args s 0 0 A) 0 0 68 [(0, .ref v0), (1, .ref v1), (2, .int v2), (3, .int v3), (4, .int v4), (5, .int v5)] [] w := by
    intro lr20 lh20 w v0 v1 v2 v3 v4 v5 hf
    rw [f_X8_grow_68] at hf
    refine J_iinc (pc := 68) C dX8_grow_68 5 rfl (y := v5 + 1) rfl (by decide) hf (fun q => [(5, .int q), (0, .ref v0), (1, .ref v1), (2, .int v2), (3, .int v3), (4, .int v4)]) (fun _ => rfl) (fun x18 hf => ?_)
    refine J_goto (pc := 71) C dX8_grow_71 (tgt := 20) (by decide) ?_
    refine J_sub [1, 2, 3, 4, 5, 0] (L1 := [(0, .ref v0), (1, .ref v1), (2, .int v2), (3, .int v3), (4, .int v4), (5, .int x18)]) rfl ?_
    exact lh20 w v0 v1 v2 v3 v4 x18 hf
  have B56 : ∀ (lr20 : MW → Nat → Nat → Int32 → Int32 → Int32 → Int32 → Option MW) (lh20 : ∀ (w : MW) (v0 : Nat) (v1 : Nat) (v2 : Int32) (v3 : Int32) (v4 : Int32) (v5 : Int32), lr20 w v0 v1 v2 v3 v4 v5 = some w' → JW p l e rmX8_grow s m args below meth c 7 D dA A E (MQ below (Qr D dA E none w' A) args s 0 0 A) 0 0 20 [(0, .ref v0), (1, .ref v1), (2, .int v2), (3, .int v3), (4, .int v4), (5, .int v5)] [] w) (w : MW) (v0 : Nat) (v1 : Nat) (v2 : Int32) (v3 : Int32) (v4 : Int32) (v5 : Int32) (v6 : Int32), f_X8_grow_56 fu lr20 w v0 v1 v2 v3 v4 v5 v6 = some w' → JW p l e rmX8_grow s m args below meth c 7 D dA A E (MQ below (Qr D dA E none w' A) args s 0 0 A) 0 0 56 [(0, .ref v0), (1, .ref v1), (2, .int v2), (3, .int v3), (4, .int v4), (5, .int v5), (6, .int v6)] [] w := by
    intro lr20 lh20 w v0 v1 v2 v3 v4 v5 v6 hf
    rw [f_X8_grow_56] at hf
    refine J_iload (pc := 56) C dX8_grow_56 6 rfl ?_
    refine J_iload_n (pc := 58) C dX8_grow_58 rfl 3 rfl ?_
    refine J_icmp_eq (pc := 59) C dX8_grow_59 (tgt := 68) (by decide) hf (fun _ hf => ?_) (fun _ hf => ?_)
    · refine J_sub [0, 1, 2, 3, 4, 5] (L1 := [(0, .ref v0), (1, .ref v1), (2, .int v2), (3, .int v3), (4, .int v4), (5, .int v5)]) rfl ?_
      exact B68 lr20 lh20 w v0 v1 v2 v3 v4 v5 hf
    · refine J_aload_n (pc := 62) C dX8_grow_62 rfl 0 rfl ?_
      refine J_iload (pc := 63) C dX8_grow_63 6 rfl ?_
      obtain ⟨q19, h20, hf⟩ := bind_ok hf
      obtain ⟨_, g21, h20⟩ := cl_spec h20
      refine J_cV (S := []) (pc := 65) C dX8_grow_65 (c_X8_addKey _ _ _ h20) k_762 ys_X8_addKey ⟨Nat.le_of_ble_eq_true rfl, Nat.le_of_ble_eq_true rfl⟩ ⟨Nat.le_of_ble_eq_true rfl, Nat.le_of_ble_eq_true rfl⟩ g21 rfl rfl (fun _ => Nat.le_of_ble_eq_true rfl) ?_
      refine J_sub [0, 1, 2, 3, 4, 5] (L1 := [(0, .ref v0), (1, .ref v1), (2, .int v2), (3, .int v3), (4, .int v4), (5, .int v5)]) rfl ?_
      exact B68 lr20 lh20 q19 v0 v1 v2 v3 v4 v5 hf
  have B20 : ∀ (n : Nat) (w : MW) (v0 : Nat) (v1 : Nat) (v2 : Int32) (v3 : Int32) (v4 : Int32) (v5 : Int32), f_X8_grow_20 fu n w v0 v1 v2 v3 v4 v5 = some w' → JW p l e rmX8_grow s m args below meth c 7 D dA A E (MQ below (Qr D dA E none w' A) args s 0 0 A) 0 0 20 [(0, .ref v0), (1, .ref v1), (2, .int v2), (3, .int v3), (4, .int v4), (5, .int v5)] [] w := by
    intro n
    induction n with
    | zero => intro w v0 v1 v2 v3 v4 v5 hf; rw [f_X8_grow_20] at hf; cases hf
    | succ n ih =>
      intro w v0 v1 v2 v3 v4 v5 hf
      rw [f_X8_grow_20] at hf
      refine J_iload (pc := 20) C dX8_grow_20 5 rfl ?_
      refine J_aload_n (pc := 22) C dX8_grow_22 rfl 1 rfl ?_
      refine J_getIN (pc := 23) C dX8_grow_23 (ci := 0) (k0 := 1) rfl iX0 (by decide) n_184 hf (fun x4 hf => ?_)
      refine J_icmp_ge (pc := 26) C dX8_grow_26 (tgt := 74) (by decide) hf (fun _ hf => ?_) (fun _ hf => ?_)
      · refine J_iload (pc := 74) C dX8_grow_74 4 rfl ?_
        refine J_if_eq (pc := 76) C dX8_grow_76 (tgt := 84) (by decide) hf (fun _ hf => ?_) (fun _ hf => ?_)
        · refine J_sub [0] (L1 := [(0, .ref v0)]) rfl ?_
          exact B84 w v0 hf
        · refine J_aload_n (pc := 79) C dX8_grow_79 rfl 0 rfl ?_
          refine J_iload_n (pc := 80) C dX8_grow_80 rfl 2 rfl ?_
          obtain ⟨q11, h12, hf⟩ := bind_ok hf
          obtain ⟨_, g13, h12⟩ := cl_spec h12
          refine J_cV (S := []) (pc := 81) C dX8_grow_81 (c_X8_addKey _ _ _ h12) k_762 ys_X8_addKey ⟨Nat.le_of_ble_eq_true rfl, Nat.le_of_ble_eq_true rfl⟩ ⟨Nat.le_of_ble_eq_true rfl, Nat.le_of_ble_eq_true rfl⟩ g13 rfl rfl (fun _ => Nat.le_of_ble_eq_true rfl) ?_
          refine J_sub [0] (L1 := [(0, .ref v0)]) rfl ?_
          exact B84 q11 v0 hf
      · refine J_aload_n (pc := 29) C dX8_grow_29 rfl 1 rfl ?_
        refine J_iload (pc := 30) C dX8_grow_30 5 rfl ?_
        obtain ⟨q14, h15, hf⟩ := bind_ok hf
        obtain ⟨_, g16, h15⟩ := cl_spec h15
        refine J_cV (S := []) (pc := 32) C dX8_grow_32 (c_X0_keyAt _ _ _ h15) k_761 ys_X0_keyAt ⟨Nat.le_of_ble_eq_true rfl, Nat.le_of_ble_eq_true rfl⟩ ⟨Nat.le_of_ble_eq_true rfl, Nat.le_of_ble_eq_true rfl⟩ g16 rfl rfl (fun _ => Nat.le_of_ble_eq_true rfl) ?_
        refine J_istore (pc := 35) C dX8_grow_35 (by decide) hf (fun q => [(6, .int q), (0, .ref v0), (1, .ref v1), (2, .int v2), (3, .int v3), (4, .int v4), (5, .int v5)]) (fun _ => rfl) (fun x17 hf => ?_)
        refine J_iload (pc := 37) C dX8_grow_37 5 rfl ?_
        refine J_if_eq (pc := 39) C dX8_grow_39 (tgt := 56) (by decide) hf (fun _ hf => ?_) (fun _ hf => ?_)
        · refine J_sub [1, 2, 3, 4, 5, 6, 0] (L1 := [(0, .ref v0), (1, .ref v1), (2, .int v2), (3, .int v3), (4, .int v4), (5, .int v5), (6, .int x17)]) rfl ?_
          exact B56 (f_X8_grow_20 fu n) ih w v0 v1 v2 v3 v4 v5 x17 hf
        · refine J_iload_n (pc := 42) C dX8_grow_42 rfl 3 rfl ?_
          refine J_iload (pc := 43) C dX8_grow_43 0 rfl ?_
          refine J_icmp_ge (pc := 45) C dX8_grow_45 (tgt := 56) (by decide) hf (fun _ hf => ?_) (fun _ hf => ?_)
          · refine J_sub [1, 2, 3, 4, 5, 6, 0] (L1 := [(0, .ref v0), (1, .ref v1), (2, .int v2), (3, .int v3), (4, .int v4), (5, .int v5), (6, .int x17)]) rfl ?_
            exact B56 (f_X8_grow_20 fu n) ih w v0 v1 v2 v3 v4 v5 x17 hf
          · refine J_aload_n (pc := 48) C dX8_grow_48 rfl 1 rfl ?_
            refine J_iload_n (pc := 49) C dX8_grow_49 rfl 3 rfl ?_
            obtain ⟨q22, h23, hf⟩ := bind_ok hf
            obtain ⟨_, g24, h23⟩ := cl_spec h23
            refine J_cV (S := []) (pc := 50) C dX8_grow_50 (c_X8_addKey _ _ _ h23) k_762 ys_X8_addKey ⟨Nat.le_of_ble_eq_true rfl, Nat.le_of_ble_eq_true rfl⟩ ⟨Nat.le_of_ble_eq_true rfl, Nat.le_of_ble_eq_true rfl⟩ g24 rfl rfl (fun _ => Nat.le_of_ble_eq_true rfl) ?_
            refine J_iconst (pc := 53) C dX8_grow_53 (v := 0) (by decide) ?_
            refine J_istore (pc := 54) C dX8_grow_54 (by decide) hf (fun q => [(4, .int q), (6, .int x17), (0, .ref v0), (1, .ref v1), (2, .int v2), (3, .int v3), (5, .int v5)]) (fun _ => rfl) (fun x25 hf => ?_)
            refine J_sub [2, 3, 4, 5, 0, 6, 1] (L1 := [(0, .ref v0), (1, .ref v1), (2, .int v2), (3, .int v3), (4, .int x25), (5, .int v5), (6, .int x17)]) rfl ?_
            exact B56 (f_X8_grow_20 fu n) ih q22 v0 v1 v2 v3 x25 v5 x17 hf
  rw [f_X8_grow] at hf
  refine J_sub [0, 1, 2, 3] (L1 := [(0, .ref v0), (1, .ref v1), (2, .int v2), (3, .int v3)]) rfl ?_
  refine J_aload_n (pc := 0) C dX8_grow_0 rfl 0 rfl ?_
  refine J_iconst (pc := 1) C dX8_grow_1 (v := 0) (by decide) ?_
  refine J_put (pc := 2) C dX8_grow_2 (ci := 8) (k0 := 7) rfl iX8 tyX8 tyX8_ok nmX8 (by decide) k_124 rfl (ty := .int) (by decide +kernel) (fun _ => rfl) (fun _ => rfl) hf (fun w1 hf => ?_)
  refine J_iload_n (pc := 5) C dX8_grow_5 rfl 2 rfl ?_
  refine J_iconst (pc := 6) C dX8_grow_6 (v := -1) (by decide) ?_
  refine J_icmp_eq (pc := 7) C dX8_grow_7 (tgt := 14) (by decide) hf (fun _ hf => ?_) (fun _ hf => ?_)
  · refine J_iconst (pc := 14) C dX8_grow_14 (v := 0) (by decide) ?_
    refine J_istore (pc := 15) C dX8_grow_15 (by decide) hf (fun q => [(4, .int q), (0, .ref v0), (1, .ref v1), (2, .int v2), (3, .int v3)]) (fun _ => rfl) (fun x2 hf => ?_)
    refine J_iconst (pc := 17) C dX8_grow_17 (v := 0) (by decide) ?_
    refine J_istore (pc := 18) C dX8_grow_18 (by decide) hf (fun q => [(5, .int q), (4, .int x2), (0, .ref v0), (1, .ref v1), (2, .int v2), (3, .int v3)]) (fun _ => rfl) (fun x3 hf => ?_)
    refine J_sub [2, 3, 4, 5, 1, 0] (L1 := [(0, .ref v0), (1, .ref v1), (2, .int v2), (3, .int v3), (4, .int x2), (5, .int x3)]) rfl ?_
    exact B20 fu w1 v0 v1 v2 v3 x2 x3 hf
  · refine J_iconst (pc := 10) C dX8_grow_10 (v := 1) (by decide) ?_
    refine J_goto (pc := 11) C dX8_grow_11 (tgt := 15) (by decide) ?_
    refine J_istore (pc := 15) C dX8_grow_15 (by decide) hf (fun q => [(4, .int q), (0, .ref v0), (1, .ref v1), (2, .int v2), (3, .int v3)]) (fun _ => rfl) (fun x26 hf => ?_)
    refine J_iconst (pc := 17) C dX8_grow_17 (v := 0) (by decide) ?_
    refine J_istore (pc := 18) C dX8_grow_18 (by decide) hf (fun q => [(5, .int q), (4, .int x26), (0, .ref v0), (1, .ref v1), (2, .int v2), (3, .int v3)]) (fun _ => rfl) (fun x27 hf => ?_)
    refine J_sub [2, 3, 4, 5, 1, 0] (L1 := [(0, .ref v0), (1, .ref v1), (2, .int v2), (3, .int v3), (4, .int x26), (5, .int x27)]) rfl ?_
    exact B20 fu w1 v0 v1 v2 v3 x26 x27 hf
set_option maxRecDepth 100000 in
set_option maxHeartbeats 4000000 in
theorem c_X7_treeOf {l : Launch} {D : va_G} {dA : FieldType → ClassId} (fu : Nat) (w : MW) (v0 : Nat) (v1 : Nat) {rr : Nat} {w' : MW} (hf : f_X7_treeOf fu w v0 v1 = some (rr, w')) : CT l D dA yX7_treeOf cX7_treeOf 2 (some (.object "MeltingHeaps$Tree")) rmX7_treeOf [.ref v0, .ref v1] w (some (.ref rr)) w' := by
  refine J_met (by decide) rfl (Nat.le_of_ble_eq_true rfl) (fun p e s m args below meth c A E C => ?_)
  rw [f_X7_treeOf] at hf
  refine J_sub [0, 1] (L1 := [(0, .ref v0), (1, .ref v1)]) rfl ?_
  refine J_aload_n (pc := 0) C dX7_treeOf_0 rfl 0 rfl ?_
  refine J_getR (pc := 1) C dX7_treeOf_1 (ci := 7) (k0 := 1) rfl iX7 (by decide) k_215 hf (fun x1 hf => ?_)
  refine J_aload_n (pc := 4) C dX7_treeOf_4 rfl 1 rfl ?_
  refine J_iconst (pc := 5) C dX7_treeOf_5 (v := -1) (by decide) ?_
  refine J_iconst (pc := 6) C dX7_treeOf_6 (v := -1) (by decide) ?_
  obtain ⟨q2, h3, hf⟩ := bind_ok hf
  obtain ⟨_, g4, h3⟩ := cl_spec h3
  refine J_cV (S := []) (pc := 7) C dX7_treeOf_7 (c_X8_grow _ _ _ _ _ _ h3) k_757 ys_X8_grow ⟨Nat.le_of_ble_eq_true rfl, Nat.le_of_ble_eq_true rfl⟩ ⟨Nat.le_of_ble_eq_true rfl, Nat.le_of_ble_eq_true rfl⟩ g4 rfl rfl (fun _ => Nat.le_of_ble_eq_true rfl) ?_
  refine J_aload_n (pc := 10) C dX7_treeOf_10 rfl 0 rfl ?_
  refine J_getR (pc := 11) C dX7_treeOf_11 (ci := 7) (k0 := 1) rfl iX7 (by decide) k_215 hf (fun x5 hf => ?_)
  exact J_aret (pc := 14) C rfl (Or.inl ⟨_, rfl⟩) dX7_treeOf_14 hf
set_option maxRecDepth 100000 in
set_option maxHeartbeats 4000000 in
theorem c_X7_weaveOf {l : Launch} {D : va_G} {dA : FieldType → ClassId} (fu : Nat) (w : MW) (v0 : Nat) (v1 : Nat) (v2 : Nat) {rr : Nat} {w' : MW} (hf : f_X7_weaveOf fu w v0 v1 v2 = some (rr, w')) : CT l D dA yX7_weaveOf cX7_weaveOf 3 (some (.object "MeltingHeaps$Weave")) rmX7_weaveOf [.ref v0, .ref v1, .ref v2] w (some (.ref rr)) w' := by
  refine J_met (by decide) rfl (Nat.le_of_ble_eq_true rfl) (fun p e s m args below meth c A E C => ?_)
  rw [f_X7_weaveOf] at hf
  refine J_sub [0, 1, 2] (L1 := [(0, .ref v0), (1, .ref v1), (2, .ref v2)]) rfl ?_
  refine J_aload_n (pc := 0) C dX7_weaveOf_0 rfl 0 rfl ?_
  refine J_getR (pc := 1) C dX7_weaveOf_1 (ci := 7) (k0 := 2) rfl iX7 (by decide) k_217 hf (fun x1 hf => ?_)
  refine J_aload_n (pc := 4) C dX7_weaveOf_4 rfl 1 rfl ?_
  refine J_aload_n (pc := 5) C dX7_weaveOf_5 rfl 2 rfl ?_
  obtain ⟨q2, h3, hf⟩ := bind_ok hf
  obtain ⟨_, g4, h3⟩ := cl_spec h3
  refine J_cV (S := []) (pc := 6) C dX7_weaveOf_6 (c_X9_weave _ _ _ _ _ h3) k_632 ys_X9_weave ⟨Nat.le_of_ble_eq_true rfl, Nat.le_of_ble_eq_true rfl⟩ ⟨Nat.le_of_ble_eq_true rfl, Nat.le_of_ble_eq_true rfl⟩ g4 rfl rfl (fun _ => Nat.le_of_ble_eq_true rfl) ?_
  refine J_aload_n (pc := 9) C dX7_weaveOf_9 rfl 0 rfl ?_
  refine J_getR (pc := 10) C dX7_weaveOf_10 (ci := 7) (k0 := 2) rfl iX7 (by decide) k_217 hf (fun x5 hf => ?_)
  exact J_aret (pc := 13) C rfl (Or.inl ⟨_, rfl⟩) dX7_weaveOf_13 hf
set_option maxRecDepth 100000 in
set_option maxHeartbeats 4000000 in
theorem c_X7_dropKey {l : Launch} {D : va_G} {dA : FieldType → ClassId} (fu : Nat) (w : MW) (v0 : Nat) (v1 : Int32) (v2 : Int32) {rr : Int32} {w' : MW} (hf : f_X7_dropKey fu w v0 v1 v2 = some (rr, w')) : CT l D dA yX7_dropKey cX7_dropKey 5 (some .int) rmX7_dropKey [.ref v0, .int v1, .int v2] w (some (.int rr)) w' := by
  refine J_met (by decide) rfl (Nat.le_of_ble_eq_true rfl) (fun p e s m args below meth c A E C => ?_)
  rw [f_X7_dropKey] at hf
  refine J_sub [0, 1, 2] (L1 := [(0, .ref v0), (1, .int v1), (2, .int v2)]) rfl ?_
  refine J_aload_n (pc := 0) C dX7_dropKey_0 rfl 0 rfl ?_
  refine J_iload_n (pc := 1) C dX7_dropKey_1 rfl 1 rfl ?_
  obtain ⟨q1, h2, hf⟩ := bind_ok hf
  obtain ⟨_, g3, h2⟩ := cl_spec h2
  refine J_cV (S := []) (pc := 2) C dX7_dropKey_2 (c_X7_heapAt _ _ _ h2) k_559 ys_X7_heapAt ⟨Nat.le_of_ble_eq_true rfl, Nat.le_of_ble_eq_true rfl⟩ ⟨Nat.le_of_ble_eq_true rfl, Nat.le_of_ble_eq_true rfl⟩ g3 rfl rfl (fun _ => Nat.le_of_ble_eq_true rfl) ?_
  cases q1 with
  | none =>
    refine J_astore_nN (pc := 5) C dX7_dropKey_5 rfl (by decide) [(3, .null), (0, .ref v0), (1, .int v1), (2, .int v2)] rfl ?_
    refine J_aload_nN (pc := 6) C dX7_dropKey_6 rfl 0 rfl ?_
    refine J_ifnullN (pc := 7) C dX7_dropKey_7 (tgt := 17) (by decide) ?_
    refine J_iconst (pc := 17) C dX7_dropKey_17 (v := -1) (by decide) ?_
    exact J_iret (pc := 18) C  rfl rfl dX7_dropKey_18 hf
  | some b4 =>
    refine J_astore_n (pc := 5) C dX7_dropKey_5 rfl (by decide) [(3, .ref b4), (0, .ref v0), (1, .int v1), (2, .int v2)] rfl ?_
    refine J_aload_n (pc := 6) C dX7_dropKey_6 rfl 0 rfl ?_
    refine J_ifnull (pc := 7) C dX7_dropKey_7 ?_
    refine J_iload_n (pc := 10) C dX7_dropKey_10 rfl 3 rfl ?_
    refine J_cSN (S := []) (pc := 11) C dX7_dropKey_11 (c_X10_isKey _ _ rfl) n_563 ys_X10_isKey ⟨Nat.le_of_ble_eq_true rfl, Nat.le_of_ble_eq_true rfl⟩ ⟨Nat.le_of_ble_eq_true rfl, Nat.le_of_ble_eq_true rfl⟩ rfl rfl (fun _ => Nat.le_of_ble_eq_true rfl) ?_
    refine J_if_ne (pc := 14) C dX7_dropKey_14 (tgt := 19) (by decide) hf (fun _ hf => ?_) (fun _ hf => ?_)
    · refine J_aload_n (pc := 19) C dX7_dropKey_19 rfl 0 rfl ?_
      refine J_iload_n (pc := 20) C dX7_dropKey_20 rfl 3 rfl ?_
      obtain ⟨q5, h6, hf⟩ := bind_ok hf
      obtain ⟨_, g7, h6⟩ := cl_spec h6
      refine J_cV (S := []) (pc := 21) C dX7_dropKey_21 (c_X0_rankOf _ _ _ _ h6) k_566 ys_X0_rankOf ⟨Nat.le_of_ble_eq_true rfl, Nat.le_of_ble_eq_true rfl⟩ ⟨Nat.le_of_ble_eq_true rfl, Nat.le_of_ble_eq_true rfl⟩ g7 rfl rfl (fun _ => Nat.le_of_ble_eq_true rfl) ?_
      refine J_istore (pc := 24) C dX7_dropKey_24 (by decide) hf (fun q => [(4, .int q), (3, .ref b4), (0, .ref v0), (1, .int v1), (2, .int v2)]) (fun _ => rfl) (fun x8 hf => ?_)
      refine J_iload (pc := 26) C dX7_dropKey_26 0 rfl ?_
      refine J_iconst (pc := 28) C dX7_dropKey_28 (v := -1) (by decide) ?_
      refine J_icmp_ne (pc := 29) C dX7_dropKey_29 (tgt := 35) (by decide) hf (fun _ hf => ?_) (fun _ hf => ?_)
      · refine J_aload_n (pc := 35) C dX7_dropKey_35 rfl 1 rfl ?_
        refine J_iload (pc := 36) C dX7_dropKey_36 0 rfl ?_
        refine J_iconst (pc := 38) C dX7_dropKey_38 (v := 1) (by decide) ?_
        obtain ⟨q9, h10, hf⟩ := bind_ok hf
        obtain ⟨_, g11, h10⟩ := cl_spec h10
        refine J_cV (S := []) (pc := 39) C dX7_dropKey_39 (c_X0_closeGap _ _ _ _ h10) k_713 ys_X0_closeGap ⟨Nat.le_of_ble_eq_true rfl, Nat.le_of_ble_eq_true rfl⟩ ⟨Nat.le_of_ble_eq_true rfl, Nat.le_of_ble_eq_true rfl⟩ g11 rfl rfl (fun _ => Nat.le_of_ble_eq_true rfl) ?_
        refine J_aload_n (pc := 42) C dX7_dropKey_42 rfl 1 rfl ?_
        refine J_getIN (pc := 43) C dX7_dropKey_43 (ci := 0) (k0 := 1) rfl iX0 (by decide) n_186 hf (fun x12 hf => ?_)
        exact J_iret (pc := 46) C  rfl rfl dX7_dropKey_46 hf
      · refine J_bipush (pc := 32) C dX7_dropKey_32 (v := -2) (by decide) ?_
        exact J_iret (pc := 34) C  rfl rfl dX7_dropKey_34 hf
    · refine J_iconst (pc := 17) C dX7_dropKey_17 (v := -1) (by decide) ?_
      exact J_iret (pc := 18) C  rfl rfl dX7_dropKey_18 hf
set_option maxRecDepth 100000 in
set_option maxHeartbeats 4000000 in
theorem c_X8_isNode {l : Launch} {D : va_G} {dA : FieldType → ClassId} (w : MW) (v0 : Nat) (v1 : Int32) {rr : Int32} (hf : f_X8_isNode w v0 v1 = some rr) : CT l D dA yX8_isNode cX8_isNode 2 (some .boolean) rmX8_isNode [.ref v0, .int v1] w (some (.int rr)) w := by
  refine J_met (by decide) rfl (Nat.le_of_ble_eq_true rfl) (fun p e s m args below meth c A E C => ?_)
  rw [f_X8_isNode] at hf
  refine J_sub [0, 1] (L1 := [(0, .ref v0), (1, .int v1)]) rfl ?_
  refine J_iload_n (pc := 0) C dX8_isNode_0 rfl 1 rfl ?_
  refine J_if_lt (pc := 1) C dX8_isNode_1 (tgt := 16) (by decide) hf (fun _ hf => ?_) (fun _ hf => ?_)
  · refine J_iconst (pc := 16) C dX8_isNode_16 (v := 0) (by decide) ?_
    exact J_iretP (pc := 17) C  rfl (by decide) dX8_isNode_17 hf
  · refine J_iload_n (pc := 4) C dX8_isNode_4 rfl 1 rfl ?_
    refine J_aload_n (pc := 5) C dX8_isNode_5 rfl 0 rfl ?_
    refine J_getI (pc := 6) C dX8_isNode_6 (ci := 8) (k0 := 7) rfl iX8 (by decide) k_124 hf (fun x1 hf => ?_)
    refine J_icmp_ge (pc := 9) C dX8_isNode_9 (tgt := 16) (by decide) hf (fun _ hf => ?_) (fun _ hf => ?_)
    · refine J_iconst (pc := 16) C dX8_isNode_16 (v := 0) (by decide) ?_
      exact J_iretP (pc := 17) C  rfl (by decide) dX8_isNode_17 hf
    · refine J_iconst (pc := 12) C dX8_isNode_12 (v := 1) (by decide) ?_
      refine J_goto (pc := 13) C dX8_isNode_13 (tgt := 17) (by decide) ?_
      exact J_iretP (pc := 17) C  rfl (by decide) dX8_isNode_17 hf
set_option maxRecDepth 100000 in
set_option maxHeartbeats 4000000 in
theorem c_X8_steps {l : Launch} {D : va_G} {dA : FieldType → ClassId} (fu : Nat) (w : MW) (v0 : Nat) (v1 : Int32) (v2 : Int32) {rr : Int32} (hf : f_X8_steps fu w v0 v1 v2 = some rr) : CT l D dA yX8_steps cX8_steps 6 (some .int) rmX8_steps [.ref v0, .int v1, .int v2] w (some (.int rr)) w := by
  refine J_met (by decide) rfl (Nat.le_of_ble_eq_true rfl) (fun p e s m args below meth c A E C => ?_)
  have B39 : ∀ (n : Nat) (v0 : Nat) (v1 : Int32) (v2 : Int32) (v3 : Int32) (v4 : Int32) (v5 : Int32), f_X8_steps_39 fu w n v0 v1 v2 v3 v4 v5 = some rr → JW p l e rmX8_steps s m args below meth c 6 D dA A E (MQ below (Qr D dA E (some (.int rr)) w A) args s 0 0 A) 0 0 39 [(0, .ref v0), (1, .int v1), (2, .int v2), (3, .int v3), (4, .int v4), (5, .int v5)] [] w := by
    intro n
    induction n with
    | zero => intro v0 v1 v2 v3 v4 v5 hf; rw [f_X8_steps_39] at hf; cases hf
    | succ n ih =>
      intro v0 v1 v2 v3 v4 v5 hf
      rw [f_X8_steps_39] at hf
      refine J_iload (pc := 39) C dX8_steps_39 5 rfl ?_
      refine J_iload (pc := 41) C dX8_steps_41 4 rfl ?_
      refine J_icmp_gt (pc := 43) C dX8_steps_43 (tgt := 64) (by decide) hf (fun _ hf => ?_) (fun _ hf => ?_)
      · refine J_aload_n (pc := 64) C dX8_steps_64 rfl 0 rfl ?_
        refine J_getR (pc := 65) C dX8_steps_65 (ci := 8) (k0 := 4) rfl iX8 (by decide) k_121 hf (fun x12 hf => ?_)
        refine J_iload_n (pc := 68) C dX8_steps_68 rfl 1 rfl ?_
        refine J_iald (pc := 69) C dX8_steps_69 hf (fun x13 hf => ?_)
        refine J_aload_n (pc := 70) C dX8_steps_70 rfl 0 rfl ?_
        refine J_getR (pc := 71) C dX8_steps_71 (ci := 8) (k0 := 4) rfl iX8 (by decide) k_121 hf (fun x14 hf => ?_)
        refine J_iload_n (pc := 74) C dX8_steps_74 rfl 2 rfl ?_
        refine J_iald (pc := 75) C dX8_steps_75 hf (fun x15 hf => ?_)
        refine J_iadd (pc := 76) C dX8_steps_76 ?_
        refine J_iconst (pc := 77) C dX8_steps_77 (v := 2) (by decide) ?_
        refine J_iload_n (pc := 78) C dX8_steps_78 rfl 3 rfl ?_
        refine J_imul (pc := 79) C dX8_steps_79 ?_
        refine J_isub (pc := 80) C dX8_steps_80 ?_
        exact J_iretP (pc := 81) C  rfl rfl dX8_steps_81 hf
      · refine J_iload_n (pc := 46) C dX8_steps_46 rfl 3 rfl ?_
        refine J_aload_n (pc := 47) C dX8_steps_47 rfl 0 rfl ?_
        refine J_getR (pc := 48) C dX8_steps_48 (ci := 8) (k0 := 4) rfl iX8 (by decide) k_121 hf (fun x16 hf => ?_)
        refine J_iload (pc := 51) C dX8_steps_51 5 rfl ?_
        refine J_iald (pc := 53) C dX8_steps_53 hf (fun x17 hf => ?_)
        refine J_min (pc := 54) C dX8_steps_54 k_788 k_421 k_88 k_422 (Nat.le_of_ble_eq_true rfl) (fun _ => Nat.le_of_ble_eq_true rfl) ⟨Nat.le_of_ble_eq_true rfl, Nat.le_of_ble_eq_true rfl⟩ ?_
        refine J_istore_n (pc := 57) C dX8_steps_57 rfl (by decide) hf (fun q => [(3, .int q), (0, .ref v0), (1, .int v1), (2, .int v2), (4, .int v4), (5, .int v5)]) (fun _ => rfl) (fun x18 hf => ?_)
        refine J_iinc (pc := 58) C dX8_steps_58 5 rfl (y := v5 + 1) rfl (by decide) hf (fun q => [(5, .int q), (3, .int x18), (0, .ref v0), (1, .int v1), (2, .int v2), (4, .int v4)]) (fun _ => rfl) (fun x19 hf => ?_)
        refine J_goto (pc := 61) C dX8_steps_61 (tgt := 39) (by decide) ?_
        refine J_sub [2, 3, 4, 1, 5, 0] (L1 := [(0, .ref v0), (1, .int v1), (2, .int v2), (3, .int x18), (4, .int v4), (5, .int x19)]) rfl ?_
        exact ih v0 v1 v2 x18 v4 x19 hf
  rw [f_X8_steps] at hf
  refine J_sub [0, 1, 2] (L1 := [(0, .ref v0), (1, .int v1), (2, .int v2)]) rfl ?_
  refine J_aload_n (pc := 0) C dX8_steps_0 rfl 0 rfl ?_
  refine J_iload_n (pc := 1) C dX8_steps_1 rfl 1 rfl ?_
  obtain ⟨q1, h2, hf⟩ := bind_ok hf
  obtain ⟨_, g3, h2⟩ := cl_spec h2
  refine J_cV (S := []) (pc := 2) C dX8_steps_2 (c_X8_isNode _ _ _ h2) k_783 ys_X8_isNode ⟨Nat.le_of_ble_eq_true rfl, Nat.le_of_ble_eq_true rfl⟩ ⟨Nat.le_of_ble_eq_true rfl, Nat.le_of_ble_eq_true rfl⟩ g3 rfl rfl (fun _ => Nat.le_of_ble_eq_true rfl) ?_
  refine J_if_eq (pc := 5) C dX8_steps_5 (tgt := 16) (by decide) hf (fun _ hf => ?_) (fun _ hf => ?_)
  · refine J_iconst (pc := 16) C dX8_steps_16 (v := -1) (by decide) ?_
    exact J_iretP (pc := 17) C  rfl rfl dX8_steps_17 hf
  · refine J_aload_n (pc := 8) C dX8_steps_8 rfl 0 rfl ?_
    refine J_iload_n (pc := 9) C dX8_steps_9 rfl 2 rfl ?_
    obtain ⟨q4, h5, hf⟩ := bind_ok hf
    obtain ⟨_, g6, h5⟩ := cl_spec h5
    refine J_cV (S := []) (pc := 10) C dX8_steps_10 (c_X8_isNode _ _ _ h5) k_783 ys_X8_isNode ⟨Nat.le_of_ble_eq_true rfl, Nat.le_of_ble_eq_true rfl⟩ ⟨Nat.le_of_ble_eq_true rfl, Nat.le_of_ble_eq_true rfl⟩ g6 rfl rfl (fun _ => Nat.le_of_ble_eq_true rfl) ?_
    refine J_if_ne (pc := 13) C dX8_steps_13 (tgt := 18) (by decide) hf (fun _ hf => ?_) (fun _ hf => ?_)
    · refine J_aload_n (pc := 18) C dX8_steps_18 rfl 0 rfl ?_
      refine J_getR (pc := 19) C dX8_steps_19 (ci := 8) (k0 := 4) rfl iX8 (by decide) k_121 hf (fun x7 hf => ?_)
      refine J_iload_n (pc := 22) C dX8_steps_22 rfl 1 rfl ?_
      refine J_iald (pc := 23) C dX8_steps_23 hf (fun x8 hf => ?_)
      refine J_istore_n (pc := 24) C dX8_steps_24 rfl (by decide) hf (fun q => [(3, .int q), (0, .ref v0), (1, .int v1), (2, .int v2)]) (fun _ => rfl) (fun x9 hf => ?_)
      refine J_iload_n (pc := 25) C dX8_steps_25 rfl 2 rfl ?_
      refine J_iload_n (pc := 26) C dX8_steps_26 rfl 3 rfl ?_
      refine J_max (pc := 27) C dX8_steps_27 k_787 k_645 k_88 k_646 (Nat.le_of_ble_eq_true rfl) (fun _ => Nat.le_of_ble_eq_true rfl) ⟨Nat.le_of_ble_eq_true rfl, Nat.le_of_ble_eq_true rfl⟩ ?_
      refine J_istore (pc := 30) C dX8_steps_30 (by decide) hf (fun q => [(4, .int q), (3, .int x9), (0, .ref v0), (1, .int v1), (2, .int v2)]) (fun _ => rfl) (fun x10 hf => ?_)
      refine J_iload_n (pc := 32) C dX8_steps_32 rfl 3 rfl ?_
      refine J_iload_n (pc := 33) C dX8_steps_33 rfl 4 rfl ?_
      refine J_min (pc := 34) C dX8_steps_34 k_788 k_421 k_88 k_422 (Nat.le_of_ble_eq_true rfl) (fun _ => Nat.le_of_ble_eq_true rfl) ⟨Nat.le_of_ble_eq_true rfl, Nat.le_of_ble_eq_true rfl⟩ ?_
      refine J_istore (pc := 37) C dX8_steps_37 (by decide) hf (fun q => [(5, .int q), (4, .int x10), (3, .int x9), (0, .ref v0), (1, .int v1), (2, .int v2)]) (fun _ => rfl) (fun x11 hf => ?_)
      refine J_sub [3, 4, 5, 2, 1, 0] (L1 := [(0, .ref v0), (1, .int v1), (2, .int v2), (3, .int x9), (4, .int x10), (5, .int x11)]) rfl ?_
      exact B39 fu v0 v1 v2 x9 x10 x11 hf
    · refine J_iconst (pc := 16) C dX8_steps_16 (v := -1) (by decide) ?_
      exact J_iretP (pc := 17) C  rfl rfl dX8_steps_17 hf
set_option maxRecDepth 100000 in
set_option maxHeartbeats 4000000 in
theorem c_X7_seekFrom {l : Launch} {D : va_G} {dA : FieldType → ClassId} (fu : Nat) (w : MW) (v0 : Nat) (v1 : Int32) (v2 : Int32) {rr : Int32} {w' : MW} (hf : f_X7_seekFrom fu w v0 v1 v2 = some (rr, w')) : CT l D dA yX7_seekFrom cX7_seekFrom 6 (some .int) rmX7_seekFrom [.ref v0, .int v1, .int v2] w (some (.int rr)) w' := by
  refine J_met (by decide) rfl (Nat.le_of_ble_eq_true rfl) (fun p e s m args below meth c A E C => ?_)
  have B72 : ∀ (w : MW) (v3 : Nat) (v4 : Int32) (s0 : Int32), f_X7_seekFrom_72 fu w v3 v4 s0 = some (rr, w') → JW p l e rmX7_seekFrom s m args below meth c 6 D dA A E (MQ below (Qr D dA E (some (.int rr)) w' A) args s 0 0 A) 0 0 72 [(3, .ref v3), (4, .int v4)] [.int s0] w := by
    intro w v3 v4 s0 hf
    rw [f_X7_seekFrom_72] at hf
    refine J_istore (pc := 72) C dX7_seekFrom_72 (by decide) hf (fun q => [(5, .int q), (3, .ref v3), (4, .int v4)]) (fun _ => rfl) (fun x21 hf => ?_)
    refine J_aload_n (pc := 74) C dX7_seekFrom_74 rfl 1 rfl ?_
    refine J_aload_n (pc := 75) C dX7_seekFrom_75 rfl 1 rfl ?_
    refine J_iload (pc := 76) C dX7_seekFrom_76 2 rfl ?_
    obtain ⟨q22, h23, hf⟩ := bind_ok hf
    obtain ⟨_, g24, h23⟩ := cl_spec h23
    refine J_cV (S := [.ref v3]) (pc := 78) C dX7_seekFrom_78 (c_X0_keyAt _ _ _ h23) k_624 ys_X0_keyAt ⟨Nat.le_of_ble_eq_true rfl, Nat.le_of_ble_eq_true rfl⟩ ⟨Nat.le_of_ble_eq_true rfl, Nat.le_of_ble_eq_true rfl⟩ g24 rfl rfl (fun _ => Nat.le_of_ble_eq_true rfl) ?_
    refine J_putN (pc := 81) C dX7_seekFrom_81 (ci := 0) (k0 := 2) rfl iX0 tyX0 tyX0_ok nmX0 (by decide) n_191 rfl (ty := .int) (by decide +kernel) (fun _ => rfl) (fun _ => rfl) hf (fun w25 hf => ?_)
    refine J_iload (pc := 84) C dX7_seekFrom_84 0 rfl ?_
    exact J_iret (pc := 86) C  rfl rfl dX7_seekFrom_86 hf
  rw [f_X7_seekFrom] at hf
  refine J_sub [0, 1, 2] (L1 := [(0, .ref v0), (1, .int v1), (2, .int v2)]) rfl ?_
  refine J_aload_n (pc := 0) C dX7_seekFrom_0 rfl 0 rfl ?_
  refine J_iload_n (pc := 1) C dX7_seekFrom_1 rfl 1 rfl ?_
  obtain ⟨q1, h2, hf⟩ := bind_ok hf
  obtain ⟨_, g3, h2⟩ := cl_spec h2
  refine J_cV (S := []) (pc := 2) C dX7_seekFrom_2 (c_X7_heapAt _ _ _ h2) k_559 ys_X7_heapAt ⟨Nat.le_of_ble_eq_true rfl, Nat.le_of_ble_eq_true rfl⟩ ⟨Nat.le_of_ble_eq_true rfl, Nat.le_of_ble_eq_true rfl⟩ g3 rfl rfl (fun _ => Nat.le_of_ble_eq_true rfl) ?_
  cases q1 with
  | none =>
    refine J_astore_nN (pc := 5) C dX7_seekFrom_5 rfl (by decide) [(3, .null), (0, .ref v0), (1, .int v1), (2, .int v2)] rfl ?_
    refine J_aload_nN (pc := 6) C dX7_seekFrom_6 rfl 0 rfl ?_
    refine J_ifnullN (pc := 7) C dX7_seekFrom_7 (tgt := 17) (by decide) ?_
    refine J_iconst (pc := 17) C dX7_seekFrom_17 (v := -1) (by decide) ?_
    exact J_iret (pc := 18) C  rfl rfl dX7_seekFrom_18 hf
  | some b4 =>
    refine J_astore_n (pc := 5) C dX7_seekFrom_5 rfl (by decide) [(3, .ref b4), (0, .ref v0), (1, .int v1), (2, .int v2)] rfl ?_
    refine J_aload_n (pc := 6) C dX7_seekFrom_6 rfl 0 rfl ?_
    refine J_ifnull (pc := 7) C dX7_seekFrom_7 ?_
    refine J_iload_n (pc := 10) C dX7_seekFrom_10 rfl 3 rfl ?_
    refine J_cSN (S := []) (pc := 11) C dX7_seekFrom_11 (c_X10_isKey _ _ rfl) n_563 ys_X10_isKey ⟨Nat.le_of_ble_eq_true rfl, Nat.le_of_ble_eq_true rfl⟩ ⟨Nat.le_of_ble_eq_true rfl, Nat.le_of_ble_eq_true rfl⟩ rfl rfl (fun _ => Nat.le_of_ble_eq_true rfl) ?_
    refine J_if_ne (pc := 14) C dX7_seekFrom_14 (tgt := 19) (by decide) hf (fun _ hf => ?_) (fun _ hf => ?_)
    · refine J_aload_n (pc := 19) C dX7_seekFrom_19 rfl 0 rfl ?_
      refine J_getIN (pc := 20) C dX7_seekFrom_20 (ci := 0) (k0 := 1) rfl iX0 (by decide) n_186 hf (fun x5 hf => ?_)
      refine J_if_ne (pc := 23) C dX7_seekFrom_23 (tgt := 29) (by decide) hf (fun _ hf => ?_) (fun _ hf => ?_)
      · refine J_iconst (pc := 29) C dX7_seekFrom_29 (v := 0) (by decide) ?_
        refine J_aload_n (pc := 30) C dX7_seekFrom_30 rfl 0 rfl ?_
        refine J_iload_n (pc := 31) C dX7_seekFrom_31 rfl 3 rfl ?_
        obtain ⟨q6, h7, hf⟩ := bind_ok hf
        obtain ⟨_, g8, h7⟩ := cl_spec h7
        refine J_cV (S := [.int (0 : Int32)]) (pc := 32) C dX7_seekFrom_32 (c_X0_notAbove _ _ _ _ h7) k_607 ys_X0_notAbove ⟨Nat.le_of_ble_eq_true rfl, Nat.le_of_ble_eq_true rfl⟩ ⟨Nat.le_of_ble_eq_true rfl, Nat.le_of_ble_eq_true rfl⟩ g8 rfl rfl (fun _ => Nat.le_of_ble_eq_true rfl) ?_
        refine J_iconst (pc := 35) C dX7_seekFrom_35 (v := 1) (by decide) ?_
        refine J_isub (pc := 36) C dX7_seekFrom_36 ?_
        refine J_max (pc := 37) C dX7_seekFrom_37 k_752 k_645 k_88 k_646 (Nat.le_of_ble_eq_true rfl) (fun _ => Nat.le_of_ble_eq_true rfl) ⟨Nat.le_of_ble_eq_true rfl, Nat.le_of_ble_eq_true rfl⟩ ?_
        refine J_istore (pc := 40) C dX7_seekFrom_40 (by decide) hf (fun q => [(4, .int q), (3, .ref b4), (0, .ref v0), (1, .int v1), (2, .int v2)]) (fun _ => rfl) (fun x9 hf => ?_)
        refine J_aload_n (pc := 42) C dX7_seekFrom_42 rfl 1 rfl ?_
        refine J_getIN (pc := 43) C dX7_seekFrom_43 (ci := 0) (k0 := 2) rfl iX0 (by decide) n_191 hf (fun x10 hf => ?_)
        refine J_iconst (pc := 46) C dX7_seekFrom_46 (v := -1) (by decide) ?_
        refine J_icmp_ne (pc := 47) C dX7_seekFrom_47 (tgt := 54) (by decide) hf (fun _ hf => ?_) (fun _ hf => ?_)
        · refine J_aload_n (pc := 54) C dX7_seekFrom_54 rfl 2 rfl ?_
          refine J_aload_n (pc := 55) C dX7_seekFrom_55 rfl 1 rfl ?_
          obtain ⟨q11, h12, hf⟩ := bind_ok hf
          obtain ⟨_, g13, h12⟩ := cl_spec h12
          refine J_cV (S := []) (pc := 56) C dX7_seekFrom_56 (c_X7_treeOf _ _ _ _ h12) k_753 ys_X7_treeOf ⟨Nat.le_of_ble_eq_true rfl, Nat.le_of_ble_eq_true rfl⟩ ⟨Nat.le_of_ble_eq_true rfl, Nat.le_of_ble_eq_true rfl⟩ g13 rfl rfl (fun _ => Nat.le_of_ble_eq_true rfl) ?_
          refine J_aload_n (pc := 59) C dX7_seekFrom_59 rfl 1 rfl ?_
          refine J_aload_n (pc := 60) C dX7_seekFrom_60 rfl 1 rfl ?_
          refine J_getIN (pc := 61) C dX7_seekFrom_61 (ci := 0) (k0 := 2) rfl iX0 (by decide) n_191 hf (fun x14 hf => ?_)
          obtain ⟨q15, h16, hf⟩ := bind_ok hf
          obtain ⟨_, g17, h16⟩ := cl_spec h16
          refine J_cV (S := [.ref q11.1]) (pc := 64) C dX7_seekFrom_64 (c_X0_rankOf _ _ _ _ h16) k_566 ys_X0_rankOf ⟨Nat.le_of_ble_eq_true rfl, Nat.le_of_ble_eq_true rfl⟩ ⟨Nat.le_of_ble_eq_true rfl, Nat.le_of_ble_eq_true rfl⟩ g17 rfl rfl (fun _ => Nat.le_of_ble_eq_true rfl) ?_
          refine J_iload (pc := 67) C dX7_seekFrom_67 0 rfl ?_
          obtain ⟨q18, h19, hf⟩ := bind_ok hf
          obtain ⟨_, g20, h19⟩ := cl_spec h19
          refine J_cV (S := []) (pc := 69) C dX7_seekFrom_69 (c_X8_steps _ _ _ _ _ h19) k_779 ys_X8_steps ⟨Nat.le_of_ble_eq_true rfl, Nat.le_of_ble_eq_true rfl⟩ ⟨Nat.le_of_ble_eq_true rfl, Nat.le_of_ble_eq_true rfl⟩ g20 rfl rfl (fun _ => Nat.le_of_ble_eq_true rfl) ?_
          refine J_sub [1, 0] (L1 := [(3, .ref b4), (4, .int x9)]) rfl ?_
          exact B72 q11.2 b4 x9 q18 hf
        · refine J_iconst (pc := 50) C dX7_seekFrom_50 (v := 0) (by decide) ?_
          refine J_goto (pc := 51) C dX7_seekFrom_51 (tgt := 72) (by decide) ?_
          refine J_sub [1, 0] (L1 := [(3, .ref b4), (4, .int x9)]) rfl ?_
          exact B72 w b4 x9 (0 : Int32) hf
      · refine J_bipush (pc := 26) C dX7_seekFrom_26 (v := -2) (by decide) ?_
        exact J_iret (pc := 28) C  rfl rfl dX7_seekFrom_28 hf
    · refine J_iconst (pc := 17) C dX7_seekFrom_17 (v := -1) (by decide) ?_
      exact J_iret (pc := 18) C  rfl rfl dX7_seekFrom_18 hf
set_option maxRecDepth 100000 in
set_option maxHeartbeats 4000000 in
theorem c_X7_notEmpty {l : Launch} {D : va_G} {dA : FieldType → ClassId} (fu : Nat) (w : MW) (v0 : Nat) {rr : Int32} (hf : f_X7_notEmpty fu w v0 = some rr) : CT l D dA yX7_notEmpty cX7_notEmpty 3 (some .int) rmX7_notEmpty [.ref v0] w (some (.int rr)) w := by
  refine J_met (by decide) rfl (Nat.le_of_ble_eq_true rfl) (fun p e s m args below meth c A E C => ?_)
  have B28 : ∀ (lr4 : Nat → Int32 → Int32 → Option Int32) (lh4 : ∀ (v0 : Nat) (v1 : Int32) (v2 : Int32), lr4 v0 v1 v2 = some rr → JW p l e rmX7_notEmpty s m args below meth c 3 D dA A E (MQ below (Qr D dA E (some (.int rr)) w A) args s 0 0 A) 0 0 4 [(0, .ref v0), (1, .int v1), (2, .int v2)] [] w) (v0 : Nat) (v2 : Int32) (s0 : Int32) (s1 : Int32), f_X7_notEmpty_28 fu w lr4 v0 v2 s0 s1 = some rr → JW p l e rmX7_notEmpty s m args below meth c 3 D dA A E (MQ below (Qr D dA E (some (.int rr)) w A) args s 0 0 A) 0 0 28 [(0, .ref v0), (2, .int v2)] [.int s1, .int s0] w := by
    intro lr4 lh4 v0 v2 s0 s1 hf
    rw [f_X7_notEmpty_28] at hf
    refine J_iadd (pc := 28) C dX7_notEmpty_28 ?_
    refine J_istore_n (pc := 29) C dX7_notEmpty_29 rfl (by decide) hf (fun q => [(1, .int q), (0, .ref v0), (2, .int v2)]) (fun _ => rfl) (fun x6 hf => ?_)
    refine J_iinc (pc := 30) C dX7_notEmpty_30 2 rfl (y := v2 + 1) rfl (by decide) hf (fun q => [(2, .int q), (1, .int x6), (0, .ref v0)]) (fun _ => rfl) (fun x7 hf => ?_)
    refine J_goto (pc := 33) C dX7_notEmpty_33 (tgt := 4) (by decide) ?_
    refine J_sub [2, 1, 0] (L1 := [(0, .ref v0), (1, .int x6), (2, .int x7)]) rfl ?_
    exact lh4 v0 x6 x7 hf
  have B4 : ∀ (n : Nat) (v0 : Nat) (v1 : Int32) (v2 : Int32), f_X7_notEmpty_4 fu w n v0 v1 v2 = some rr → JW p l e rmX7_notEmpty s m args below meth c 3 D dA A E (MQ below (Qr D dA E (some (.int rr)) w A) args s 0 0 A) 0 0 4 [(0, .ref v0), (1, .int v1), (2, .int v2)] [] w := by
    intro n
    induction n with
    | zero => intro v0 v1 v2 hf; rw [f_X7_notEmpty_4] at hf; cases hf
    | succ n ih =>
      intro v0 v1 v2 hf
      rw [f_X7_notEmpty_4] at hf
      refine J_iload_n (pc := 4) C dX7_notEmpty_4 rfl 2 rfl ?_
      refine J_bipush (pc := 5) C dX7_notEmpty_5 (v := 8) (by decide) ?_
      refine J_icmp_ge (pc := 7) C dX7_notEmpty_7 (tgt := 36) (by decide) hf (fun _ hf => ?_) (fun _ hf => ?_)
      · refine J_iload_n (pc := 36) C dX7_notEmpty_36 rfl 1 rfl ?_
        exact J_iretP (pc := 37) C  rfl rfl dX7_notEmpty_37 hf
      · refine J_iload_n (pc := 10) C dX7_notEmpty_10 rfl 1 rfl ?_
        refine J_aload_n (pc := 11) C dX7_notEmpty_11 rfl 0 rfl ?_
        refine J_getR (pc := 12) C dX7_notEmpty_12 (ci := 7) (k0 := 0) rfl iX7 (by decide) k_212 hf (fun x3 hf => ?_)
        refine J_iload_n (pc := 15) C dX7_notEmpty_15 rfl 2 rfl ?_
        refine J_aald (Cn := RX0) (pc := 16) C 3 (fun _ => rfl) dX7_notEmpty_16 hf (fun x4 hf => ?_)
        refine J_getIN (pc := 17) C dX7_notEmpty_17 (ci := 0) (k0 := 1) rfl iX0 (by decide) n_186 hf (fun x5 hf => ?_)
        refine J_if_le (pc := 20) C dX7_notEmpty_20 (tgt := 27) (by decide) hf (fun _ hf => ?_) (fun _ hf => ?_)
        · refine J_iconst (pc := 27) C dX7_notEmpty_27 (v := 0) (by decide) ?_
          refine J_sub [0, 2] (L1 := [(0, .ref v0), (2, .int v2)]) rfl ?_
          exact B28 (f_X7_notEmpty_4 fu w n) ih v0 v2 v1 (0 : Int32) hf
        · refine J_iconst (pc := 23) C dX7_notEmpty_23 (v := 1) (by decide) ?_
          refine J_goto (pc := 24) C dX7_notEmpty_24 (tgt := 28) (by decide) ?_
          refine J_sub [0, 2] (L1 := [(0, .ref v0), (2, .int v2)]) rfl ?_
          exact B28 (f_X7_notEmpty_4 fu w n) ih v0 v2 v1 (1 : Int32) hf
  rw [f_X7_notEmpty] at hf
  refine J_sub [0] (L1 := [(0, .ref v0)]) rfl ?_
  refine J_iconst (pc := 0) C dX7_notEmpty_0 (v := 0) (by decide) ?_
  refine J_istore_n (pc := 1) C dX7_notEmpty_1 rfl (by decide) hf (fun q => [(1, .int q), (0, .ref v0)]) (fun _ => rfl) (fun x1 hf => ?_)
  refine J_iconst (pc := 2) C dX7_notEmpty_2 (v := 0) (by decide) ?_
  refine J_istore_n (pc := 3) C dX7_notEmpty_3 rfl (by decide) hf (fun q => [(2, .int q), (1, .int x1), (0, .ref v0)]) (fun _ => rfl) (fun x2 hf => ?_)
  refine J_sub [2, 1, 0] (L1 := [(0, .ref v0), (1, .int x1), (2, .int x2)]) rfl ?_
  exact B4 fu v0 x1 x2 hf
set_option maxRecDepth 100000 in
set_option maxHeartbeats 4000000 in
theorem c_X7_allMarked {l : Launch} {D : va_G} {dA : FieldType → ClassId} (fu : Nat) (w : MW) (v0 : Nat) {rr : Int32} (hf : f_X7_allMarked fu w v0 = some rr) : CT l D dA yX7_allMarked cX7_allMarked 3 (some .int) rmX7_allMarked [.ref v0] w (some (.int rr)) w := by
  refine J_met (by decide) rfl (Nat.le_of_ble_eq_true rfl) (fun p e s m args below meth c A E C => ?_)
  have B4 : ∀ (n : Nat) (v0 : Nat) (v1 : Int32) (v2 : Int32), f_X7_allMarked_4 fu w n v0 v1 v2 = some rr → JW p l e rmX7_allMarked s m args below meth c 3 D dA A E (MQ below (Qr D dA E (some (.int rr)) w A) args s 0 0 A) 0 0 4 [(0, .ref v0), (1, .int v1), (2, .int v2)] [] w := by
    intro n
    induction n with
    | zero => intro v0 v1 v2 hf; rw [f_X7_allMarked_4] at hf; cases hf
    | succ n ih =>
      intro v0 v1 v2 hf
      rw [f_X7_allMarked_4] at hf
      refine J_iload_n (pc := 4) C dX7_allMarked_4 rfl 2 rfl ?_
      refine J_bipush (pc := 5) C dX7_allMarked_5 (v := 8) (by decide) ?_
      refine J_icmp_ge (pc := 7) C dX7_allMarked_7 (tgt := 32) (by decide) hf (fun _ hf => ?_) (fun _ hf => ?_)
      · refine J_iload_n (pc := 32) C dX7_allMarked_32 rfl 1 rfl ?_
        exact J_iretP (pc := 33) C  rfl rfl dX7_allMarked_33 hf
      · refine J_iload_n (pc := 10) C dX7_allMarked_10 rfl 1 rfl ?_
        refine J_aload_n (pc := 11) C dX7_allMarked_11 rfl 0 rfl ?_
        refine J_getR (pc := 12) C dX7_allMarked_12 (ci := 7) (k0 := 0) rfl iX7 (by decide) k_212 hf (fun x3 hf => ?_)
        refine J_iload_n (pc := 15) C dX7_allMarked_15 rfl 2 rfl ?_
        refine J_aald (Cn := RX0) (pc := 16) C 3 (fun _ => rfl) dX7_allMarked_16 hf (fun x4 hf => ?_)
        refine J_iconst (pc := 17) C dX7_allMarked_17 (v := 0) (by decide) ?_
        refine J_sipush (pc := 18) C dX7_allMarked_18 (v := 9999) (by decide) ?_
        obtain ⟨q5, h6, hf⟩ := bind_ok hf
        obtain ⟨_, g7, h6⟩ := cl_spec h6
        refine J_cV (S := [.int v1]) (pc := 21) C dX7_allMarked_21 (c_X0_markedBetween _ _ _ _ _ h6) k_911 ys_X0_markedBetween ⟨Nat.le_of_ble_eq_true rfl, Nat.le_of_ble_eq_true rfl⟩ ⟨Nat.le_of_ble_eq_true rfl, Nat.le_of_ble_eq_true rfl⟩ g7 rfl rfl (fun _ => Nat.le_of_ble_eq_true rfl) ?_
        refine J_iadd (pc := 24) C dX7_allMarked_24 ?_
        refine J_istore_n (pc := 25) C dX7_allMarked_25 rfl (by decide) hf (fun q => [(1, .int q), (0, .ref v0), (2, .int v2)]) (fun _ => rfl) (fun x8 hf => ?_)
        refine J_iinc (pc := 26) C dX7_allMarked_26 2 rfl (y := v2 + 1) rfl (by decide) hf (fun q => [(2, .int q), (1, .int x8), (0, .ref v0)]) (fun _ => rfl) (fun x9 hf => ?_)
        refine J_goto (pc := 29) C dX7_allMarked_29 (tgt := 4) (by decide) ?_
        refine J_sub [2, 1, 0] (L1 := [(0, .ref v0), (1, .int x8), (2, .int x9)]) rfl ?_
        exact ih v0 x8 x9 hf
  rw [f_X7_allMarked] at hf
  refine J_sub [0] (L1 := [(0, .ref v0)]) rfl ?_
  refine J_iconst (pc := 0) C dX7_allMarked_0 (v := 0) (by decide) ?_
  refine J_istore_n (pc := 1) C dX7_allMarked_1 rfl (by decide) hf (fun q => [(1, .int q), (0, .ref v0)]) (fun _ => rfl) (fun x1 hf => ?_)
  refine J_iconst (pc := 2) C dX7_allMarked_2 (v := 0) (by decide) ?_
  refine J_istore_n (pc := 3) C dX7_allMarked_3 rfl (by decide) hf (fun q => [(2, .int q), (1, .int x1), (0, .ref v0)]) (fun _ => rfl) (fun x2 hf => ?_)
  refine J_sub [2, 1, 0] (L1 := [(0, .ref v0), (1, .int x1), (2, .int x2)]) rfl ?_
  exact B4 fu v0 x1 x2 hf
set_option maxRecDepth 100000 in
set_option maxHeartbeats 4000000 in
theorem c_X7_unlike {l : Launch} {D : va_G} {dA : FieldType → ClassId} (fu : Nat) (w : MW) (v0 : Nat) {rr : Int32} {w' : MW} (hf : f_X7_unlike fu w v0 = some (rr, w')) : CT l D dA yX7_unlike cX7_unlike 6 (some .int) rmX7_unlike [.ref v0] w (some (.int rr)) w' := by
  refine J_met (by decide) rfl (Nat.le_of_ble_eq_true rfl) (fun p e s m args below meth c A E C => ?_)
  have B46 : ∀ (lr19 : MW → Nat → Int32 → Int32 → Int32 → Int32 → Option (Int32 × MW)) (lh19 : ∀ (w : MW) (v0 : Nat) (v1 : Int32) (v2 : Int32) (v3 : Int32) (v4 : Int32), lr19 w v0 v1 v2 v3 v4 = some (rr, w') → JW p l e rmX7_unlike s m args below meth c 6 D dA A E (MQ below (Qr D dA E (some (.int rr)) w' A) args s 0 0 A) 0 0 19 [(0, .ref v0), (1, .int v1), (2, .int v2), (3, .int v3), (4, .int v4)] [] w) (w : MW) (v0 : Nat) (v1 : Int32) (v4 : Int32) (v5 : Int32) (s0 : Int32) (s1 : Int32), f_X7_unlike_46 fu lr19 w v0 v1 v4 v5 s0 s1 = some (rr, w') → JW p l e rmX7_unlike s m args below meth c 6 D dA A E (MQ below (Qr D dA E (some (.int rr)) w' A) args s 0 0 A) 0 0 46 [(0, .ref v0), (1, .int v1), (4, .int v4), (5, .int v5)] [.int s1, .int s0] w := by
    intro lr19 lh19 w v0 v1 v4 v5 s0 s1 hf
    rw [f_X7_unlike_46] at hf
    refine J_iadd (pc := 46) C dX7_unlike_46 ?_
    refine J_istore_n (pc := 47) C dX7_unlike_47 rfl (by decide) hf (fun q => [(2, .int q), (0, .ref v0), (1, .int v1), (4, .int v4), (5, .int v5)]) (fun _ => rfl) (fun x17 hf => ?_)
    refine J_iload (pc := 48) C dX7_unlike_48 4 rfl ?_
    refine J_istore_n (pc := 50) C dX7_unlike_50 rfl (by decide) hf (fun q => [(3, .int q), (2, .int x17), (0, .ref v0), (1, .int v1), (4, .int v4), (5, .int v5)]) (fun _ => rfl) (fun x18 hf => ?_)
    refine J_iinc (pc := 51) C dX7_unlike_51 4 rfl (y := v4 + 1) rfl (by decide) hf (fun q => [(4, .int q), (3, .int x18), (2, .int x17), (0, .ref v0), (1, .int v1), (5, .int v5)]) (fun _ => rfl) (fun x19 hf => ?_)
    refine J_goto (pc := 54) C dX7_unlike_54 (tgt := 19) (by decide) ?_
    refine J_sub [3, 4, 2, 1, 0] (L1 := [(0, .ref v0), (1, .int v1), (2, .int x17), (3, .int x18), (4, .int x19)]) rfl ?_
    exact lh19 w v0 v1 x17 x18 x19 hf
  have B19 : ∀ (n : Nat) (w : MW) (v0 : Nat) (v1 : Int32) (v2 : Int32) (v3 : Int32) (v4 : Int32), f_X7_unlike_19 fu n w v0 v1 v2 v3 v4 = some (rr, w') → JW p l e rmX7_unlike s m args below meth c 6 D dA A E (MQ below (Qr D dA E (some (.int rr)) w' A) args s 0 0 A) 0 0 19 [(0, .ref v0), (1, .int v1), (2, .int v2), (3, .int v3), (4, .int v4)] [] w := by
    intro n
    induction n with
    | zero => intro w v0 v1 v2 v3 v4 hf; rw [f_X7_unlike_19] at hf; cases hf
    | succ n ih =>
      intro w v0 v1 v2 v3 v4 hf
      rw [f_X7_unlike_19] at hf
      refine J_iload (pc := 19) C dX7_unlike_19 4 rfl ?_
      refine J_iload_n (pc := 21) C dX7_unlike_21 rfl 1 rfl ?_
      refine J_icmp_ge (pc := 22) C dX7_unlike_22 (tgt := 57) (by decide) hf (fun _ hf => ?_) (fun _ hf => ?_)
      · refine J_iload_n (pc := 57) C dX7_unlike_57 rfl 2 rfl ?_
        exact J_iret (pc := 58) C  rfl rfl dX7_unlike_58 hf
      · refine J_aload_n (pc := 25) C dX7_unlike_25 rfl 0 rfl ?_
        refine J_getR (pc := 26) C dX7_unlike_26 (ci := 7) (k0 := 3) rfl iX7 (by decide) k_218 hf (fun x12 hf => ?_)
        obtain ⟨q13, h14, hf⟩ := bind_ok hf
        obtain ⟨_, g15, h14⟩ := cl_spec h14
        refine J_cV (S := []) (pc := 29) C dX7_unlike_29 (c_X2_next _ _ _ h14) k_902 ys_X2_next ⟨Nat.le_of_ble_eq_true rfl, Nat.le_of_ble_eq_true rfl⟩ ⟨Nat.le_of_ble_eq_true rfl, Nat.le_of_ble_eq_true rfl⟩ g15 rfl rfl (fun _ => Nat.le_of_ble_eq_true rfl) ?_
        refine J_istore (pc := 32) C dX7_unlike_32 (by decide) hf (fun q => [(5, .int q), (0, .ref v0), (1, .int v1), (2, .int v2), (3, .int v3), (4, .int v4)]) (fun _ => rfl) (fun x16 hf => ?_)
        refine J_iload_n (pc := 34) C dX7_unlike_34 rfl 3 rfl ?_
        refine J_iload (pc := 35) C dX7_unlike_35 0 rfl ?_
        refine J_iload_n (pc := 37) C dX7_unlike_37 rfl 4 rfl ?_
        refine J_icmp_eq (pc := 38) C dX7_unlike_38 (tgt := 45) (by decide) hf (fun _ hf => ?_) (fun _ hf => ?_)
        · refine J_iconst (pc := 45) C dX7_unlike_45 (v := 0) (by decide) ?_
          refine J_sub [1, 2, 5, 0] (L1 := [(0, .ref v0), (1, .int v1), (4, .int v4), (5, .int x16)]) rfl ?_
          exact B46 (f_X7_unlike_19 fu n) ih q13.2 v0 v1 v4 x16 v2 (0 : Int32) hf
        · refine J_iconst (pc := 41) C dX7_unlike_41 (v := 1) (by decide) ?_
          refine J_goto (pc := 42) C dX7_unlike_42 (tgt := 46) (by decide) ?_
          refine J_sub [1, 2, 5, 0] (L1 := [(0, .ref v0), (1, .int v1), (4, .int v4), (5, .int x16)]) rfl ?_
          exact B46 (f_X7_unlike_19 fu n) ih q13.2 v0 v1 v4 x16 v2 (1 : Int32) hf
  rw [f_X7_unlike] at hf
  refine J_sub [0] (L1 := [(0, .ref v0)]) rfl ?_
  refine J_aload_n (pc := 0) C dX7_unlike_0 rfl 0 rfl ?_
  obtain ⟨q1, h2, hf⟩ := bind_ok hf
  obtain ⟨_, g3, h2⟩ := cl_spec h2
  refine J_cV (S := []) (pc := 1) C dX7_unlike_1 (c_X7_total _ _ _ h2) k_574 ys_X7_total ⟨Nat.le_of_ble_eq_true rfl, Nat.le_of_ble_eq_true rfl⟩ ⟨Nat.le_of_ble_eq_true rfl, Nat.le_of_ble_eq_true rfl⟩ g3 rfl rfl (fun _ => Nat.le_of_ble_eq_true rfl) ?_
  refine J_istore_n (pc := 4) C dX7_unlike_4 rfl (by decide) hf (fun q => [(1, .int q), (0, .ref v0)]) (fun _ => rfl) (fun x4 hf => ?_)
  refine J_iconst (pc := 5) C dX7_unlike_5 (v := 0) (by decide) ?_
  refine J_istore_n (pc := 6) C dX7_unlike_6 rfl (by decide) hf (fun q => [(2, .int q), (1, .int x4), (0, .ref v0)]) (fun _ => rfl) (fun x5 hf => ?_)
  refine J_iconst (pc := 7) C dX7_unlike_7 (v := -1) (by decide) ?_
  refine J_istore_n (pc := 8) C dX7_unlike_8 rfl (by decide) hf (fun q => [(3, .int q), (2, .int x5), (1, .int x4), (0, .ref v0)]) (fun _ => rfl) (fun x6 hf => ?_)
  refine J_aload_n (pc := 9) C dX7_unlike_9 rfl 3 rfl ?_
  refine J_getR (pc := 10) C dX7_unlike_10 (ci := 7) (k0 := 3) rfl iX7 (by decide) k_218 hf (fun x7 hf => ?_)
  obtain ⟨q8, h9, hf⟩ := bind_ok hf
  obtain ⟨_, g10, h9⟩ := cl_spec h9
  refine J_cV (S := []) (pc := 13) C dX7_unlike_13 (c_X2_begin _ _ _ h9) k_898 ys_X2_begin ⟨Nat.le_of_ble_eq_true rfl, Nat.le_of_ble_eq_true rfl⟩ ⟨Nat.le_of_ble_eq_true rfl, Nat.le_of_ble_eq_true rfl⟩ g10 rfl rfl (fun _ => Nat.le_of_ble_eq_true rfl) ?_
  refine J_iconst (pc := 16) C dX7_unlike_16 (v := 0) (by decide) ?_
  refine J_istore (pc := 17) C dX7_unlike_17 (by decide) hf (fun q => [(4, .int q), (3, .int x6), (2, .int x5), (1, .int x4), (0, .ref v0)]) (fun _ => rfl) (fun x11 hf => ?_)
  refine J_sub [4, 3, 2, 1, 0] (L1 := [(0, .ref v0), (1, .int x4), (2, .int x5), (3, .int x6), (4, .int x11)]) rfl ?_
  exact B19 fu q8 v0 x4 x5 x6 x11 hf
