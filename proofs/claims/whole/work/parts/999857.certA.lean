set_option maxRecDepth 100000 in
set_option maxHeartbeats 4000000 in
theorem c_X10_halves {l : Launch} {D : va_G} {dA : FieldType → ClassId} (w : MW) (v0 : Nat) (v1 : Int32) {rr : Int32} (hf : f_X10_halves w v0 v1 = some rr) : CT l D dA yX10_halves cX10_halves 3 (some .int) rmX10_halves [.ref v0, .int v1] w (some (.int rr)) w := by
  refine J_met (by decide) rfl (Nat.le_of_ble_eq_true rfl) (fun p e s m args below meth c A E C => ?_)
  rw [f_X10_halves] at hf
  refine J_sub [0, 1] (L1 := [(0, .ref v0), (1, .int v1)]) rfl ?_
  refine J_aload_n (pc := 0) C dX10_halves_0 rfl 0 rfl ?_
  refine J_getR (pc := 1) C dX10_halves_1 (ci := 10) (k0 := 0) rfl iX10 (by decide) k_368 hf (fun x1 hf => ?_)
  refine J_iload_n (pc := 4) C dX10_halves_4 rfl 1 rfl ?_
  obtain ⟨q2, h3, hf⟩ := bind_ok hf
  obtain ⟨_, g4, h3⟩ := cl_spec h3
  refine J_cV (S := []) (pc := 5) C dX10_halves_5 (c_X7_heapAt _ _ _ h3) k_802 ys_X7_heapAt ⟨Nat.le_of_ble_eq_true rfl, Nat.le_of_ble_eq_true rfl⟩ ⟨Nat.le_of_ble_eq_true rfl, Nat.le_of_ble_eq_true rfl⟩ g4 rfl rfl (fun _ => Nat.le_of_ble_eq_true rfl) ?_
  cases q2 with
  | none =>
    refine J_astore_nN (pc := 8) C dX10_halves_8 rfl (by decide) [(2, .null), (0, .ref v0), (1, .int v1)] rfl ?_
    refine J_aload_nN (pc := 9) C dX10_halves_9 rfl 0 rfl ?_
    refine J_ifnullN (pc := 10) C dX10_halves_10 (tgt := 21) (by decide) ?_
    refine J_iconst (pc := 21) C dX10_halves_21 (v := -1) (by decide) ?_
    exact J_iretP (pc := 22) C  rfl rfl dX10_halves_22 hf
  | some b5 =>
    refine J_astore_n (pc := 8) C dX10_halves_8 rfl (by decide) [(2, .ref b5), (0, .ref v0), (1, .int v1)] rfl ?_
    refine J_aload_n (pc := 9) C dX10_halves_9 rfl 0 rfl ?_
    refine J_ifnull (pc := 10) C dX10_halves_10 ?_
    refine J_aload_n (pc := 13) C dX10_halves_13 rfl 0 rfl ?_
    refine J_getIN (pc := 14) C dX10_halves_14 (ci := 0) (k0 := 1) rfl iX0 (by decide) n_187 hf (fun x6 hf => ?_)
    refine J_iconst (pc := 17) C dX10_halves_17 (v := 2) (by decide) ?_
    refine J_icmp_ge (pc := 18) C dX10_halves_18 (tgt := 23) (by decide) hf (fun _ hf => ?_) (fun _ hf => ?_)
    · refine J_aload_n (pc := 23) C dX10_halves_23 rfl 0 rfl ?_
      refine J_aload_n (pc := 24) C dX10_halves_24 rfl 0 rfl ?_
      refine J_getIN (pc := 25) C dX10_halves_25 (ci := 0) (k0 := 1) rfl iX0 (by decide) n_187 hf (fun x7 hf => ?_)
      refine J_iconst (pc := 28) C dX10_halves_28 (v := 1) (by decide) ?_
      refine J_iadd (pc := 29) C dX10_halves_29 ?_
      refine J_iconst (pc := 30) C dX10_halves_30 (v := 2) (by decide) ?_
      refine J_idivL (pc := 31) C dX10_halves_31 (by decide) ?_
      refine J_iconst (pc := 32) C dX10_halves_32 (v := 1) (by decide) ?_
      refine J_isub (pc := 33) C dX10_halves_33 ?_
      obtain ⟨q8, h9, hf⟩ := bind_ok hf
      obtain ⟨_, g10, h9⟩ := cl_spec h9
      refine J_cV (S := []) (pc := 34) C dX10_halves_34 (c_X0_keyAt _ _ _ h9) k_803 ys_X0_keyAt ⟨Nat.le_of_ble_eq_true rfl, Nat.le_of_ble_eq_true rfl⟩ ⟨Nat.le_of_ble_eq_true rfl, Nat.le_of_ble_eq_true rfl⟩ g10 rfl rfl (fun _ => Nat.le_of_ble_eq_true rfl) ?_
      exact J_iretP (pc := 37) C  rfl rfl dX10_halves_37 hf
    · refine J_iconst (pc := 21) C dX10_halves_21 (v := -1) (by decide) ?_
      exact J_iretP (pc := 22) C  rfl rfl dX10_halves_22 hf
set_option maxRecDepth 100000 in
set_option maxHeartbeats 4000000 in
theorem c_X10_tell {l : Launch} {D : va_G} {dA : FieldType → ClassId} (fu : Nat) (w : MW) (v0 : Nat) (v1 : Int32) {rr : Int32} {w' : MW} (hf : f_X10_tell fu w v0 v1 = some (rr, w')) : CT l D dA yX10_tell cX10_tell 5 (some .int) rmX10_tell [.ref v0, .int v1] w (some (.int rr)) w' := by
  refine J_met (by decide) rfl (Nat.le_of_ble_eq_true rfl) (fun p e s m args below meth c A E C => ?_)
  have B111 : ∀ (lr25 : MW → Nat → Nat → Int32 → Option (Int32 × MW)) (lh25 : ∀ (w : MW) (v0 : Nat) (v2 : Nat) (v3 : Int32), lr25 w v0 v2 v3 = some (rr, w') → JW p l e rmX10_tell s m args below meth c 5 D dA A E (MQ below (Qr D dA E (some (.int rr)) w' A) args s 0 0 A) 0 0 25 [(0, .ref v0), (2, .ref v2), (3, .int v3)] [] w) (w : MW) (v0 : Nat) (v2 : Nat) (v3 : Int32) (v4 : Int32), f_X10_tell_111 fu lr25 w v0 v2 v3 v4 = some (rr, w') → JW p l e rmX10_tell s m args below meth c 5 D dA A E (MQ below (Qr D dA E (some (.int rr)) w' A) args s 0 0 A) 0 0 111 [(0, .ref v0), (2, .ref v2), (3, .int v3), (4, .int v4)] [] w := by
    intro lr25 lh25 w v0 v2 v3 v4 hf
    rw [f_X10_tell_111] at hf
    refine J_iload_n (pc := 111) C dX10_tell_111 rfl 2 rfl ?_
    refine J_iload (pc := 112) C dX10_tell_112 3 rfl ?_
    refine J_max (pc := 114) C dX10_tell_114 k_973 k_645 k_88 k_646 (Nat.le_of_ble_eq_true rfl) (fun _ => Nat.le_of_ble_eq_true rfl) ⟨Nat.le_of_ble_eq_true rfl, Nat.le_of_ble_eq_true rfl⟩ ?_
    refine J_iconst (pc := 117) C dX10_tell_117 (v := 1) (by decide) ?_
    refine J_iadd (pc := 118) C dX10_tell_118 ?_
    refine J_istore_n (pc := 119) C dX10_tell_119 rfl (by decide) hf (fun q => [(3, .int q), (0, .ref v0), (2, .ref v2), (4, .int v4)]) (fun _ => rfl) (fun x26 hf => ?_)
    refine J_goto (pc := 120) C dX10_tell_120 (tgt := 25) (by decide) ?_
    refine J_sub [1, 2, 0] (L1 := [(0, .ref v0), (2, .ref v2), (3, .int x26)]) rfl ?_
    exact lh25 w v0 v2 x26 hf
  have B93 : ∀ (lr25 : MW → Nat → Nat → Int32 → Option (Int32 × MW)) (lh25 : ∀ (w : MW) (v0 : Nat) (v2 : Nat) (v3 : Int32), lr25 w v0 v2 v3 = some (rr, w') → JW p l e rmX10_tell s m args below meth c 5 D dA A E (MQ below (Qr D dA E (some (.int rr)) w' A) args s 0 0 A) 0 0 25 [(0, .ref v0), (2, .ref v2), (3, .int v3)] [] w) (w : MW) (v0 : Nat) (v2 : Nat) (v3 : Int32) (v4 : Int32), f_X10_tell_93 fu lr25 w v0 v2 v3 v4 = some (rr, w') → JW p l e rmX10_tell s m args below meth c 5 D dA A E (MQ below (Qr D dA E (some (.int rr)) w' A) args s 0 0 A) 0 0 93 [(0, .ref v0), (2, .ref v2), (3, .int v3), (4, .int v4)] [] w := by
    intro lr25 lh25 w v0 v2 v3 v4 hf
    rw [f_X10_tell_93] at hf
    refine J_aload_n (pc := 93) C dX10_tell_93 rfl 1 rfl ?_
    refine J_iload_n (pc := 94) C dX10_tell_94 rfl 2 rfl ?_
    obtain ⟨q23, h24, hf⟩ := bind_ok hf
    obtain ⟨_, g25, h24⟩ := cl_spec h24
    refine J_cV (S := []) (pc := 95) C dX10_tell_95 (c_X0_markAt _ _ _ h24) k_850 ys_X0_markAt ⟨Nat.le_of_ble_eq_true rfl, Nat.le_of_ble_eq_true rfl⟩ ⟨Nat.le_of_ble_eq_true rfl, Nat.le_of_ble_eq_true rfl⟩ g25 rfl rfl (fun _ => Nat.le_of_ble_eq_true rfl) ?_
    refine J_iconst (pc := 98) C dX10_tell_98 (v := 1) (by decide) ?_
    refine J_icmp_ne (pc := 99) C dX10_tell_99 (tgt := 111) (by decide) hf (fun _ hf => ?_) (fun _ hf => ?_)
    · refine J_sub [0, 1, 2, 3] (L1 := [(0, .ref v0), (2, .ref v2), (3, .int v3), (4, .int v4)]) rfl ?_
      exact B111 lr25 lh25 w v0 v2 v3 v4 hf
    · refine J_aload_n (pc := 102) C dX10_tell_102 rfl 0 rfl ?_
      refine J_getR (pc := 103) C dX10_tell_103 (ci := 10) (k0 := 3) rfl iX10 (by decide) k_371 hf (fun x27 hf => ?_)
      refine J_bipush (pc := 106) C dX10_tell_106 (v := 42) (by decide) ?_
      obtain ⟨q28, h29, hf⟩ := bind_ok hf
      obtain ⟨_, g30, h29⟩ := cl_spec h29
      refine J_cV (S := []) (pc := 108) C dX10_tell_108 (c_X4_add _ _ _ h29) k_968 ys_X4_add ⟨Nat.le_of_ble_eq_true rfl, Nat.le_of_ble_eq_true rfl⟩ ⟨Nat.le_of_ble_eq_true rfl, Nat.le_of_ble_eq_true rfl⟩ g30 rfl rfl (fun _ => Nat.le_of_ble_eq_true rfl) ?_
      refine J_sub [0, 1, 2, 3] (L1 := [(0, .ref v0), (2, .ref v2), (3, .int v3), (4, .int v4)]) rfl ?_
      exact B111 lr25 lh25 q28 v0 v2 v3 v4 hf
  have B53 : ∀ (lr25 : MW → Nat → Nat → Int32 → Option (Int32 × MW)) (lh25 : ∀ (w : MW) (v0 : Nat) (v2 : Nat) (v3 : Int32), lr25 w v0 v2 v3 = some (rr, w') → JW p l e rmX10_tell s m args below meth c 5 D dA A E (MQ below (Qr D dA E (some (.int rr)) w' A) args s 0 0 A) 0 0 25 [(0, .ref v0), (2, .ref v2), (3, .int v3)] [] w) (w : MW) (v0 : Nat) (v2 : Nat) (v3 : Int32) (v4 : Int32), f_X10_tell_53 fu lr25 w v0 v2 v3 v4 = some (rr, w') → JW p l e rmX10_tell s m args below meth c 5 D dA A E (MQ below (Qr D dA E (some (.int rr)) w' A) args s 0 0 A) 0 0 53 [(0, .ref v0), (2, .ref v2), (3, .int v3), (4, .int v4)] [] w := by
    intro lr25 lh25 w v0 v2 v3 v4 hf
    rw [f_X10_tell_53] at hf
    refine J_aload_n (pc := 53) C dX10_tell_53 rfl 0 rfl ?_
    refine J_getR (pc := 54) C dX10_tell_54 (ci := 10) (k0 := 3) rfl iX10 (by decide) k_371 hf (fun x16 hf => ?_)
    refine J_aload_n (pc := 57) C dX10_tell_57 rfl 1 rfl ?_
    refine J_iload_n (pc := 58) C dX10_tell_58 rfl 2 rfl ?_
    obtain ⟨q17, h18, hf⟩ := bind_ok hf
    obtain ⟨_, g19, h18⟩ := cl_spec h18
    refine J_cV (S := [.ref x16]) (pc := 59) C dX10_tell_59 (c_X0_keyAt _ _ _ h18) k_803 ys_X0_keyAt ⟨Nat.le_of_ble_eq_true rfl, Nat.le_of_ble_eq_true rfl⟩ ⟨Nat.le_of_ble_eq_true rfl, Nat.le_of_ble_eq_true rfl⟩ g19 rfl rfl (fun _ => Nat.le_of_ble_eq_true rfl) ?_
    obtain ⟨q20, h21, hf⟩ := bind_ok hf
    obtain ⟨_, g22, h21⟩ := cl_spec h21
    refine J_cV (S := []) (pc := 62) C dX10_tell_62 (c_X4_addNumber _ _ _ _ h21) k_969 ys_X4_addNumber ⟨Nat.le_of_ble_eq_true rfl, Nat.le_of_ble_eq_true rfl⟩ ⟨Nat.le_of_ble_eq_true rfl, Nat.le_of_ble_eq_true rfl⟩ g22 rfl rfl (fun _ => Nat.le_of_ble_eq_true rfl) ?_
    refine J_iload (pc := 65) C dX10_tell_65 3 rfl ?_
    refine J_iload_n (pc := 67) C dX10_tell_67 rfl 2 rfl ?_
    refine J_icmp_le (pc := 68) C dX10_tell_68 (tgt := 93) (by decide) hf (fun _ hf => ?_) (fun _ hf => ?_)
    · refine J_sub [0, 1, 2, 3] (L1 := [(0, .ref v0), (2, .ref v2), (3, .int v3), (4, .int v4)]) rfl ?_
      exact B93 lr25 lh25 q20 v0 v2 v3 v4 hf
    · refine J_aload_n (pc := 71) C dX10_tell_71 rfl 0 rfl ?_
      refine J_getR (pc := 72) C dX10_tell_72 (ci := 10) (k0 := 3) rfl iX10 (by decide) k_371 hf (fun x31 hf => ?_)
      refine J_bipush (pc := 75) C dX10_tell_75 (v := 45) (by decide) ?_
      obtain ⟨q32, h33, hf⟩ := bind_ok hf
      obtain ⟨_, g34, h33⟩ := cl_spec h33
      refine J_cV (S := []) (pc := 77) C dX10_tell_77 (c_X4_add _ _ _ h33) k_968 ys_X4_add ⟨Nat.le_of_ble_eq_true rfl, Nat.le_of_ble_eq_true rfl⟩ ⟨Nat.le_of_ble_eq_true rfl, Nat.le_of_ble_eq_true rfl⟩ g34 rfl rfl (fun _ => Nat.le_of_ble_eq_true rfl) ?_
      refine J_aload_n (pc := 80) C dX10_tell_80 rfl 0 rfl ?_
      refine J_getR (pc := 81) C dX10_tell_81 (ci := 10) (k0 := 3) rfl iX10 (by decide) k_371 hf (fun x35 hf => ?_)
      refine J_aload_n (pc := 84) C dX10_tell_84 rfl 1 rfl ?_
      refine J_iload (pc := 85) C dX10_tell_85 3 rfl ?_
      obtain ⟨q36, h37, hf⟩ := bind_ok hf
      obtain ⟨_, g38, h37⟩ := cl_spec h37
      refine J_cV (S := [.ref x35]) (pc := 87) C dX10_tell_87 (c_X0_keyAt _ _ _ h37) k_803 ys_X0_keyAt ⟨Nat.le_of_ble_eq_true rfl, Nat.le_of_ble_eq_true rfl⟩ ⟨Nat.le_of_ble_eq_true rfl, Nat.le_of_ble_eq_true rfl⟩ g38 rfl rfl (fun _ => Nat.le_of_ble_eq_true rfl) ?_
      obtain ⟨q39, h40, hf⟩ := bind_ok hf
      obtain ⟨_, g41, h40⟩ := cl_spec h40
      refine J_cV (S := []) (pc := 90) C dX10_tell_90 (c_X4_addNumber _ _ _ _ h40) k_969 ys_X4_addNumber ⟨Nat.le_of_ble_eq_true rfl, Nat.le_of_ble_eq_true rfl⟩ ⟨Nat.le_of_ble_eq_true rfl, Nat.le_of_ble_eq_true rfl⟩ g41 rfl rfl (fun _ => Nat.le_of_ble_eq_true rfl) ?_
      refine J_sub [0, 1, 2, 3] (L1 := [(0, .ref v0), (2, .ref v2), (3, .int v3), (4, .int v4)]) rfl ?_
      exact B93 lr25 lh25 q39 v0 v2 v3 v4 hf
  have B25 : ∀ (n : Nat) (w : MW) (v0 : Nat) (v2 : Nat) (v3 : Int32), f_X10_tell_25 fu n w v0 v2 v3 = some (rr, w') → JW p l e rmX10_tell s m args below meth c 5 D dA A E (MQ below (Qr D dA E (some (.int rr)) w' A) args s 0 0 A) 0 0 25 [(0, .ref v0), (2, .ref v2), (3, .int v3)] [] w := by
    intro n
    induction n with
    | zero => intro w v0 v2 v3 hf; rw [f_X10_tell_25] at hf; cases hf
    | succ n ih =>
      intro w v0 v2 v3 hf
      rw [f_X10_tell_25] at hf
      refine J_iload_n (pc := 25) C dX10_tell_25 rfl 2 rfl ?_
      refine J_aload_n (pc := 26) C dX10_tell_26 rfl 1 rfl ?_
      refine J_getIN (pc := 27) C dX10_tell_27 (ci := 0) (k0 := 1) rfl iX0 (by decide) n_187 hf (fun x9 hf => ?_)
      refine J_icmp_ge (pc := 30) C dX10_tell_30 (tgt := 123) (by decide) hf (fun _ hf => ?_) (fun _ hf => ?_)
      · refine J_aload_n (pc := 123) C dX10_tell_123 rfl 0 rfl ?_
        refine J_getR (pc := 124) C dX10_tell_124 (ci := 10) (k0 := 3) rfl iX10 (by decide) k_371 hf (fun x10 hf => ?_)
        refine J_getIN (pc := 127) C dX10_tell_127 (ci := 4) (k0 := 1) rfl iX4 (by decide) n_286 hf (fun x11 hf => ?_)
        exact J_iret (pc := 130) C  rfl rfl dX10_tell_130 hf
      · refine J_aload_n (pc := 33) C dX10_tell_33 rfl 1 rfl ?_
        refine J_iload_n (pc := 34) C dX10_tell_34 rfl 2 rfl ?_
        obtain ⟨q12, h13, hf⟩ := bind_ok hf
        obtain ⟨_, g14, h13⟩ := cl_spec h13
        refine J_cV (S := []) (pc := 35) C dX10_tell_35 (c_X0_lastToldWith _ _ _ _ h13) k_964 ys_X0_lastToldWith ⟨Nat.le_of_ble_eq_true rfl, Nat.le_of_ble_eq_true rfl⟩ ⟨Nat.le_of_ble_eq_true rfl, Nat.le_of_ble_eq_true rfl⟩ g14 rfl rfl (fun _ => Nat.le_of_ble_eq_true rfl) ?_
        refine J_istore (pc := 38) C dX10_tell_38 (by decide) hf (fun q => [(4, .int q), (0, .ref v0), (2, .ref v2), (3, .int v3)]) (fun _ => rfl) (fun x15 hf => ?_)
        refine J_iload_n (pc := 40) C dX10_tell_40 rfl 3 rfl ?_
        refine J_if_le (pc := 41) C dX10_tell_41 (tgt := 53) (by decide) hf (fun _ hf => ?_) (fun _ hf => ?_)
        · refine J_sub [1, 2, 3, 0] (L1 := [(0, .ref v0), (2, .ref v2), (3, .int v3), (4, .int x15)]) rfl ?_
          exact B53 (f_X10_tell_25 fu n) ih w v0 v2 v3 x15 hf
        · refine J_aload_n (pc := 44) C dX10_tell_44 rfl 1 rfl ?_
          refine J_getR (pc := 45) C dX10_tell_45 (ci := 10) (k0 := 3) rfl iX10 (by decide) k_371 hf (fun x42 hf => ?_)
          refine J_bipush (pc := 48) C dX10_tell_48 (v := 32) (by decide) ?_
          obtain ⟨q43, h44, hf⟩ := bind_ok hf
          obtain ⟨_, g45, h44⟩ := cl_spec h44
          refine J_cV (S := []) (pc := 50) C dX10_tell_50 (c_X4_add _ _ _ h44) k_968 ys_X4_add ⟨Nat.le_of_ble_eq_true rfl, Nat.le_of_ble_eq_true rfl⟩ ⟨Nat.le_of_ble_eq_true rfl, Nat.le_of_ble_eq_true rfl⟩ g45 rfl rfl (fun _ => Nat.le_of_ble_eq_true rfl) ?_
          refine J_sub [1, 2, 3, 0] (L1 := [(0, .ref v0), (2, .ref v2), (3, .int v3), (4, .int x15)]) rfl ?_
          exact B53 (f_X10_tell_25 fu n) ih q43 v0 v2 v3 x15 hf
  rw [f_X10_tell] at hf
  refine J_sub [0, 1] (L1 := [(0, .ref v0), (1, .int v1)]) rfl ?_
  refine J_aload_n (pc := 0) C dX10_tell_0 rfl 0 rfl ?_
  refine J_getR (pc := 1) C dX10_tell_1 (ci := 10) (k0 := 0) rfl iX10 (by decide) k_368 hf (fun x1 hf => ?_)
  refine J_iload_n (pc := 4) C dX10_tell_4 rfl 1 rfl ?_
  obtain ⟨q2, h3, hf⟩ := bind_ok hf
  obtain ⟨_, g4, h3⟩ := cl_spec h3
  refine J_cV (S := []) (pc := 5) C dX10_tell_5 (c_X7_heapAt _ _ _ h3) k_802 ys_X7_heapAt ⟨Nat.le_of_ble_eq_true rfl, Nat.le_of_ble_eq_true rfl⟩ ⟨Nat.le_of_ble_eq_true rfl, Nat.le_of_ble_eq_true rfl⟩ g4 rfl rfl (fun _ => Nat.le_of_ble_eq_true rfl) ?_
  cases q2 with
  | none =>
    refine J_astore_nN (pc := 8) C dX10_tell_8 rfl (by decide) [(2, .null), (0, .ref v0), (1, .int v1)] rfl ?_
    refine J_aload_nN (pc := 9) C dX10_tell_9 rfl 0 rfl ?_
    refine J_ifnonnullN (pc := 10) C dX10_tell_10 ?_
    refine J_iconst (pc := 13) C dX10_tell_13 (v := -1) (by decide) ?_
    exact J_iret (pc := 14) C  rfl rfl dX10_tell_14 hf
  | some b5 =>
    refine J_astore_n (pc := 8) C dX10_tell_8 rfl (by decide) [(2, .ref b5), (0, .ref v0), (1, .int v1)] rfl ?_
    refine J_aload_n (pc := 9) C dX10_tell_9 rfl 0 rfl ?_
    refine J_ifnonnull (pc := 10) C dX10_tell_10 (tgt := 15) (by decide) ?_
    refine J_aload_n (pc := 15) C dX10_tell_15 rfl 1 rfl ?_
    refine J_getR (pc := 16) C dX10_tell_16 (ci := 10) (k0 := 3) rfl iX10 (by decide) k_371 hf (fun x6 hf => ?_)
    refine J_iconst (pc := 19) C dX10_tell_19 (v := 0) (by decide) ?_
    refine J_putN (pc := 20) C dX10_tell_20 (ci := 4) (k0 := 1) rfl iX4 tyX4 tyX4_ok nmX4 (by decide) n_286 rfl (ty := .int) (by decide +kernel) (fun _ => rfl) (fun _ => rfl) hf (fun w7 hf => ?_)
    refine J_iconst (pc := 23) C dX10_tell_23 (v := 0) (by decide) ?_
    refine J_istore_n (pc := 24) C dX10_tell_24 rfl (by decide) hf (fun q => [(3, .int q), (2, .ref b5), (0, .ref v0), (1, .int v1)]) (fun _ => rfl) (fun x8 hf => ?_)
    refine J_sub [2, 1, 0] (L1 := [(0, .ref v0), (2, .ref b5), (3, .int x8)]) rfl ?_
    exact B25 fu w7 v0 b5 x8 hf
set_option maxRecDepth 100000 in
set_option maxHeartbeats 4000000 in
theorem c_X10_octet {l : Launch} {D : va_G} {dA : FieldType → ClassId} (w : MW) (v0 : Nat) (v1 : Int32) {rr : Int32} (hf : f_X10_octet w v0 v1 = some rr) : CT l D dA yX10_octet cX10_octet 2 (some .int) rmX10_octet [.ref v0, .int v1] w (some (.int rr)) w := by
  refine J_met (by decide) rfl (Nat.le_of_ble_eq_true rfl) (fun p e s m args below meth c A E C => ?_)
  rw [f_X10_octet] at hf
  refine J_sub [0, 1] (L1 := [(0, .ref v0), (1, .int v1)]) rfl ?_
  refine J_aload_n (pc := 0) C dX10_octet_0 rfl 0 rfl ?_
  refine J_getR (pc := 1) C dX10_octet_1 (ci := 10) (k0 := 3) rfl iX10 (by decide) k_371 hf (fun x1 hf => ?_)
  refine J_iload_n (pc := 4) C dX10_octet_4 rfl 1 rfl ?_
  obtain ⟨q2, h3, hf⟩ := bind_ok hf
  obtain ⟨_, g4, h3⟩ := cl_spec h3
  refine J_cV (S := []) (pc := 5) C dX10_octet_5 (c_X4_byteAt _ _ _ h3) k_978 ys_X4_byteAt ⟨Nat.le_of_ble_eq_true rfl, Nat.le_of_ble_eq_true rfl⟩ ⟨Nat.le_of_ble_eq_true rfl, Nat.le_of_ble_eq_true rfl⟩ g4 rfl rfl (fun _ => Nat.le_of_ble_eq_true rfl) ?_
  exact J_iretP (pc := 8) C  rfl rfl dX10_octet_8 hf
set_option maxRecDepth 100000 in
set_option maxHeartbeats 4000000 in
theorem c_X10_image {l : Launch} {D : va_G} {dA : FieldType → ClassId} (fu : Nat) (w : MW) (v0 : Nat) (v1 : Int32) {rr : Int32} {w' : MW} (hf : f_X10_image fu w v0 v1 = some (rr, w')) : CT l D dA yX10_image cX10_image 3 (some .boolean) rmX10_image [.ref v0, .int v1] w (some (.int rr)) w' := by
  refine J_met (by decide) rfl (Nat.le_of_ble_eq_true rfl) (fun p e s m args below meth c A E C => ?_)
  rw [f_X10_image] at hf
  refine J_sub [0, 1] (L1 := [(0, .ref v0), (1, .int v1)]) rfl ?_
  refine J_iload_n (pc := 0) C dX10_image_0 rfl 1 rfl ?_
  refine J_if_lt (pc := 1) C dX10_image_1 (tgt := 9) (by decide) hf (fun _ hf => ?_) (fun _ hf => ?_)
  · refine J_iconst (pc := 9) C dX10_image_9 (v := 0) (by decide) ?_
    exact J_iret (pc := 10) C  rfl (by decide) dX10_image_10 hf
  · refine J_iload_n (pc := 4) C dX10_image_4 rfl 1 rfl ?_
    refine J_iconst (pc := 5) C dX10_image_5 (v := 3) (by decide) ?_
    refine J_icmp_lt (pc := 6) C dX10_image_6 (tgt := 11) (by decide) hf (fun _ hf => ?_) (fun _ hf => ?_)
    · refine J_aload_n (pc := 11) C dX10_image_11 rfl 0 rfl ?_
      refine J_getR (pc := 12) C dX10_image_12 (ci := 10) (k0 := 6) rfl iX10 (by decide) k_374 hf (fun x1 hf => ?_)
      refine J_iload_n (pc := 15) C dX10_image_15 rfl 1 rfl ?_
      refine J_aald (Cn := RX1) (pc := 16) C 5 (fun _ => rfl) dX10_image_16 hf (fun x2 hf => ?_)
      refine J_astore_n (pc := 17) C dX10_image_17 rfl (by decide) [(2, .ref x2), (0, .ref v0), (1, .int v1)] rfl ?_
      refine J_aload_n (pc := 18) C dX10_image_18 rfl 0 rfl ?_
      refine J_iconst (pc := 19) C dX10_image_19 (v := 1) (by decide) ?_
      refine J_putN (pc := 20) C dX10_image_20 (ci := 1) (k0 := 3) rfl iX1 tyX1 tyX1_ok nmX1 (by decide) n_350 rfl (ty := .boolean) (by decide +kernel) (fun _ => (by decide : narrow .boolean (.int (1 : Int32)) = .int (1 : Int32))) (fun _ => rfl) hf (fun w3 hf => ?_)
      refine J_aload_n (pc := 23) C dX10_image_23 rfl 0 rfl ?_
      refine J_getRN (pc := 24) C dX10_image_24 (ci := 1) (k0 := 0) rfl iX1 (by decide) n_344 hf (fun x4 hf => ?_)
      refine J_aload_n (pc := 27) C dX10_image_27 rfl 1 rfl ?_
      refine J_getR (pc := 28) C dX10_image_28 (ci := 10) (k0 := 0) rfl iX10 (by decide) k_368 hf (fun x5 hf => ?_)
      obtain ⟨q6, h7, hf⟩ := bind_ok hf
      obtain ⟨_, g8, h7⟩ := cl_spec h7
      refine J_cV (S := []) (pc := 31) C dX10_image_31 (c_X6_take _ _ _ _ h7) k_416 ys_X6_take ⟨Nat.le_of_ble_eq_true rfl, Nat.le_of_ble_eq_true rfl⟩ ⟨Nat.le_of_ble_eq_true rfl, Nat.le_of_ble_eq_true rfl⟩ g8 rfl rfl (fun _ => Nat.le_of_ble_eq_true rfl) ?_
      refine J_aload_n (pc := 34) C dX10_image_34 rfl 0 rfl ?_
      refine J_getRN (pc := 35) C dX10_image_35 (ci := 1) (k0 := 1) rfl iX1 (by decide) n_346 hf (fun x9 hf => ?_)
      refine J_aload_n (pc := 38) C dX10_image_38 rfl 1 rfl ?_
      refine J_getR (pc := 39) C dX10_image_39 (ci := 10) (k0 := 2) rfl iX10 (by decide) k_370 hf (fun x10 hf => ?_)
      obtain ⟨q11, h12, hf⟩ := bind_ok hf
      obtain ⟨_, g13, h12⟩ := cl_spec h12
      refine J_cV (S := []) (pc := 42) C dX10_image_42 (c_X4_copy _ _ _ h12) k_983 ys_X4_copy ⟨Nat.le_of_ble_eq_true rfl, Nat.le_of_ble_eq_true rfl⟩ ⟨Nat.le_of_ble_eq_true rfl, Nat.le_of_ble_eq_true rfl⟩ g13 rfl rfl (fun _ => Nat.le_of_ble_eq_true rfl) ?_
      refine J_aload_n (pc := 45) C dX10_image_45 rfl 0 rfl ?_
      refine J_getRN (pc := 46) C dX10_image_46 (ci := 1) (k0 := 2) rfl iX1 (by decide) n_348 hf (fun x14 hf => ?_)
      refine J_aload_n (pc := 49) C dX10_image_49 rfl 1 rfl ?_
      refine J_getR (pc := 50) C dX10_image_50 (ci := 10) (k0 := 3) rfl iX10 (by decide) k_371 hf (fun x15 hf => ?_)
      obtain ⟨q16, h17, hf⟩ := bind_ok hf
      obtain ⟨_, g18, h17⟩ := cl_spec h17
      refine J_cV (S := []) (pc := 53) C dX10_image_53 (c_X4_copy _ _ _ h17) k_983 ys_X4_copy ⟨Nat.le_of_ble_eq_true rfl, Nat.le_of_ble_eq_true rfl⟩ ⟨Nat.le_of_ble_eq_true rfl, Nat.le_of_ble_eq_true rfl⟩ g18 rfl rfl (fun _ => Nat.le_of_ble_eq_true rfl) ?_
      refine J_aload_n (pc := 56) C dX10_image_56 rfl 0 rfl ?_
      refine J_aload_n (pc := 57) C dX10_image_57 rfl 1 rfl ?_
      refine J_getI (pc := 58) C dX10_image_58 (ci := 10) (k0 := 7) rfl iX10 (by decide) k_375 hf (fun x19 hf => ?_)
      refine J_putN (pc := 61) C dX10_image_61 (ci := 1) (k0 := 4) rfl iX1 tyX1 tyX1_ok nmX1 (by decide) n_352 rfl (ty := .int) (by decide +kernel) (fun _ => rfl) (fun _ => rfl) hf (fun w20 hf => ?_)
      refine J_aload_n (pc := 64) C dX10_image_64 rfl 0 rfl ?_
      refine J_aload_n (pc := 65) C dX10_image_65 rfl 1 rfl ?_
      refine J_getI (pc := 66) C dX10_image_66 (ci := 10) (k0 := 8) rfl iX10 (by decide) k_376 hf (fun x21 hf => ?_)
      refine J_putN (pc := 69) C dX10_image_69 (ci := 1) (k0 := 5) rfl iX1 tyX1 tyX1_ok nmX1 (by decide) n_354 rfl (ty := .int) (by decide +kernel) (fun _ => rfl) (fun _ => rfl) hf (fun w22 hf => ?_)
      refine J_iconst (pc := 72) C dX10_image_72 (v := 1) (by decide) ?_
      exact J_iret (pc := 73) C  rfl (by decide) dX10_image_73 hf
    · refine J_iconst (pc := 9) C dX10_image_9 (v := 0) (by decide) ?_
      exact J_iret (pc := 10) C  rfl (by decide) dX10_image_10 hf
set_option maxRecDepth 100000 in
set_option maxHeartbeats 4000000 in
theorem c_X10_again {l : Launch} {D : va_G} {dA : FieldType → ClassId} (fu : Nat) (w : MW) (v0 : Nat) (v1 : Int32) {rr : Int32} {w' : MW} (hf : f_X10_again fu w v0 v1 = some (rr, w')) : CT l D dA yX10_again cX10_again 3 (some .boolean) rmX10_again [.ref v0, .int v1] w (some (.int rr)) w' := by
  refine J_met (by decide) rfl (Nat.le_of_ble_eq_true rfl) (fun p e s m args below meth c A E C => ?_)
  rw [f_X10_again] at hf
  refine J_sub [0, 1] (L1 := [(0, .ref v0), (1, .int v1)]) rfl ?_
  refine J_iload_n (pc := 0) C dX10_again_0 rfl 1 rfl ?_
  refine J_if_lt (pc := 1) C dX10_again_1 (tgt := 21) (by decide) hf (fun _ hf => ?_) (fun _ hf => ?_)
  · refine J_iconst (pc := 21) C dX10_again_21 (v := 0) (by decide) ?_
    exact J_iret (pc := 22) C  rfl (by decide) dX10_again_22 hf
  · refine J_iload_n (pc := 4) C dX10_again_4 rfl 1 rfl ?_
    refine J_iconst (pc := 5) C dX10_again_5 (v := 3) (by decide) ?_
    refine J_icmp_ge (pc := 6) C dX10_again_6 (tgt := 21) (by decide) hf (fun _ hf => ?_) (fun _ hf => ?_)
    · refine J_iconst (pc := 21) C dX10_again_21 (v := 0) (by decide) ?_
      exact J_iret (pc := 22) C  rfl (by decide) dX10_again_22 hf
    · refine J_aload_n (pc := 9) C dX10_again_9 rfl 0 rfl ?_
      refine J_getR (pc := 10) C dX10_again_10 (ci := 10) (k0 := 6) rfl iX10 (by decide) k_374 hf (fun x1 hf => ?_)
      refine J_iload_n (pc := 13) C dX10_again_13 rfl 1 rfl ?_
      refine J_aald (Cn := RX1) (pc := 14) C 5 (fun _ => rfl) dX10_again_14 hf (fun x2 hf => ?_)
      refine J_getIN (pc := 15) C dX10_again_15 (ci := 1) (k0 := 3) rfl iX1 (by decide) n_350 hf (fun x3 hf => ?_)
      refine J_if_ne (pc := 18) C dX10_again_18 (tgt := 23) (by decide) hf (fun _ hf => ?_) (fun _ hf => ?_)
      · refine J_aload_n (pc := 23) C dX10_again_23 rfl 0 rfl ?_
        refine J_getR (pc := 24) C dX10_again_24 (ci := 10) (k0 := 6) rfl iX10 (by decide) k_374 hf (fun x4 hf => ?_)
        refine J_iload_n (pc := 27) C dX10_again_27 rfl 1 rfl ?_
        refine J_aald (Cn := RX1) (pc := 28) C 5 (fun _ => rfl) dX10_again_28 hf (fun x5 hf => ?_)
        refine J_astore_n (pc := 29) C dX10_again_29 rfl (by decide) [(2, .ref x5), (0, .ref v0), (1, .int v1)] rfl ?_
        refine J_aload_n (pc := 30) C dX10_again_30 rfl 0 rfl ?_
        refine J_getRN (pc := 31) C dX10_again_31 (ci := 1) (k0 := 0) rfl iX1 (by decide) n_344 hf (fun x6 hf => ?_)
        refine J_aload_n (pc := 34) C dX10_again_34 rfl 1 rfl ?_
        refine J_getR (pc := 35) C dX10_again_35 (ci := 10) (k0 := 0) rfl iX10 (by decide) k_368 hf (fun x7 hf => ?_)
        obtain ⟨q8, h9, hf⟩ := bind_ok hf
        obtain ⟨_, g10, h9⟩ := cl_spec h9
        refine J_cV (S := []) (pc := 38) C dX10_again_38 (c_X6_give _ _ _ _ h9) k_677 ys_X6_give ⟨Nat.le_of_ble_eq_true rfl, Nat.le_of_ble_eq_true rfl⟩ ⟨Nat.le_of_ble_eq_true rfl, Nat.le_of_ble_eq_true rfl⟩ g10 rfl rfl (fun _ => Nat.le_of_ble_eq_true rfl) ?_
        refine J_aload_n (pc := 41) C dX10_again_41 rfl 1 rfl ?_
        refine J_getR (pc := 42) C dX10_again_42 (ci := 10) (k0 := 2) rfl iX10 (by decide) k_370 hf (fun x11 hf => ?_)
        refine J_aload_n (pc := 45) C dX10_again_45 rfl 0 rfl ?_
        refine J_getRN (pc := 46) C dX10_again_46 (ci := 1) (k0 := 1) rfl iX1 (by decide) n_346 hf (fun x12 hf => ?_)
        obtain ⟨q13, h14, hf⟩ := bind_ok hf
        obtain ⟨_, g15, h14⟩ := cl_spec h14
        refine J_cV (S := []) (pc := 49) C dX10_again_49 (c_X4_copy _ _ _ h14) k_983 ys_X4_copy ⟨Nat.le_of_ble_eq_true rfl, Nat.le_of_ble_eq_true rfl⟩ ⟨Nat.le_of_ble_eq_true rfl, Nat.le_of_ble_eq_true rfl⟩ g15 rfl rfl (fun _ => Nat.le_of_ble_eq_true rfl) ?_
        refine J_aload_n (pc := 52) C dX10_again_52 rfl 1 rfl ?_
        refine J_getR (pc := 53) C dX10_again_53 (ci := 10) (k0 := 3) rfl iX10 (by decide) k_371 hf (fun x16 hf => ?_)
        refine J_aload_n (pc := 56) C dX10_again_56 rfl 0 rfl ?_
        refine J_getRN (pc := 57) C dX10_again_57 (ci := 1) (k0 := 2) rfl iX1 (by decide) n_348 hf (fun x17 hf => ?_)
        obtain ⟨q18, h19, hf⟩ := bind_ok hf
        obtain ⟨_, g20, h19⟩ := cl_spec h19
        refine J_cV (S := []) (pc := 60) C dX10_again_60 (c_X4_copy _ _ _ h19) k_983 ys_X4_copy ⟨Nat.le_of_ble_eq_true rfl, Nat.le_of_ble_eq_true rfl⟩ ⟨Nat.le_of_ble_eq_true rfl, Nat.le_of_ble_eq_true rfl⟩ g20 rfl rfl (fun _ => Nat.le_of_ble_eq_true rfl) ?_
        refine J_aload_n (pc := 63) C dX10_again_63 rfl 1 rfl ?_
        refine J_aload_n (pc := 64) C dX10_again_64 rfl 0 rfl ?_
        refine J_getIN (pc := 65) C dX10_again_65 (ci := 1) (k0 := 4) rfl iX1 (by decide) n_352 hf (fun x21 hf => ?_)
        refine J_put (pc := 68) C dX10_again_68 (ci := 10) (k0 := 7) rfl iX10 tyX10 tyX10_ok nmX10 (by decide) k_375 rfl (ty := .int) (by decide +kernel) (fun _ => rfl) (fun _ => rfl) hf (fun w22 hf => ?_)
        refine J_aload_n (pc := 71) C dX10_again_71 rfl 1 rfl ?_
        refine J_aload_n (pc := 72) C dX10_again_72 rfl 0 rfl ?_
        refine J_getIN (pc := 73) C dX10_again_73 (ci := 1) (k0 := 5) rfl iX1 (by decide) n_354 hf (fun x23 hf => ?_)
        refine J_put (pc := 76) C dX10_again_76 (ci := 10) (k0 := 8) rfl iX10 tyX10 tyX10_ok nmX10 (by decide) k_376 rfl (ty := .int) (by decide +kernel) (fun _ => rfl) (fun _ => rfl) hf (fun w24 hf => ?_)
        refine J_aload_n (pc := 79) C dX10_again_79 rfl 1 rfl ?_
        refine J_getR (pc := 80) C dX10_again_80 (ci := 10) (k0 := 1) rfl iX10 (by decide) k_369 hf (fun x25 hf => ?_)
        obtain ⟨q26, h27, hf⟩ := bind_ok hf
        obtain ⟨_, g28, h27⟩ := cl_spec h27
        refine J_cV (S := []) (pc := 83) C dX10_again_83 (c_X3_forget _ _ h27) k_681 ys_X3_forget ⟨Nat.le_of_ble_eq_true rfl, Nat.le_of_ble_eq_true rfl⟩ ⟨Nat.le_of_ble_eq_true rfl, Nat.le_of_ble_eq_true rfl⟩ g28 rfl rfl (fun _ => Nat.le_of_ble_eq_true rfl) ?_
        refine J_iconst (pc := 86) C dX10_again_86 (v := 1) (by decide) ?_
        exact J_iret (pc := 87) C  rfl (by decide) dX10_again_87 hf
      · refine J_iconst (pc := 21) C dX10_again_21 (v := 0) (by decide) ?_
        exact J_iret (pc := 22) C  rfl (by decide) dX10_again_22 hf
