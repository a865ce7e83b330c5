set_option maxRecDepth 100000 in
set_option maxHeartbeats 4000000 in
theorem c_X11_depth {l : Launch} {D : va_G} {dA : FieldType → ClassId} (fu : Nat) (w : MW) (v0 : Nat) (v1 : Int32) {rr : Int32} {w' : MW} (hf : f_X11_depth fu w v0 v1 = some (rr, w')) : CT l D dA yX11_depth cX11_depth 2 (some .int) rmX11_depth [.ref v0, .int v1] w (some (.int rr)) w' := by
  refine J_met (by decide) rfl (Nat.le_of_ble_eq_true rfl) (fun p e s m args below meth c A E C => ?_)
  rw [f_X11_depth] at hf
  refine J_sub [0, 1] (L1 := [(0, .ref v0), (1, .int v1)]) rfl ?_
  refine J_aload_n (pc := 0) C dX11_depth_0 rfl 0 rfl ?_
  refine J_iload_n (pc := 1) C dX11_depth_1 rfl 1 rfl ?_
  obtain ⟨q1, h2, hf⟩ := bind_ok hf
  obtain ⟨_, g3, h2⟩ := cl_spec h2
  refine J_cV (S := []) (pc := 2) C dX11_depth_2 (c_X11_goesTo _ _ _ _ h2) k_1259 ys_X11_goesTo ⟨Nat.le_of_ble_eq_true rfl, Nat.le_of_ble_eq_true rfl⟩ ⟨Nat.le_of_ble_eq_true rfl, Nat.le_of_ble_eq_true rfl⟩ g3 rfl rfl (fun _ => Nat.le_of_ble_eq_true rfl) ?_
  refine J_aload_n (pc := 5) C dX11_depth_5 rfl 0 rfl ?_
  refine J_getI (pc := 6) C dX11_depth_6 (ci := 11) (k0 := 15) rfl iX11 (by decide) k_1018 hf (fun x4 hf => ?_)
  exact J_iret (pc := 9) C  rfl rfl dX11_depth_9 hf
set_option maxRecDepth 100000 in
set_option maxHeartbeats 4000000 in
theorem c_X11_high {l : Launch} {D : va_G} {dA : FieldType → ClassId} (fu : Nat) (w : MW) (v0 : Nat) {rr : Int32} {w' : MW} (hf : f_X11_high fu w v0 = some (rr, w')) : CT l D dA yX11_high cX11_high 3 (some .int) rmX11_high [.ref v0] w (some (.int rr)) w' := by
  refine J_met (by decide) rfl (Nat.le_of_ble_eq_true rfl) (fun p e s m args below meth c A E C => ?_)
  have B34 : ∀ (lr4 : MW → Nat → Int32 → Int32 → Option (Int32 × MW)) (lh4 : ∀ (w : MW) (v0 : Nat) (v1 : Int32) (v2 : Int32), lr4 w v0 v1 v2 = some (rr, w') → JW p l e rmX11_high s m args below meth c 3 D dA A E (MQ below (Qr D dA E (some (.int rr)) w' A) args s 0 0 A) 0 0 4 [(0, .ref v0), (1, .int v1), (2, .int v2)] [] w) (w : MW) (v0 : Nat) (v2 : Int32) (s0 : Int32), f_X11_high_34 fu lr4 w v0 v2 s0 = some (rr, w') → JW p l e rmX11_high s m args below meth c 3 D dA A E (MQ below (Qr D dA E (some (.int rr)) w' A) args s 0 0 A) 0 0 34 [(0, .ref v0), (2, .int v2)] [.int s0] w := by
    intro lr4 lh4 w v0 v2 s0 hf
    rw [f_X11_high_34] at hf
    refine J_istore_n (pc := 34) C dX11_high_34 rfl (by decide) hf (fun q => [(1, .int q), (0, .ref v0), (2, .int v2)]) (fun _ => rfl) (fun x7 hf => ?_)
    refine J_iinc (pc := 35) C dX11_high_35 2 rfl (y := v2 + 1) rfl (by decide) hf (fun q => [(2, .int q), (1, .int x7), (0, .ref v0)]) (fun _ => rfl) (fun x8 hf => ?_)
    refine J_goto (pc := 38) C dX11_high_38 (tgt := 4) (by decide) ?_
    refine J_sub [2, 1, 0] (L1 := [(0, .ref v0), (1, .int x7), (2, .int x8)]) rfl ?_
    exact lh4 w v0 x7 x8 hf
  have B4 : ∀ (n : Nat) (w : MW) (v0 : Nat) (v1 : Int32) (v2 : Int32), f_X11_high_4 fu n w v0 v1 v2 = some (rr, w') → JW p l e rmX11_high s m args below meth c 3 D dA A E (MQ below (Qr D dA E (some (.int rr)) w' A) args s 0 0 A) 0 0 4 [(0, .ref v0), (1, .int v1), (2, .int v2)] [] w := by
    intro n
    induction n with
    | zero => intro w v0 v1 v2 hf; rw [f_X11_high_4] at hf; cases hf
    | succ n ih =>
      intro w v0 v1 v2 hf
      rw [f_X11_high_4] at hf
      refine J_iload_n (pc := 4) C dX11_high_4 rfl 2 rfl ?_
      refine J_aload_n (pc := 5) C dX11_high_5 rfl 0 rfl ?_
      refine J_getI (pc := 6) C dX11_high_6 (ci := 11) (k0 := 11) rfl iX11 (by decide) k_1014 hf (fun x3 hf => ?_)
      refine J_icmp_ge (pc := 9) C dX11_high_9 (tgt := 41) (by decide) hf (fun _ hf => ?_) (fun _ hf => ?_)
      · refine J_iload_n (pc := 41) C dX11_high_41 rfl 1 rfl ?_
        exact J_iret (pc := 42) C  rfl rfl dX11_high_42 hf
      · refine J_aload_n (pc := 12) C dX11_high_12 rfl 0 rfl ?_
        refine J_iload_n (pc := 13) C dX11_high_13 rfl 2 rfl ?_
        obtain ⟨q4, h5, hf⟩ := bind_ok hf
        obtain ⟨_, g6, h5⟩ := cl_spec h5
        refine J_cV (S := []) (pc := 14) C dX11_high_14 (c_X11_depth _ _ _ _ h5) k_1255 ys_X11_depth ⟨Nat.le_of_ble_eq_true rfl, Nat.le_of_ble_eq_true rfl⟩ ⟨Nat.le_of_ble_eq_true rfl, Nat.le_of_ble_eq_true rfl⟩ g6 rfl rfl (fun _ => Nat.le_of_ble_eq_true rfl) ?_
        refine J_iconst (pc := 17) C dX11_high_17 (v := 1) (by decide) ?_
        refine J_iadd (pc := 18) C dX11_high_18 ?_
        refine J_iload_n (pc := 19) C dX11_high_19 rfl 1 rfl ?_
        refine J_icmp_le (pc := 20) C dX11_high_20 (tgt := 33) (by decide) hf (fun _ hf => ?_) (fun _ hf => ?_)
        · refine J_iload_n (pc := 33) C dX11_high_33 rfl 1 rfl ?_
          refine J_sub [0, 2] (L1 := [(0, .ref v0), (2, .int v2)]) rfl ?_
          exact B34 (f_X11_high_4 fu n) ih q4.2 v0 v2 v1 hf
        · refine J_aload_n (pc := 23) C dX11_high_23 rfl 0 rfl ?_
          refine J_iload_n (pc := 24) C dX11_high_24 rfl 2 rfl ?_
          obtain ⟨q9, h10, hf⟩ := bind_ok hf
          obtain ⟨_, g11, h10⟩ := cl_spec h10
          refine J_cV (S := []) (pc := 25) C dX11_high_25 (c_X11_depth _ _ _ _ h10) k_1255 ys_X11_depth ⟨Nat.le_of_ble_eq_true rfl, Nat.le_of_ble_eq_true rfl⟩ ⟨Nat.le_of_ble_eq_true rfl, Nat.le_of_ble_eq_true rfl⟩ g11 rfl rfl (fun _ => Nat.le_of_ble_eq_true rfl) ?_
          refine J_iconst (pc := 28) C dX11_high_28 (v := 1) (by decide) ?_
          refine J_iadd (pc := 29) C dX11_high_29 ?_
          refine J_goto (pc := 30) C dX11_high_30 (tgt := 34) (by decide) ?_
          refine J_sub [0, 2] (L1 := [(0, .ref v0), (2, .int v2)]) rfl ?_
          exact B34 (f_X11_high_4 fu n) ih q9.2 v0 v2 (q9.1 + (1 : Int32)) hf
  rw [f_X11_high] at hf
  refine J_sub [0] (L1 := [(0, .ref v0)]) rfl ?_
  refine J_iconst (pc := 0) C dX11_high_0 (v := 0) (by decide) ?_
  refine J_istore_n (pc := 1) C dX11_high_1 rfl (by decide) hf (fun q => [(1, .int q), (0, .ref v0)]) (fun _ => rfl) (fun x1 hf => ?_)
  refine J_iconst (pc := 2) C dX11_high_2 (v := 0) (by decide) ?_
  refine J_istore_n (pc := 3) C dX11_high_3 rfl (by decide) hf (fun q => [(2, .int q), (1, .int x1), (0, .ref v0)]) (fun _ => rfl) (fun x2 hf => ?_)
  refine J_sub [2, 1, 0] (L1 := [(0, .ref v0), (1, .int x1), (2, .int x2)]) rfl ?_
  exact B4 fu w v0 x1 x2 hf
set_option maxRecDepth 100000 in
set_option maxHeartbeats 4000000 in
theorem c_X11_farOf {l : Launch} {D : va_G} {dA : FieldType → ClassId} (fu : Nat) (w : MW) (v0 : Nat) (v1 : Int32) (v2 : Int32) {rr : Int32} {w' : MW} (hf : f_X11_farOf fu w v0 v1 v2 = some (rr, w')) : CT l D dA yX11_farOf cX11_farOf 5 (some .int) rmX11_farOf [.ref v0, .int v1, .int v2] w (some (.int rr)) w' := by
  refine J_met (by decide) rfl (Nat.le_of_ble_eq_true rfl) (fun p e s m args below meth c A E C => ?_)
  have B21 : ∀ (w : MW) (v0 : Nat) (v1 : Int32) (v2 : Int32) (v3 : Int32) (s0 : Int32), f_X11_farOf_21 fu w v0 v1 v2 v3 s0 = some (rr, w') → JW p l e rmX11_farOf s m args below meth c 5 D dA A E (MQ below (Qr D dA E (some (.int rr)) w' A) args s 0 0 A) 0 0 21 [(0, .ref v0), (1, .int v1), (2, .int v2), (3, .int v3)] [.int s0] w := by
    intro w v0 v1 v2 v3 s0 hf
    rw [f_X11_farOf_21] at hf
    refine J_istore (pc := 21) C dX11_farOf_21 (by decide) hf (fun q => [(4, .int q), (0, .ref v0), (1, .int v1), (2, .int v2), (3, .int v3)]) (fun _ => rfl) (fun x2 hf => ?_)
    refine J_aload_n (pc := 23) C dX11_farOf_23 rfl 1 rfl ?_
    refine J_iload_n (pc := 24) C dX11_farOf_24 rfl 2 rfl ?_
    obtain ⟨q3, h4, hf⟩ := bind_ok hf
    obtain ⟨_, g5, h4⟩ := cl_spec h4
    refine J_cV (S := []) (pc := 25) C dX11_farOf_25 (c_X11_depth _ _ _ _ h4) k_1255 ys_X11_depth ⟨Nat.le_of_ble_eq_true rfl, Nat.le_of_ble_eq_true rfl⟩ ⟨Nat.le_of_ble_eq_true rfl, Nat.le_of_ble_eq_true rfl⟩ g5 rfl rfl (fun _ => Nat.le_of_ble_eq_true rfl) ?_
    refine J_aload_n (pc := 28) C dX11_farOf_28 rfl 1 rfl ?_
    refine J_iload_n (pc := 29) C dX11_farOf_29 rfl 3 rfl ?_
    obtain ⟨q6, h7, hf⟩ := bind_ok hf
    obtain ⟨_, g8, h7⟩ := cl_spec h7
    refine J_cV (S := [.int q3.1]) (pc := 30) C dX11_farOf_30 (c_X11_depth _ _ _ _ h7) k_1255 ys_X11_depth ⟨Nat.le_of_ble_eq_true rfl, Nat.le_of_ble_eq_true rfl⟩ ⟨Nat.le_of_ble_eq_true rfl, Nat.le_of_ble_eq_true rfl⟩ g8 rfl rfl (fun _ => Nat.le_of_ble_eq_true rfl) ?_
    refine J_iadd (pc := 33) C dX11_farOf_33 ?_
    refine J_iconst (pc := 34) C dX11_farOf_34 (v := 2) (by decide) ?_
    refine J_aload_n (pc := 35) C dX11_farOf_35 rfl 1 rfl ?_
    refine J_aload_n (pc := 36) C dX11_farOf_36 rfl 1 rfl ?_
    refine J_iload_n (pc := 37) C dX11_farOf_37 rfl 4 rfl ?_
    refine J_iload (pc := 38) C dX11_farOf_38 0 rfl ?_
    obtain ⟨q9, h10, hf⟩ := bind_ok hf
    obtain ⟨_, g11, h10⟩ := cl_spec h10
    refine J_cV (S := [.ref v0, .int (2 : Int32), .int (q3.1 + q6.1)]) (pc := 40) C dX11_farOf_40 (c_X11_ahead _ _ _ _ _ h10) k_1263 ys_X11_ahead ⟨Nat.le_of_ble_eq_true rfl, Nat.le_of_ble_eq_true rfl⟩ ⟨Nat.le_of_ble_eq_true rfl, Nat.le_of_ble_eq_true rfl⟩ g11 rfl rfl (fun _ => Nat.le_of_ble_eq_true rfl) ?_
    obtain ⟨q12, h13, hf⟩ := bind_ok hf
    obtain ⟨_, g14, h13⟩ := cl_spec h13
    refine J_cV (S := [.int (2 : Int32), .int (q3.1 + q6.1)]) (pc := 43) C dX11_farOf_43 (c_X11_depth _ _ _ _ h13) k_1255 ys_X11_depth ⟨Nat.le_of_ble_eq_true rfl, Nat.le_of_ble_eq_true rfl⟩ ⟨Nat.le_of_ble_eq_true rfl, Nat.le_of_ble_eq_true rfl⟩ g14 rfl rfl (fun _ => Nat.le_of_ble_eq_true rfl) ?_
    refine J_imul (pc := 46) C dX11_farOf_46 ?_
    refine J_isub (pc := 47) C dX11_farOf_47 ?_
    exact J_iret (pc := 48) C  rfl rfl dX11_farOf_48 hf
  have B10 : ∀ (w : MW) (v0 : Nat) (v1 : Int32) (v2 : Int32) (s0 : Int32), f_X11_farOf_10 fu w v0 v1 v2 s0 = some (rr, w') → JW p l e rmX11_farOf s m args below meth c 5 D dA A E (MQ below (Qr D dA E (some (.int rr)) w' A) args s 0 0 A) 0 0 10 [(0, .ref v0), (1, .int v1), (2, .int v2)] [.int s0] w := by
    intro w v0 v1 v2 s0 hf
    rw [f_X11_farOf_10] at hf
    refine J_istore_n (pc := 10) C dX11_farOf_10 rfl (by decide) hf (fun q => [(3, .int q), (0, .ref v0), (1, .int v1), (2, .int v2)]) (fun _ => rfl) (fun x1 hf => ?_)
    refine J_iload_n (pc := 11) C dX11_farOf_11 rfl 2 rfl ?_
    refine J_iload_n (pc := 12) C dX11_farOf_12 rfl 3 rfl ?_
    refine J_icmp_ge (pc := 13) C dX11_farOf_13 (tgt := 20) (by decide) hf (fun _ hf => ?_) (fun _ hf => ?_)
    · refine J_iload_n (pc := 20) C dX11_farOf_20 rfl 2 rfl ?_
      refine J_sub [1, 2, 3, 0] (L1 := [(0, .ref v0), (1, .int v1), (2, .int v2), (3, .int x1)]) rfl ?_
      exact B21 w v0 v1 v2 x1 v1 hf
    · refine J_iload_n (pc := 16) C dX11_farOf_16 rfl 3 rfl ?_
      refine J_goto (pc := 17) C dX11_farOf_17 (tgt := 21) (by decide) ?_
      refine J_sub [1, 2, 3, 0] (L1 := [(0, .ref v0), (1, .int v1), (2, .int v2), (3, .int x1)]) rfl ?_
      exact B21 w v0 v1 v2 x1 v2 hf
  rw [f_X11_farOf] at hf
  refine J_sub [0, 1, 2] (L1 := [(0, .ref v0), (1, .int v1), (2, .int v2)]) rfl ?_
  refine J_iload_n (pc := 0) C dX11_farOf_0 rfl 1 rfl ?_
  refine J_iload_n (pc := 1) C dX11_farOf_1 rfl 2 rfl ?_
  refine J_icmp_ge (pc := 2) C dX11_farOf_2 (tgt := 9) (by decide) hf (fun _ hf => ?_) (fun _ hf => ?_)
  · refine J_iload_n (pc := 9) C dX11_farOf_9 rfl 2 rfl ?_
    refine J_sub [0, 1, 2] (L1 := [(0, .ref v0), (1, .int v1), (2, .int v2)]) rfl ?_
    exact B10 w v0 v1 v2 v2 hf
  · refine J_iload_n (pc := 5) C dX11_farOf_5 rfl 1 rfl ?_
    refine J_goto (pc := 6) C dX11_farOf_6 (tgt := 10) (by decide) ?_
    refine J_sub [0, 1, 2] (L1 := [(0, .ref v0), (1, .int v1), (2, .int v2)]) rfl ?_
    exact B10 w v0 v1 v2 v1 hf
set_option maxRecDepth 100000 in
set_option maxHeartbeats 4000000 in
theorem c_X11_endsRun {l : Launch} {D : va_G} {dA : FieldType → ClassId} (fu : Nat) (w : MW) (v0 : Nat) {w' : MW} (hf : f_X11_endsRun fu w v0 = some w') : CT l D dA yX11_endsRun cX11_endsRun 2 none rmX11_endsRun [.ref v0] w none w' := by
  refine J_met (by decide) rfl (Nat.le_of_ble_eq_true rfl) (fun p e s m args below meth c A E C => ?_)
  have B59 : ∀ (n : Nat) (w : MW) (v0 : Nat) (v1 : Int32), f_X11_endsRun_59 fu n w v0 v1 = some w' → JW p l e rmX11_endsRun s m args below meth c 2 D dA A E (MQ below (Qr D dA E none w' A) args s 0 0 A) 0 0 59 [(0, .ref v0), (1, .int v1)] [] w := by
    intro n
    induction n with
    | zero => intro w v0 v1 hf; rw [f_X11_endsRun_59] at hf; cases hf
    | succ n ih =>
      intro w v0 v1 hf
      rw [f_X11_endsRun_59] at hf
      refine J_iload_n (pc := 59) C dX11_endsRun_59 rfl 1 rfl ?_
      refine J_iconst (pc := 60) C dX11_endsRun_60 (v := 1) (by decide) ?_
      refine J_icmp_le (pc := 61) C dX11_endsRun_61 (tgt := 81) (by decide) hf (fun _ hf => ?_) (fun _ hf => ?_)
      · exact J_vret (pc := 81) C rfl dX11_endsRun_81 hf
      · refine J_aload_n (pc := 64) C dX11_endsRun_64 rfl 0 rfl ?_
        refine J_dup (pc := 65) C dX11_endsRun_65 rfl ?_
        refine J_getI (pc := 66) C dX11_endsRun_66 (ci := 11) (k0 := 17) rfl iX11 (by decide) k_1020 hf (fun x12 hf => ?_)
        refine J_iconst (pc := 69) C dX11_endsRun_69 (v := 1) (by decide) ?_
        refine J_iadd (pc := 70) C dX11_endsRun_70 ?_
        refine J_put (pc := 71) C dX11_endsRun_71 (ci := 11) (k0 := 17) rfl iX11 tyX11 tyX11_ok nmX11 (by decide) k_1020 rfl (ty := .int) (by decide +kernel) (fun _ => rfl) (fun _ => rfl) hf (fun w13 hf => ?_)
        refine J_iload_n (pc := 74) C dX11_endsRun_74 rfl 1 rfl ?_
        refine J_iconst (pc := 75) C dX11_endsRun_75 (v := 2) (by decide) ?_
        refine J_idivL (pc := 76) C dX11_endsRun_76 (by decide) ?_
        refine J_istore_n (pc := 77) C dX11_endsRun_77 rfl (by decide) hf (fun q => [(1, .int q), (0, .ref v0)]) (fun _ => rfl) (fun x14 hf => ?_)
        refine J_goto (pc := 78) C dX11_endsRun_78 (tgt := 59) (by decide) ?_
        refine J_sub [1, 0] (L1 := [(0, .ref v0), (1, .int x14)]) rfl ?_
        exact ih w13 v0 x14 hf
  have B41 : ∀ (w : MW) (v0 : Nat) (s0 : Nat) (s1 : Int32), f_X11_endsRun_41 fu w v0 s0 s1 = some w' → JW p l e rmX11_endsRun s m args below meth c 2 D dA A E (MQ below (Qr D dA E none w' A) args s 0 0 A) 0 0 41 [(0, .ref v0)] [.int s1, .ref s0] w := by
    intro w v0 s0 s1 hf
    rw [f_X11_endsRun_41] at hf
    refine J_put (pc := 41) C dX11_endsRun_41 (ci := 11) (k0 := 18) rfl iX11 tyX11 tyX11_ok nmX11 (by decide) k_1021 rfl (ty := .int) (by decide +kernel) (fun _ => rfl) (fun _ => rfl) hf (fun w7 hf => ?_)
    refine J_aload_n (pc := 44) C dX11_endsRun_44 rfl 0 rfl ?_
    refine J_dup (pc := 45) C dX11_endsRun_45 rfl ?_
    refine J_getI (pc := 46) C dX11_endsRun_46 (ci := 11) (k0 := 17) rfl iX11 (by decide) k_1020 hf (fun x8 hf => ?_)
    refine J_iconst (pc := 49) C dX11_endsRun_49 (v := 1) (by decide) ?_
    refine J_iadd (pc := 50) C dX11_endsRun_50 ?_
    refine J_put (pc := 51) C dX11_endsRun_51 (ci := 11) (k0 := 17) rfl iX11 tyX11 tyX11_ok nmX11 (by decide) k_1020 rfl (ty := .int) (by decide +kernel) (fun _ => rfl) (fun _ => rfl) hf (fun w9 hf => ?_)
    refine J_aload_n (pc := 54) C dX11_endsRun_54 rfl 0 rfl ?_
    refine J_getI (pc := 55) C dX11_endsRun_55 (ci := 11) (k0 := 19) rfl iX11 (by decide) k_1022 hf (fun x10 hf => ?_)
    refine J_istore_n (pc := 58) C dX11_endsRun_58 rfl (by decide) hf (fun q => [(1, .int q), (0, .ref v0)]) (fun _ => rfl) (fun x11 hf => ?_)
    refine J_sub [1, 0] (L1 := [(0, .ref v0), (1, .int x11)]) rfl ?_
    exact B59 fu w9 v0 x11 hf
  rw [f_X11_endsRun] at hf
  refine J_sub [0] (L1 := [(0, .ref v0)]) rfl ?_
  refine J_aload_n (pc := 0) C dX11_endsRun_0 rfl 0 rfl ?_
  refine J_getI (pc := 1) C dX11_endsRun_1 (ci := 11) (k0 := 19) rfl iX11 (by decide) k_1022 hf (fun x1 hf => ?_)
  refine J_if_ne (pc := 4) C dX11_endsRun_4 (tgt := 8) (by decide) hf (fun _ hf => ?_) (fun _ hf => ?_)
  · refine J_aload_n (pc := 8) C dX11_endsRun_8 rfl 0 rfl ?_
    refine J_dup (pc := 9) C dX11_endsRun_9 rfl ?_
    refine J_getI (pc := 10) C dX11_endsRun_10 (ci := 11) (k0 := 16) rfl iX11 (by decide) k_1019 hf (fun x2 hf => ?_)
    refine J_iconst (pc := 13) C dX11_endsRun_13 (v := 1) (by decide) ?_
    refine J_iadd (pc := 14) C dX11_endsRun_14 ?_
    refine J_put (pc := 15) C dX11_endsRun_15 (ci := 11) (k0 := 16) rfl iX11 tyX11 tyX11_ok nmX11 (by decide) k_1019 rfl (ty := .int) (by decide +kernel) (fun _ => rfl) (fun _ => rfl) hf (fun w3 hf => ?_)
    refine J_aload_n (pc := 18) C dX11_endsRun_18 rfl 0 rfl ?_
    refine J_aload_n (pc := 19) C dX11_endsRun_19 rfl 0 rfl ?_
    refine J_getI (pc := 20) C dX11_endsRun_20 (ci := 11) (k0 := 19) rfl iX11 (by decide) k_1022 hf (fun x4 hf => ?_)
    refine J_aload_n (pc := 23) C dX11_endsRun_23 rfl 0 rfl ?_
    refine J_getI (pc := 24) C dX11_endsRun_24 (ci := 11) (k0 := 18) rfl iX11 (by decide) k_1021 hf (fun x5 hf => ?_)
    refine J_icmp_le (pc := 27) C dX11_endsRun_27 (tgt := 37) (by decide) hf (fun _ hf => ?_) (fun _ hf => ?_)
    · refine J_aload_n (pc := 37) C dX11_endsRun_37 rfl 0 rfl ?_
      refine J_getI (pc := 38) C dX11_endsRun_38 (ci := 11) (k0 := 18) rfl iX11 (by decide) k_1021 hf (fun x6 hf => ?_)
      refine J_sub [0] (L1 := [(0, .ref v0)]) rfl ?_
      exact B41 w3 v0 v0 x6 hf
    · refine J_aload_n (pc := 30) C dX11_endsRun_30 rfl 0 rfl ?_
      refine J_getI (pc := 31) C dX11_endsRun_31 (ci := 11) (k0 := 19) rfl iX11 (by decide) k_1022 hf (fun x15 hf => ?_)
      refine J_goto (pc := 34) C dX11_endsRun_34 (tgt := 41) (by decide) ?_
      refine J_sub [0] (L1 := [(0, .ref v0)]) rfl ?_
      exact B41 w3 v0 v0 x15 hf
  · exact J_vret (pc := 7) C rfl dX11_endsRun_7 hf
set_option maxRecDepth 100000 in
set_option maxHeartbeats 4000000 in
theorem c_X11_goes {l : Launch} {D : va_G} {dA : FieldType → ClassId} (fu : Nat) (w : MW) (v0 : Nat) (v1 : Int32) {w' : MW} (hf : f_X11_goes fu w v0 v1 = some w') : CT l D dA yX11_goes cX11_goes 2 none rmX11_goes [.ref v0, .int v1] w none w' := by
  refine J_met (by decide) rfl (Nat.le_of_ble_eq_true rfl) (fun p e s m args below meth c A E C => ?_)
  have B22 : ∀ (w : MW) (v0 : Nat), f_X11_goes_22 fu w v0 = some w' → JW p l e rmX11_goes s m args below meth c 2 D dA A E (MQ below (Qr D dA E none w' A) args s 0 0 A) 0 0 22 [(0, .ref v0)] [] w := by
    intro w v0 hf
    rw [f_X11_goes_22] at hf
    refine J_aload_n (pc := 22) C dX11_goes_22 rfl 0 rfl ?_
    refine J_dup (pc := 23) C dX11_goes_23 rfl ?_
    refine J_getI (pc := 24) C dX11_goes_24 (ci := 11) (k0 := 19) rfl iX11 (by decide) k_1022 hf (fun x2 hf => ?_)
    refine J_iconst (pc := 27) C dX11_goes_27 (v := 1) (by decide) ?_
    refine J_iadd (pc := 28) C dX11_goes_28 ?_
    refine J_put (pc := 29) C dX11_goes_29 (ci := 11) (k0 := 19) rfl iX11 tyX11 tyX11_ok nmX11 (by decide) k_1022 rfl (ty := .int) (by decide +kernel) (fun _ => rfl) (fun _ => rfl) hf (fun w3 hf => ?_)
    exact J_vret (pc := 32) C rfl dX11_goes_32 hf
  rw [f_X11_goes] at hf
  refine J_sub [0, 1] (L1 := [(0, .ref v0), (1, .int v1)]) rfl ?_
  refine J_iload_n (pc := 0) C dX11_goes_0 rfl 1 rfl ?_
  refine J_aload_n (pc := 1) C dX11_goes_1 rfl 0 rfl ?_
  refine J_getI (pc := 2) C dX11_goes_2 (ci := 11) (k0 := 20) rfl iX11 (by decide) k_1023 hf (fun x1 hf => ?_)
  refine J_icmp_eq (pc := 5) C dX11_goes_5 (tgt := 22) (by decide) hf (fun _ hf => ?_) (fun _ hf => ?_)
  · refine J_sub [0] (L1 := [(0, .ref v0)]) rfl ?_
    exact B22 w v0 hf
  · refine J_aload_n (pc := 8) C dX11_goes_8 rfl 0 rfl ?_
    obtain ⟨q4, h5, hf⟩ := bind_ok hf
    obtain ⟨_, g6, h5⟩ := cl_spec h5
    refine J_cV (S := []) (pc := 9) C dX11_goes_9 (c_X11_endsRun _ _ _ h5) k_1203 ys_X11_endsRun ⟨Nat.le_of_ble_eq_true rfl, Nat.le_of_ble_eq_true rfl⟩ ⟨Nat.le_of_ble_eq_true rfl, Nat.le_of_ble_eq_true rfl⟩ g6 rfl rfl (fun _ => Nat.le_of_ble_eq_true rfl) ?_
    refine J_aload_n (pc := 12) C dX11_goes_12 rfl 0 rfl ?_
    refine J_iconst (pc := 13) C dX11_goes_13 (v := 0) (by decide) ?_
    refine J_put (pc := 14) C dX11_goes_14 (ci := 11) (k0 := 19) rfl iX11 tyX11 tyX11_ok nmX11 (by decide) k_1022 rfl (ty := .int) (by decide +kernel) (fun _ => rfl) (fun _ => rfl) hf (fun w7 hf => ?_)
    refine J_aload_n (pc := 17) C dX11_goes_17 rfl 0 rfl ?_
    refine J_iload_n (pc := 18) C dX11_goes_18 rfl 1 rfl ?_
    refine J_put (pc := 19) C dX11_goes_19 (ci := 11) (k0 := 20) rfl iX11 tyX11 tyX11_ok nmX11 (by decide) k_1023 rfl (ty := .int) (by decide +kernel) (fun _ => rfl) (fun _ => rfl) hf (fun w8 hf => ?_)
    refine J_sub [0] (L1 := [(0, .ref v0)]) rfl ?_
    exact B22 w8 v0 hf
set_option maxRecDepth 100000 in
set_option maxHeartbeats 4000000 in
theorem c_X11_laysRuns {l : Launch} {D : va_G} {dA : FieldType → ClassId} (fu : Nat) (w : MW) (v0 : Nat) (v1 : Int32) (v2 : Int32) {w' : MW} (hf : f_X11_laysRuns fu w v0 v1 v2 = some w') : CT l D dA yX11_laysRuns cX11_laysRuns 7 none rmX11_laysRuns [.ref v0, .int v1, .int v2] w none w' := by
  refine J_met (by decide) rfl (Nat.le_of_ble_eq_true rfl) (fun p e s m args below meth c A E C => ?_)
  have B146 : ∀ (lr30 : MW → Nat → Int32 → Int32 → Int32 → Int32 → Option MW) (lh30 : ∀ (w : MW) (v0 : Nat) (v1 : Int32) (v2 : Int32) (v3 : Int32) (v4 : Int32), lr30 w v0 v1 v2 v3 v4 = some w' → JW p l e rmX11_laysRuns s m args below meth c 7 D dA A E (MQ below (Qr D dA E none w' A) args s 0 0 A) 0 0 30 [(0, .ref v0), (1, .int v1), (2, .int v2), (3, .int v3), (4, .int v4)] [] w) (w : MW) (v0 : Nat) (v1 : Int32) (v2 : Int32) (v3 : Int32) (s0 : Int32) (s1 : Int32), f_X11_laysRuns_146 fu lr30 w v0 v1 v2 v3 s0 s1 = some w' → JW p l e rmX11_laysRuns s m args below meth c 7 D dA A E (MQ below (Qr D dA E none w' A) args s 0 0 A) 0 0 146 [(0, .ref v0), (1, .int v1), (2, .int v2), (3, .int v3)] [.int s1, .int s0] w := by
    intro lr30 lh30 w v0 v1 v2 v3 s0 s1 hf
    rw [f_X11_laysRuns_146] at hf
    refine J_iadd (pc := 146) C dX11_laysRuns_146 ?_
    refine J_istore (pc := 147) C dX11_laysRuns_147 (by decide) hf (fun q => [(4, .int q), (0, .ref v0), (1, .int v1), (2, .int v2), (3, .int v3)]) (fun _ => rfl) (fun x23 hf => ?_)
    refine J_goto (pc := 149) C dX11_laysRuns_149 (tgt := 30) (by decide) ?_
    refine J_sub [1, 2, 3, 4, 0] (L1 := [(0, .ref v0), (1, .int v1), (2, .int v2), (3, .int v3), (4, .int x23)]) rfl ?_
    exact lh30 w v0 v1 v2 v3 x23 hf
  have B130 : ∀ (lr30 : MW → Nat → Int32 → Int32 → Int32 → Int32 → Option MW) (lh30 : ∀ (w : MW) (v0 : Nat) (v1 : Int32) (v2 : Int32) (v3 : Int32) (v4 : Int32), lr30 w v0 v1 v2 v3 v4 = some w' → JW p l e rmX11_laysRuns s m args below meth c 7 D dA A E (MQ below (Qr D dA E none w' A) args s 0 0 A) 0 0 30 [(0, .ref v0), (1, .int v1), (2, .int v2), (3, .int v3), (4, .int v4)] [] w) (w : MW) (v0 : Nat) (v1 : Int32) (v2 : Int32) (v4 : Int32) (v5 : Int32) (v6 : Int32) (s0 : Int32) (s1 : Int32), f_X11_laysRuns_130 fu lr30 w v0 v1 v2 v4 v5 v6 s0 s1 = some w' → JW p l e rmX11_laysRuns s m args below meth c 7 D dA A E (MQ below (Qr D dA E none w' A) args s 0 0 A) 0 0 130 [(0, .ref v0), (1, .int v1), (2, .int v2), (4, .int v4), (5, .int v5), (6, .int v6)] [.int s1, .int s0] w := by
    intro lr30 lh30 w v0 v1 v2 v4 v5 v6 s0 s1 hf
    rw [f_X11_laysRuns_130] at hf
    refine J_iadd (pc := 130) C dX11_laysRuns_130 ?_
    refine J_istore_n (pc := 131) C dX11_laysRuns_131 rfl (by decide) hf (fun q => [(3, .int q), (0, .ref v0), (1, .int v1), (2, .int v2), (4, .int v4), (5, .int v5), (6, .int v6)]) (fun _ => rfl) (fun x22 hf => ?_)
    refine J_iload (pc := 132) C dX11_laysRuns_132 4 rfl ?_
    refine J_iload (pc := 134) C dX11_laysRuns_134 6 rfl ?_
    refine J_iload (pc := 136) C dX11_laysRuns_136 5 rfl ?_
    refine J_icmp_gt (pc := 138) C dX11_laysRuns_138 (tgt := 145) (by decide) hf (fun _ hf => ?_) (fun _ hf => ?_)
    · refine J_iconst (pc := 145) C dX11_laysRuns_145 (v := 0) (by decide) ?_
      refine J_sub [1, 2, 3, 0] (L1 := [(0, .ref v0), (1, .int v1), (2, .int v2), (3, .int x22)]) rfl ?_
      exact B146 lr30 lh30 w v0 v1 v2 x22 v4 (0 : Int32) hf
    · refine J_iconst (pc := 141) C dX11_laysRuns_141 (v := 1) (by decide) ?_
      refine J_goto (pc := 142) C dX11_laysRuns_142 (tgt := 146) (by decide) ?_
      refine J_sub [1, 2, 3, 0] (L1 := [(0, .ref v0), (1, .int v1), (2, .int v2), (3, .int x22)]) rfl ?_
      exact B146 lr30 lh30 w v0 v1 v2 x22 v4 (1 : Int32) hf
  have B117 : ∀ (lr30 : MW → Nat → Int32 → Int32 → Int32 → Int32 → Option MW) (lh30 : ∀ (w : MW) (v0 : Nat) (v1 : Int32) (v2 : Int32) (v3 : Int32) (v4 : Int32), lr30 w v0 v1 v2 v3 v4 = some w' → JW p l e rmX11_laysRuns s m args below meth c 7 D dA A E (MQ below (Qr D dA E none w' A) args s 0 0 A) 0 0 30 [(0, .ref v0), (1, .int v1), (2, .int v2), (3, .int v3), (4, .int v4)] [] w) (w : MW) (v0 : Nat) (v1 : Int32) (v2 : Int32) (v3 : Int32) (v4 : Int32) (v5 : Int32) (v6 : Int32), f_X11_laysRuns_117 fu lr30 w v0 v1 v2 v3 v4 v5 v6 = some w' → JW p l e rmX11_laysRuns s m args below meth c 7 D dA A E (MQ below (Qr D dA E none w' A) args s 0 0 A) 0 0 117 [(0, .ref v0), (1, .int v1), (2, .int v2), (3, .int v3), (4, .int v4), (5, .int v5), (6, .int v6)] [] w := by
    intro lr30 lh30 w v0 v1 v2 v3 v4 v5 v6 hf
    rw [f_X11_laysRuns_117] at hf
    refine J_iload_n (pc := 117) C dX11_laysRuns_117 rfl 3 rfl ?_
    refine J_iload (pc := 118) C dX11_laysRuns_118 5 rfl ?_
    refine J_iload (pc := 120) C dX11_laysRuns_120 6 rfl ?_
    refine J_icmp_gt (pc := 122) C dX11_laysRuns_122 (tgt := 129) (by decide) hf (fun _ hf => ?_) (fun _ hf => ?_)
    · refine J_iconst (pc := 129) C dX11_laysRuns_129 (v := 0) (by decide) ?_
      refine J_sub [0, 1, 2, 4, 5, 6] (L1 := [(0, .ref v0), (1, .int v1), (2, .int v2), (4, .int v4), (5, .int v5), (6, .int v6)]) rfl ?_
      exact B130 lr30 lh30 w v0 v1 v2 v4 v5 v6 v3 (0 : Int32) hf
    · refine J_iconst (pc := 125) C dX11_laysRuns_125 (v := 1) (by decide) ?_
      refine J_goto (pc := 126) C dX11_laysRuns_126 (tgt := 130) (by decide) ?_
      refine J_sub [0, 1, 2, 4, 5, 6] (L1 := [(0, .ref v0), (1, .int v1), (2, .int v2), (4, .int v4), (5, .int v5), (6, .int v6)]) rfl ?_
      exact B130 lr30 lh30 w v0 v1 v2 v4 v5 v6 v3 (1 : Int32) hf
  have B95 : ∀ (lr30 : MW → Nat → Int32 → Int32 → Int32 → Int32 → Option MW) (lh30 : ∀ (w : MW) (v0 : Nat) (v1 : Int32) (v2 : Int32) (v3 : Int32) (v4 : Int32), lr30 w v0 v1 v2 v3 v4 = some w' → JW p l e rmX11_laysRuns s m args below meth c 7 D dA A E (MQ below (Qr D dA E none w' A) args s 0 0 A) 0 0 30 [(0, .ref v0), (1, .int v1), (2, .int v2), (3, .int v3), (4, .int v4)] [] w) (w : MW) (v0 : Nat) (v1 : Int32) (v2 : Int32) (v3 : Int32) (v4 : Int32) (v5 : Int32) (s0 : Int32), f_X11_laysRuns_95 fu lr30 w v0 v1 v2 v3 v4 v5 s0 = some w' → JW p l e rmX11_laysRuns s m args below meth c 7 D dA A E (MQ below (Qr D dA E none w' A) args s 0 0 A) 0 0 95 [(0, .ref v0), (1, .int v1), (2, .int v2), (3, .int v3), (4, .int v4), (5, .int v5)] [.int s0] w := by
    intro lr30 lh30 w v0 v1 v2 v3 v4 v5 s0 hf
    rw [f_X11_laysRuns_95] at hf
    refine J_istore (pc := 95) C dX11_laysRuns_95 (by decide) hf (fun q => [(6, .int q), (0, .ref v0), (1, .int v1), (2, .int v2), (3, .int v3), (4, .int v4), (5, .int v5)]) (fun _ => rfl) (fun x18 hf => ?_)
    refine J_iload (pc := 97) C dX11_laysRuns_97 6 rfl ?_
    refine J_iload (pc := 99) C dX11_laysRuns_99 0 rfl ?_
    refine J_icmp_gt (pc := 101) C dX11_laysRuns_101 (tgt := 112) (by decide) hf (fun _ hf => ?_) (fun _ hf => ?_)
    · refine J_aload_n (pc := 112) C dX11_laysRuns_112 rfl 1 rfl ?_
      refine J_iconst (pc := 113) C dX11_laysRuns_113 (v := 1) (by decide) ?_
      obtain ⟨q19, h20, hf⟩ := bind_ok hf
      obtain ⟨_, g21, h20⟩ := cl_spec h20
      refine J_cV (S := []) (pc := 114) C dX11_laysRuns_114 (c_X11_goes _ _ _ _ h20) k_1199 ys_X11_goes ⟨Nat.le_of_ble_eq_true rfl, Nat.le_of_ble_eq_true rfl⟩ ⟨Nat.le_of_ble_eq_true rfl, Nat.le_of_ble_eq_true rfl⟩ g21 rfl rfl (fun _ => Nat.le_of_ble_eq_true rfl) ?_
      refine J_sub [1, 2, 3, 4, 5, 6, 0] (L1 := [(0, .ref v0), (1, .int v1), (2, .int v2), (3, .int v3), (4, .int v4), (5, .int v5), (6, .int x18)]) rfl ?_
      exact B117 lr30 lh30 q19 v0 v1 v2 v3 v4 v5 x18 hf
    · refine J_aload_n (pc := 104) C dX11_laysRuns_104 rfl 1 rfl ?_
      refine J_iconst (pc := 105) C dX11_laysRuns_105 (v := 0) (by decide) ?_
      obtain ⟨q24, h25, hf⟩ := bind_ok hf
      obtain ⟨_, g26, h25⟩ := cl_spec h25
      refine J_cV (S := []) (pc := 106) C dX11_laysRuns_106 (c_X11_goes _ _ _ _ h25) k_1199 ys_X11_goes ⟨Nat.le_of_ble_eq_true rfl, Nat.le_of_ble_eq_true rfl⟩ ⟨Nat.le_of_ble_eq_true rfl, Nat.le_of_ble_eq_true rfl⟩ g26 rfl rfl (fun _ => Nat.le_of_ble_eq_true rfl) ?_
      refine J_goto (pc := 109) C dX11_laysRuns_109 (tgt := 117) (by decide) ?_
      refine J_sub [1, 2, 3, 4, 5, 6, 0] (L1 := [(0, .ref v0), (1, .int v1), (2, .int v2), (3, .int v3), (4, .int v4), (5, .int v5), (6, .int x18)]) rfl ?_
      exact B117 lr30 lh30 q24 v0 v1 v2 v3 v4 v5 x18 hf
  have B70 : ∀ (lr30 : MW → Nat → Int32 → Int32 → Int32 → Int32 → Option MW) (lh30 : ∀ (w : MW) (v0 : Nat) (v1 : Int32) (v2 : Int32) (v3 : Int32) (v4 : Int32), lr30 w v0 v1 v2 v3 v4 = some w' → JW p l e rmX11_laysRuns s m args below meth c 7 D dA A E (MQ below (Qr D dA E none w' A) args s 0 0 A) 0 0 30 [(0, .ref v0), (1, .int v1), (2, .int v2), (3, .int v3), (4, .int v4)] [] w) (w : MW) (v0 : Nat) (v1 : Int32) (v2 : Int32) (v3 : Int32) (v4 : Int32) (s0 : Int32), f_X11_laysRuns_70 fu lr30 w v0 v1 v2 v3 v4 s0 = some w' → JW p l e rmX11_laysRuns s m args below meth c 7 D dA A E (MQ below (Qr D dA E none w' A) args s 0 0 A) 0 0 70 [(0, .ref v0), (1, .int v1), (2, .int v2), (3, .int v3), (4, .int v4)] [.int s0] w := by
    intro lr30 lh30 w v0 v1 v2 v3 v4 s0 hf
    rw [f_X11_laysRuns_70] at hf
    refine J_istore (pc := 70) C dX11_laysRuns_70 (by decide) hf (fun q => [(5, .int q), (0, .ref v0), (1, .int v1), (2, .int v2), (3, .int v3), (4, .int v4)]) (fun _ => rfl) (fun x14 hf => ?_)
    refine J_iload (pc := 72) C dX11_laysRuns_72 5 rfl ?_
    refine J_aload_n (pc := 74) C dX11_laysRuns_74 rfl 1 rfl ?_
    refine J_iload_n (pc := 75) C dX11_laysRuns_75 rfl 3 rfl ?_
    obtain ⟨q15, h16, hf⟩ := bind_ok hf
    obtain ⟨_, g17, h16⟩ := cl_spec h16
    refine J_cV (S := [.int v4]) (pc := 76) C dX11_laysRuns_76 (c_X11_many _ _ _ h16) k_1111 ys_X11_many ⟨Nat.le_of_ble_eq_true rfl, Nat.le_of_ble_eq_true rfl⟩ ⟨Nat.le_of_ble_eq_true rfl, Nat.le_of_ble_eq_true rfl⟩ g17 rfl rfl (fun _ => Nat.le_of_ble_eq_true rfl) ?_
    refine J_icmp_ge (pc := 79) C dX11_laysRuns_79 (tgt := 92) (by decide) hf (fun _ hf => ?_) (fun _ hf => ?_)
    · refine J_sipush (pc := 92) C dX11_laysRuns_92 (v := 10000) (by decide) ?_
      refine J_sub [1, 2, 3, 4, 5, 0] (L1 := [(0, .ref v0), (1, .int v1), (2, .int v2), (3, .int v3), (4, .int v4), (5, .int x14)]) rfl ?_
      exact B95 lr30 lh30 w v0 v1 v2 v3 v4 x14 (10000 : Int32) hf
    · refine J_aload_n (pc := 82) C dX11_laysRuns_82 rfl 1 rfl ?_
      refine J_iload_n (pc := 83) C dX11_laysRuns_83 rfl 3 rfl ?_
      refine J_iload (pc := 84) C dX11_laysRuns_84 5 rfl ?_
      obtain ⟨q27, h28, hf⟩ := bind_ok hf
      obtain ⟨_, g29, h28⟩ := cl_spec h28
      refine J_cV (S := []) (pc := 86) C dX11_laysRuns_86 (c_X11_keyAt _ _ _ _ h28) k_1115 ys_X11_keyAt ⟨Nat.le_of_ble_eq_true rfl, Nat.le_of_ble_eq_true rfl⟩ ⟨Nat.le_of_ble_eq_true rfl, Nat.le_of_ble_eq_true rfl⟩ g29 rfl rfl (fun _ => Nat.le_of_ble_eq_true rfl) ?_
      refine J_goto (pc := 89) C dX11_laysRuns_89 (tgt := 95) (by decide) ?_
      refine J_sub [1, 2, 3, 4, 5, 0] (L1 := [(0, .ref v0), (1, .int v1), (2, .int v2), (3, .int v3), (4, .int v4), (5, .int x14)]) rfl ?_
      exact B95 lr30 lh30 w v0 v1 v2 v3 v4 x14 q27 hf
  have B49 : ∀ (lr30 : MW → Nat → Int32 → Int32 → Int32 → Int32 → Option MW) (lh30 : ∀ (w : MW) (v0 : Nat) (v1 : Int32) (v2 : Int32) (v3 : Int32) (v4 : Int32), lr30 w v0 v1 v2 v3 v4 = some w' → JW p l e rmX11_laysRuns s m args below meth c 7 D dA A E (MQ below (Qr D dA E none w' A) args s 0 0 A) 0 0 30 [(0, .ref v0), (1, .int v1), (2, .int v2), (3, .int v3), (4, .int v4)] [] w) (w : MW) (v0 : Nat) (v1 : Int32) (v2 : Int32) (v3 : Int32) (v4 : Int32), f_X11_laysRuns_49 fu lr30 w v0 v1 v2 v3 v4 = some w' → JW p l e rmX11_laysRuns s m args below meth c 7 D dA A E (MQ below (Qr D dA E none w' A) args s 0 0 A) 0 0 49 [(0, .ref v0), (1, .int v1), (2, .int v2), (3, .int v3), (4, .int v4)] [] w := by
    intro lr30 lh30 w v0 v1 v2 v3 v4 hf
    rw [f_X11_laysRuns_49] at hf
    refine J_iload_n (pc := 49) C dX11_laysRuns_49 rfl 3 rfl ?_
    refine J_aload_n (pc := 50) C dX11_laysRuns_50 rfl 0 rfl ?_
    refine J_iload_n (pc := 51) C dX11_laysRuns_51 rfl 1 rfl ?_
    obtain ⟨q11, h12, hf⟩ := bind_ok hf
    obtain ⟨_, g13, h12⟩ := cl_spec h12
    refine J_cV (S := [.int v3]) (pc := 52) C dX11_laysRuns_52 (c_X11_many _ _ _ h12) k_1111 ys_X11_many ⟨Nat.le_of_ble_eq_true rfl, Nat.le_of_ble_eq_true rfl⟩ ⟨Nat.le_of_ble_eq_true rfl, Nat.le_of_ble_eq_true rfl⟩ g13 rfl rfl (fun _ => Nat.le_of_ble_eq_true rfl) ?_
    refine J_icmp_ge (pc := 55) C dX11_laysRuns_55 (tgt := 67) (by decide) hf (fun _ hf => ?_) (fun _ hf => ?_)
    · refine J_sipush (pc := 67) C dX11_laysRuns_67 (v := 10000) (by decide) ?_
      refine J_sub [0, 1, 2, 3, 4] (L1 := [(0, .ref v0), (1, .int v1), (2, .int v2), (3, .int v3), (4, .int v4)]) rfl ?_
      exact B70 lr30 lh30 w v0 v1 v2 v3 v4 (10000 : Int32) hf
    · refine J_aload_n (pc := 58) C dX11_laysRuns_58 rfl 0 rfl ?_
      refine J_iload_n (pc := 59) C dX11_laysRuns_59 rfl 1 rfl ?_
      refine J_iload_n (pc := 60) C dX11_laysRuns_60 rfl 3 rfl ?_
      obtain ⟨q30, h31, hf⟩ := bind_ok hf
      obtain ⟨_, g32, h31⟩ := cl_spec h31
      refine J_cV (S := []) (pc := 61) C dX11_laysRuns_61 (c_X11_keyAt _ _ _ _ h31) k_1115 ys_X11_keyAt ⟨Nat.le_of_ble_eq_true rfl, Nat.le_of_ble_eq_true rfl⟩ ⟨Nat.le_of_ble_eq_true rfl, Nat.le_of_ble_eq_true rfl⟩ g32 rfl rfl (fun _ => Nat.le_of_ble_eq_true rfl) ?_
      refine J_goto (pc := 64) C dX11_laysRuns_64 (tgt := 70) (by decide) ?_
      refine J_sub [0, 1, 2, 3, 4] (L1 := [(0, .ref v0), (1, .int v1), (2, .int v2), (3, .int v3), (4, .int v4)]) rfl ?_
      exact B70 lr30 lh30 w v0 v1 v2 v3 v4 q30 hf
  have B30 : ∀ (n : Nat) (w : MW) (v0 : Nat) (v1 : Int32) (v2 : Int32) (v3 : Int32) (v4 : Int32), f_X11_laysRuns_30 fu n w v0 v1 v2 v3 v4 = some w' → JW p l e rmX11_laysRuns s m args below meth c 7 D dA A E (MQ below (Qr D dA E none w' A) args s 0 0 A) 0 0 30 [(0, .ref v0), (1, .int v1), (2, .int v2), (3, .int v3), (4, .int v4)] [] w := by
    intro n
    induction n with
    | zero => intro w v0 v1 v2 v3 v4 hf; rw [f_X11_laysRuns_30] at hf; cases hf
    | succ n ih =>
      intro w v0 v1 v2 v3 v4 hf
      rw [f_X11_laysRuns_30] at hf
      refine J_iload_n (pc := 30) C dX11_laysRuns_30 rfl 3 rfl ?_
      refine J_aload_n (pc := 31) C dX11_laysRuns_31 rfl 0 rfl ?_
      refine J_iload_n (pc := 32) C dX11_laysRuns_32 rfl 1 rfl ?_
      obtain ⟨q8, h9, hf⟩ := bind_ok hf
      obtain ⟨_, g10, h9⟩ := cl_spec h9
      refine J_cV (S := [.int v3]) (pc := 33) C dX11_laysRuns_33 (c_X11_many _ _ _ h9) k_1111 ys_X11_many ⟨Nat.le_of_ble_eq_true rfl, Nat.le_of_ble_eq_true rfl⟩ ⟨Nat.le_of_ble_eq_true rfl, Nat.le_of_ble_eq_true rfl⟩ g10 rfl rfl (fun _ => Nat.le_of_ble_eq_true rfl) ?_
      refine J_icmp_lt (pc := 36) C dX11_laysRuns_36 (tgt := 49) (by decide) hf (fun _ hf => ?_) (fun _ hf => ?_)
      · refine J_sub [0, 1, 2, 3, 4] (L1 := [(0, .ref v0), (1, .int v1), (2, .int v2), (3, .int v3), (4, .int v4)]) rfl ?_
        exact B49 (f_X11_laysRuns_30 fu n) ih w v0 v1 v2 v3 v4 hf
      · refine J_iload (pc := 39) C dX11_laysRuns_39 4 rfl ?_
        refine J_aload_n (pc := 41) C dX11_laysRuns_41 rfl 0 rfl ?_
        refine J_iload_n (pc := 42) C dX11_laysRuns_42 rfl 2 rfl ?_
        obtain ⟨q33, h34, hf⟩ := bind_ok hf
        obtain ⟨_, g35, h34⟩ := cl_spec h34
        refine J_cV (S := [.int v4]) (pc := 43) C dX11_laysRuns_43 (c_X11_many _ _ _ h34) k_1111 ys_X11_many ⟨Nat.le_of_ble_eq_true rfl, Nat.le_of_ble_eq_true rfl⟩ ⟨Nat.le_of_ble_eq_true rfl, Nat.le_of_ble_eq_true rfl⟩ g35 rfl rfl (fun _ => Nat.le_of_ble_eq_true rfl) ?_
        refine J_icmp_ge (pc := 46) C dX11_laysRuns_46 (tgt := 152) (by decide) hf (fun _ hf => ?_) (fun _ hf => ?_)
        · refine J_aload_n (pc := 152) C dX11_laysRuns_152 rfl 0 rfl ?_
          obtain ⟨q36, h37, hf⟩ := bind_ok hf
          obtain ⟨_, g38, h37⟩ := cl_spec h37
          refine J_cV (S := []) (pc := 153) C dX11_laysRuns_153 (c_X11_endsRun _ _ _ h37) k_1203 ys_X11_endsRun ⟨Nat.le_of_ble_eq_true rfl, Nat.le_of_ble_eq_true rfl⟩ ⟨Nat.le_of_ble_eq_true rfl, Nat.le_of_ble_eq_true rfl⟩ g38 rfl rfl (fun _ => Nat.le_of_ble_eq_true rfl) ?_
          exact J_vret (pc := 156) C rfl dX11_laysRuns_156 hf
        · refine J_sub [0, 1, 2, 3, 4] (L1 := [(0, .ref v0), (1, .int v1), (2, .int v2), (3, .int v3), (4, .int v4)]) rfl ?_
          exact B49 (f_X11_laysRuns_30 fu n) ih w v0 v1 v2 v3 v4 hf
  rw [f_X11_laysRuns] at hf
  refine J_sub [0, 1, 2] (L1 := [(0, .ref v0), (1, .int v1), (2, .int v2)]) rfl ?_
  refine J_aload_n (pc := 0) C dX11_laysRuns_0 rfl 0 rfl ?_
  refine J_iconst (pc := 1) C dX11_laysRuns_1 (v := 0) (by decide) ?_
  refine J_put (pc := 2) C dX11_laysRuns_2 (ci := 11) (k0 := 16) rfl iX11 tyX11 tyX11_ok nmX11 (by decide) k_1019 rfl (ty := .int) (by decide +kernel) (fun _ => rfl) (fun _ => rfl) hf (fun w1 hf => ?_)
  refine J_aload_n (pc := 5) C dX11_laysRuns_5 rfl 0 rfl ?_
  refine J_iconst (pc := 6) C dX11_laysRuns_6 (v := 0) (by decide) ?_
  refine J_put (pc := 7) C dX11_laysRuns_7 (ci := 11) (k0 := 17) rfl iX11 tyX11 tyX11_ok nmX11 (by decide) k_1020 rfl (ty := .int) (by decide +kernel) (fun _ => rfl) (fun _ => rfl) hf (fun w2 hf => ?_)
  refine J_aload_n (pc := 10) C dX11_laysRuns_10 rfl 0 rfl ?_
  refine J_iconst (pc := 11) C dX11_laysRuns_11 (v := 0) (by decide) ?_
  refine J_put (pc := 12) C dX11_laysRuns_12 (ci := 11) (k0 := 18) rfl iX11 tyX11 tyX11_ok nmX11 (by decide) k_1021 rfl (ty := .int) (by decide +kernel) (fun _ => rfl) (fun _ => rfl) hf (fun w3 hf => ?_)
  refine J_aload_n (pc := 15) C dX11_laysRuns_15 rfl 0 rfl ?_
  refine J_iconst (pc := 16) C dX11_laysRuns_16 (v := 0) (by decide) ?_
  refine J_put (pc := 17) C dX11_laysRuns_17 (ci := 11) (k0 := 19) rfl iX11 tyX11 tyX11_ok nmX11 (by decide) k_1022 rfl (ty := .int) (by decide +kernel) (fun _ => rfl) (fun _ => rfl) hf (fun w4 hf => ?_)
  refine J_aload_n (pc := 20) C dX11_laysRuns_20 rfl 0 rfl ?_
  refine J_iconst (pc := 21) C dX11_laysRuns_21 (v := -1) (by decide) ?_
  refine J_put (pc := 22) C dX11_laysRuns_22 (ci := 11) (k0 := 20) rfl iX11 tyX11 tyX11_ok nmX11 (by decide) k_1023 rfl (ty := .int) (by decide +kernel) (fun _ => rfl) (fun _ => rfl) hf (fun w5 hf => ?_)
  refine J_iconst (pc := 25) C dX11_laysRuns_25 (v := 0) (by decide) ?_
  refine J_istore_n (pc := 26) C dX11_laysRuns_26 rfl (by decide) hf (fun q => [(3, .int q), (0, .ref v0), (1, .int v1), (2, .int v2)]) (fun _ => rfl) (fun x6 hf => ?_)
  refine J_iconst (pc := 27) C dX11_laysRuns_27 (v := 0) (by decide) ?_
  refine J_istore (pc := 28) C dX11_laysRuns_28 (by decide) hf (fun q => [(4, .int q), (3, .int x6), (0, .ref v0), (1, .int v1), (2, .int v2)]) (fun _ => rfl) (fun x7 hf => ?_)
  refine J_sub [2, 3, 4, 1, 0] (L1 := [(0, .ref v0), (1, .int v1), (2, .int v2), (3, .int x6), (4, .int x7)]) rfl ?_
  exact B30 fu w5 v0 v1 v2 x6 x7 hf
set_option maxRecDepth 100000 in
set_option maxHeartbeats 4000000 in
theorem c_X11_areTwo {l : Launch} {D : va_G} {dA : FieldType → ClassId} (w : MW) (v0 : Nat) (v1 : Int32) (v2 : Int32) {rr : Int32} (hf : f_X11_areTwo w v0 v1 v2 = some rr) : CT l D dA yX11_areTwo cX11_areTwo 3 (some .boolean) rmX11_areTwo [.ref v0, .int v1, .int v2] w (some (.int rr)) w := by
  refine J_met (by decide) rfl (Nat.le_of_ble_eq_true rfl) (fun p e s m args below meth c A E C => ?_)
  rw [f_X11_areTwo] at hf
  refine J_sub [0, 1, 2] (L1 := [(0, .ref v0), (1, .int v1), (2, .int v2)]) rfl ?_
  refine J_iload_n (pc := 0) C dX11_areTwo_0 rfl 1 rfl ?_
  refine J_cS (S := []) (pc := 1) C dX11_areTwo_1 (c_X11_isSet _ _ rfl) k_1094 ys_X11_isSet ⟨Nat.le_of_ble_eq_true rfl, Nat.le_of_ble_eq_true rfl⟩ ⟨Nat.le_of_ble_eq_true rfl, Nat.le_of_ble_eq_true rfl⟩ rfl rfl (fun _ => Nat.le_of_ble_eq_true rfl) ?_
  refine J_if_eq (pc := 4) C dX11_areTwo_4 (tgt := 23) (by decide) hf (fun _ hf => ?_) (fun _ hf => ?_)
  · refine J_iconst (pc := 23) C dX11_areTwo_23 (v := 0) (by decide) ?_
    exact J_iretP (pc := 24) C  rfl (by decide) dX11_areTwo_24 hf
  · refine J_iload_n (pc := 7) C dX11_areTwo_7 rfl 2 rfl ?_
    refine J_cS (S := []) (pc := 8) C dX11_areTwo_8 (c_X11_isSet _ _ rfl) k_1094 ys_X11_isSet ⟨Nat.le_of_ble_eq_true rfl, Nat.le_of_ble_eq_true rfl⟩ ⟨Nat.le_of_ble_eq_true rfl, Nat.le_of_ble_eq_true rfl⟩ rfl rfl (fun _ => Nat.le_of_ble_eq_true rfl) ?_
    refine J_if_eq (pc := 11) C dX11_areTwo_11 (tgt := 23) (by decide) hf (fun _ hf => ?_) (fun _ hf => ?_)
    · refine J_iconst (pc := 23) C dX11_areTwo_23 (v := 0) (by decide) ?_
      exact J_iretP (pc := 24) C  rfl (by decide) dX11_areTwo_24 hf
    · refine J_iload_n (pc := 14) C dX11_areTwo_14 rfl 1 rfl ?_
      refine J_iload_n (pc := 15) C dX11_areTwo_15 rfl 2 rfl ?_
      refine J_icmp_eq (pc := 16) C dX11_areTwo_16 (tgt := 23) (by decide) hf (fun _ hf => ?_) (fun _ hf => ?_)
      · refine J_iconst (pc := 23) C dX11_areTwo_23 (v := 0) (by decide) ?_
        exact J_iretP (pc := 24) C  rfl (by decide) dX11_areTwo_24 hf
      · refine J_iconst (pc := 19) C dX11_areTwo_19 (v := 1) (by decide) ?_
        refine J_goto (pc := 20) C dX11_areTwo_20 (tgt := 24) (by decide) ?_
        exact J_iretP (pc := 24) C  rfl (by decide) dX11_areTwo_24 hf
set_option maxRecDepth 100000 in
set_option maxHeartbeats 4000000 in
theorem c_X11_refusesPut {l : Launch} {D : va_G} {dA : FieldType → ClassId} (fu : Nat) (w : MW) (v0 : Nat) (v1 : Int32) (v2 : Int32) {rr : Int32} (hf : f_X11_refusesPut fu w v0 v1 v2 = some rr) : CT l D dA yX11_refusesPut cX11_refusesPut 3 (some .int) rmX11_refusesPut [.ref v0, .int v1, .int v2] w (some (.int rr)) w := by
  refine J_met (by decide) rfl (Nat.le_of_ble_eq_true rfl) (fun p e s m args below meth c A E C => ?_)
  rw [f_X11_refusesPut] at hf
  refine J_sub [0, 1, 2] (L1 := [(0, .ref v0), (1, .int v1), (2, .int v2)]) rfl ?_
  refine J_iload_n (pc := 0) C dX11_refusesPut_0 rfl 1 rfl ?_
  refine J_cS (S := []) (pc := 1) C dX11_refusesPut_1 (c_X11_isSet _ _ rfl) k_1094 ys_X11_isSet ⟨Nat.le_of_ble_eq_true rfl, Nat.le_of_ble_eq_true rfl⟩ ⟨Nat.le_of_ble_eq_true rfl, Nat.le_of_ble_eq_true rfl⟩ rfl rfl (fun _ => Nat.le_of_ble_eq_true rfl) ?_
  refine J_if_eq (pc := 4) C dX11_refusesPut_4 (tgt := 14) (by decide) hf (fun _ hf => ?_) (fun _ hf => ?_)
  · refine J_iconst (pc := 14) C dX11_refusesPut_14 (v := 1) (by decide) ?_
    exact J_iretP (pc := 15) C  rfl rfl dX11_refusesPut_15 hf
  · refine J_iload_n (pc := 7) C dX11_refusesPut_7 rfl 2 rfl ?_
    refine J_cS (S := []) (pc := 8) C dX11_refusesPut_8 (c_X11_isKey _ _ rfl) k_1100 ys_X11_isKey ⟨Nat.le_of_ble_eq_true rfl, Nat.le_of_ble_eq_true rfl⟩ ⟨Nat.le_of_ble_eq_true rfl, Nat.le_of_ble_eq_true rfl⟩ rfl rfl (fun _ => Nat.le_of_ble_eq_true rfl) ?_
    refine J_if_ne (pc := 11) C dX11_refusesPut_11 (tgt := 16) (by decide) hf (fun _ hf => ?_) (fun _ hf => ?_)
    · refine J_aload_n (pc := 16) C dX11_refusesPut_16 rfl 0 rfl ?_
      refine J_iload_n (pc := 17) C dX11_refusesPut_17 rfl 1 rfl ?_
      refine J_iload_n (pc := 18) C dX11_refusesPut_18 rfl 2 rfl ?_
      obtain ⟨q1, h2, hf⟩ := bind_ok hf
      obtain ⟨_, g3, h2⟩ := cl_spec h2
      refine J_cV (S := []) (pc := 19) C dX11_refusesPut_19 (c_X11_placeOf _ _ _ _ _ h2) k_1103 ys_X11_placeOf ⟨Nat.le_of_ble_eq_true rfl, Nat.le_of_ble_eq_true rfl⟩ ⟨Nat.le_of_ble_eq_true rfl, Nat.le_of_ble_eq_true rfl⟩ g3 rfl rfl (fun _ => Nat.le_of_ble_eq_true rfl) ?_
      refine J_iconst (pc := 22) C dX11_refusesPut_22 (v := -1) (by decide) ?_
      refine J_icmp_eq (pc := 23) C dX11_refusesPut_23 (tgt := 28) (by decide) hf (fun _ hf => ?_) (fun _ hf => ?_)
      · refine J_aload_n (pc := 28) C dX11_refusesPut_28 rfl 0 rfl ?_
        refine J_iload_n (pc := 29) C dX11_refusesPut_29 rfl 1 rfl ?_
        obtain ⟨q4, h5, hf⟩ := bind_ok hf
        obtain ⟨_, g6, h5⟩ := cl_spec h5
        refine J_cV (S := []) (pc := 30) C dX11_refusesPut_30 (c_X11_many _ _ _ h5) k_1111 ys_X11_many ⟨Nat.le_of_ble_eq_true rfl, Nat.le_of_ble_eq_true rfl⟩ ⟨Nat.le_of_ble_eq_true rfl, Nat.le_of_ble_eq_true rfl⟩ g6 rfl rfl (fun _ => Nat.le_of_ble_eq_true rfl) ?_
        refine J_bipush (pc := 33) C dX11_refusesPut_33 (v := 60) (by decide) ?_
        refine J_icmp_eq (pc := 35) C dX11_refusesPut_35 (tgt := 48) (by decide) hf (fun _ hf => ?_) (fun _ hf => ?_)
        · refine J_iconst (pc := 48) C dX11_refusesPut_48 (v := 4) (by decide) ?_
          refine J_goto (pc := 49) C dX11_refusesPut_49 (tgt := 53) (by decide) ?_
          exact J_iretP (pc := 53) C  rfl rfl dX11_refusesPut_53 hf
        · refine J_aload_n (pc := 38) C dX11_refusesPut_38 rfl 0 rfl ?_
          obtain ⟨q7, h8, hf⟩ := bind_ok hf
          obtain ⟨_, g9, h8⟩ := cl_spec h8
          refine J_cV (S := []) (pc := 39) C dX11_refusesPut_39 (c_X11_total _ _ _ h8) k_1119 ys_X11_total ⟨Nat.le_of_ble_eq_true rfl, Nat.le_of_ble_eq_true rfl⟩ ⟨Nat.le_of_ble_eq_true rfl, Nat.le_of_ble_eq_true rfl⟩ g9 rfl rfl (fun _ => Nat.le_of_ble_eq_true rfl) ?_
          refine J_sipush (pc := 42) C dX11_refusesPut_42 (v := 240) (by decide) ?_
          refine J_icmp_ne (pc := 45) C dX11_refusesPut_45 (tgt := 52) (by decide) hf (fun _ hf => ?_) (fun _ hf => ?_)
          · refine J_iconst (pc := 52) C dX11_refusesPut_52 (v := 0) (by decide) ?_
            exact J_iretP (pc := 53) C  rfl rfl dX11_refusesPut_53 hf
          · refine J_iconst (pc := 48) C dX11_refusesPut_48 (v := 4) (by decide) ?_
            refine J_goto (pc := 49) C dX11_refusesPut_49 (tgt := 53) (by decide) ?_
            exact J_iretP (pc := 53) C  rfl rfl dX11_refusesPut_53 hf
      · refine J_iconst (pc := 26) C dX11_refusesPut_26 (v := 2) (by decide) ?_
        exact J_iretP (pc := 27) C  rfl rfl dX11_refusesPut_27 hf
    · refine J_iconst (pc := 14) C dX11_refusesPut_14 (v := 1) (by decide) ?_
      exact J_iretP (pc := 15) C  rfl rfl dX11_refusesPut_15 hf
set_option maxRecDepth 100000 in
set_option maxHeartbeats 4000000 in
theorem c_X11_refusesCut {l : Launch} {D : va_G} {dA : FieldType → ClassId} (fu : Nat) (w : MW) (v0 : Nat) (v1 : Int32) (v2 : Int32) (v3 : Int32) {rr : Int32} (hf : f_X11_refusesCut fu w v0 v1 v2 v3 = some rr) : CT l D dA yX11_refusesCut cX11_refusesCut 4 (some .int) rmX11_refusesCut [.ref v0, .int v1, .int v2, .int v3] w (some (.int rr)) w := by
  refine J_met (by decide) rfl (Nat.le_of_ble_eq_true rfl) (fun p e s m args below meth c A E C => ?_)
  rw [f_X11_refusesCut] at hf
  refine J_sub [0, 1, 2, 3] (L1 := [(0, .ref v0), (1, .int v1), (2, .int v2), (3, .int v3)]) rfl ?_
  refine J_aload_n (pc := 0) C dX11_refusesCut_0 rfl 0 rfl ?_
  refine J_iload_n (pc := 1) C dX11_refusesCut_1 rfl 1 rfl ?_
  refine J_iload_n (pc := 2) C dX11_refusesCut_2 rfl 3 rfl ?_
  obtain ⟨q1, h2, hf⟩ := bind_ok hf
  obtain ⟨_, g3, h2⟩ := cl_spec h2
  refine J_cV (S := []) (pc := 3) C dX11_refusesCut_3 (c_X11_areTwo _ _ _ _ h2) k_1159 ys_X11_areTwo ⟨Nat.le_of_ble_eq_true rfl, Nat.le_of_ble_eq_true rfl⟩ ⟨Nat.le_of_ble_eq_true rfl, Nat.le_of_ble_eq_true rfl⟩ g3 rfl rfl (fun _ => Nat.le_of_ble_eq_true rfl) ?_
  refine J_if_eq (pc := 6) C dX11_refusesCut_6 (tgt := 16) (by decide) hf (fun _ hf => ?_) (fun _ hf => ?_)
  · refine J_iconst (pc := 16) C dX11_refusesCut_16 (v := 1) (by decide) ?_
    exact J_iretP (pc := 17) C  rfl rfl dX11_refusesCut_17 hf
  · refine J_iload_n (pc := 9) C dX11_refusesCut_9 rfl 2 rfl ?_
    refine J_cS (S := []) (pc := 10) C dX11_refusesCut_10 (c_X11_isKey _ _ rfl) k_1100 ys_X11_isKey ⟨Nat.le_of_ble_eq_true rfl, Nat.le_of_ble_eq_true rfl⟩ ⟨Nat.le_of_ble_eq_true rfl, Nat.le_of_ble_eq_true rfl⟩ rfl rfl (fun _ => Nat.le_of_ble_eq_true rfl) ?_
    refine J_if_ne (pc := 13) C dX11_refusesCut_13 (tgt := 18) (by decide) hf (fun _ hf => ?_) (fun _ hf => ?_)
    · refine J_aload_n (pc := 18) C dX11_refusesCut_18 rfl 0 rfl ?_
      refine J_iload_n (pc := 19) C dX11_refusesCut_19 rfl 1 rfl ?_
      refine J_iload_n (pc := 20) C dX11_refusesCut_20 rfl 2 rfl ?_
      refine J_iconst (pc := 21) C dX11_refusesCut_21 (v := 1) (by decide) ?_
      refine J_iadd (pc := 22) C dX11_refusesCut_22 ?_
      refine J_sipush (pc := 23) C dX11_refusesCut_23 (v := 9999) (by decide) ?_
      obtain ⟨q4, h5, hf⟩ := bind_ok hf
      obtain ⟨_, g6, h5⟩ := cl_spec h5
      refine J_cV (S := []) (pc := 26) C dX11_refusesCut_26 (c_X11_counted _ _ _ _ _ _ h5) k_1163 ys_X11_counted ⟨Nat.le_of_ble_eq_true rfl, Nat.le_of_ble_eq_true rfl⟩ ⟨Nat.le_of_ble_eq_true rfl, Nat.le_of_ble_eq_true rfl⟩ g6 rfl rfl (fun _ => Nat.le_of_ble_eq_true rfl) ?_
      refine J_if_ne (pc := 29) C dX11_refusesCut_29 (tgt := 34) (by decide) hf (fun _ hf => ?_) (fun _ hf => ?_)
      · refine J_aload_n (pc := 34) C dX11_refusesCut_34 rfl 0 rfl ?_
        refine J_iload_n (pc := 35) C dX11_refusesCut_35 rfl 3 rfl ?_
        obtain ⟨q7, h8, hf⟩ := bind_ok hf
        obtain ⟨_, g9, h8⟩ := cl_spec h8
        refine J_cV (S := []) (pc := 36) C dX11_refusesCut_36 (c_X11_many _ _ _ h8) k_1111 ys_X11_many ⟨Nat.le_of_ble_eq_true rfl, Nat.le_of_ble_eq_true rfl⟩ ⟨Nat.le_of_ble_eq_true rfl, Nat.le_of_ble_eq_true rfl⟩ g9 rfl rfl (fun _ => Nat.le_of_ble_eq_true rfl) ?_
        refine J_if_le (pc := 39) C dX11_refusesCut_39 (tgt := 46) (by decide) hf (fun _ hf => ?_) (fun _ hf => ?_)
        · refine J_iconst (pc := 46) C dX11_refusesCut_46 (v := 0) (by decide) ?_
          exact J_iretP (pc := 47) C  rfl rfl dX11_refusesCut_47 hf
        · refine J_iconst (pc := 42) C dX11_refusesCut_42 (v := 3) (by decide) ?_
          refine J_goto (pc := 43) C dX11_refusesCut_43 (tgt := 47) (by decide) ?_
          exact J_iretP (pc := 47) C  rfl rfl dX11_refusesCut_47 hf
      · refine J_iconst (pc := 32) C dX11_refusesCut_32 (v := 2) (by decide) ?_
        exact J_iretP (pc := 33) C  rfl rfl dX11_refusesCut_33 hf
    · refine J_iconst (pc := 16) C dX11_refusesCut_16 (v := 1) (by decide) ?_
      exact J_iretP (pc := 17) C  rfl rfl dX11_refusesCut_17 hf
set_option maxRecDepth 100000 in
set_option maxHeartbeats 4000000 in
theorem c_X11_refusesJoin {l : Launch} {D : va_G} {dA : FieldType → ClassId} (w : MW) (v0 : Nat) (v1 : Int32) (v2 : Int32) {rr : Int32} (hf : f_X11_refusesJoin w v0 v1 v2 = some rr) : CT l D dA yX11_refusesJoin cX11_refusesJoin 3 (some .int) rmX11_refusesJoin [.ref v0, .int v1, .int v2] w (some (.int rr)) w := by
  refine J_met (by decide) rfl (Nat.le_of_ble_eq_true rfl) (fun p e s m args below meth c A E C => ?_)
  have B52 : ∀ (v0 : Nat) (v1 : Int32) (v2 : Int32), f_X11_refusesJoin_52 w v0 v1 v2 = some rr → JW p l e rmX11_refusesJoin s m args below meth c 3 D dA A E (MQ below (Qr D dA E (some (.int rr)) w A) args s 0 0 A) 0 0 52 [(0, .ref v0), (1, .int v1), (2, .int v2)] [] w := by
    intro v0 v1 v2 hf
    rw [f_X11_refusesJoin_52] at hf
    refine J_aload_n (pc := 52) C dX11_refusesJoin_52 rfl 0 rfl ?_
    refine J_iload_n (pc := 53) C dX11_refusesJoin_53 rfl 1 rfl ?_
    obtain ⟨q10, h11, hf⟩ := bind_ok hf
    obtain ⟨_, g12, h11⟩ := cl_spec h11
    refine J_cV (S := []) (pc := 54) C dX11_refusesJoin_54 (c_X11_many _ _ _ h11) k_1111 ys_X11_many ⟨Nat.le_of_ble_eq_true rfl, Nat.le_of_ble_eq_true rfl⟩ ⟨Nat.le_of_ble_eq_true rfl, Nat.le_of_ble_eq_true rfl⟩ g12 rfl rfl (fun _ => Nat.le_of_ble_eq_true rfl) ?_
    refine J_aload_n (pc := 57) C dX11_refusesJoin_57 rfl 0 rfl ?_
    refine J_iload_n (pc := 58) C dX11_refusesJoin_58 rfl 2 rfl ?_
    obtain ⟨q13, h14, hf⟩ := bind_ok hf
    obtain ⟨_, g15, h14⟩ := cl_spec h14
    refine J_cV (S := [.int q10]) (pc := 59) C dX11_refusesJoin_59 (c_X11_many _ _ _ h14) k_1111 ys_X11_many ⟨Nat.le_of_ble_eq_true rfl, Nat.le_of_ble_eq_true rfl⟩ ⟨Nat.le_of_ble_eq_true rfl, Nat.le_of_ble_eq_true rfl⟩ g15 rfl rfl (fun _ => Nat.le_of_ble_eq_true rfl) ?_
    refine J_iadd (pc := 62) C dX11_refusesJoin_62 ?_
    refine J_bipush (pc := 63) C dX11_refusesJoin_63 (v := 60) (by decide) ?_
    refine J_icmp_le (pc := 65) C dX11_refusesJoin_65 (tgt := 72) (by decide) hf (fun _ hf => ?_) (fun _ hf => ?_)
    · refine J_iconst (pc := 72) C dX11_refusesJoin_72 (v := 0) (by decide) ?_
      exact J_iretP (pc := 73) C  rfl rfl dX11_refusesJoin_73 hf
    · refine J_iconst (pc := 68) C dX11_refusesJoin_68 (v := 4) (by decide) ?_
      refine J_goto (pc := 69) C dX11_refusesJoin_69 (tgt := 73) (by decide) ?_
      exact J_iretP (pc := 73) C  rfl rfl dX11_refusesJoin_73 hf
  rw [f_X11_refusesJoin] at hf
  refine J_sub [0, 1, 2] (L1 := [(0, .ref v0), (1, .int v1), (2, .int v2)]) rfl ?_
  refine J_aload_n (pc := 0) C dX11_refusesJoin_0 rfl 0 rfl ?_
  refine J_iload_n (pc := 1) C dX11_refusesJoin_1 rfl 1 rfl ?_
  refine J_iload_n (pc := 2) C dX11_refusesJoin_2 rfl 2 rfl ?_
  obtain ⟨q1, h2, hf⟩ := bind_ok hf
  obtain ⟨_, g3, h2⟩ := cl_spec h2
  refine J_cV (S := []) (pc := 3) C dX11_refusesJoin_3 (c_X11_areTwo _ _ _ _ h2) k_1159 ys_X11_areTwo ⟨Nat.le_of_ble_eq_true rfl, Nat.le_of_ble_eq_true rfl⟩ ⟨Nat.le_of_ble_eq_true rfl, Nat.le_of_ble_eq_true rfl⟩ g3 rfl rfl (fun _ => Nat.le_of_ble_eq_true rfl) ?_
  refine J_if_ne (pc := 6) C dX11_refusesJoin_6 (tgt := 11) (by decide) hf (fun _ hf => ?_) (fun _ hf => ?_)
  · refine J_aload_n (pc := 11) C dX11_refusesJoin_11 rfl 0 rfl ?_
    refine J_iload_n (pc := 12) C dX11_refusesJoin_12 rfl 2 rfl ?_
    obtain ⟨q4, h5, hf⟩ := bind_ok hf
    obtain ⟨_, g6, h5⟩ := cl_spec h5
    refine J_cV (S := []) (pc := 13) C dX11_refusesJoin_13 (c_X11_many _ _ _ h5) k_1111 ys_X11_many ⟨Nat.le_of_ble_eq_true rfl, Nat.le_of_ble_eq_true rfl⟩ ⟨Nat.le_of_ble_eq_true rfl, Nat.le_of_ble_eq_true rfl⟩ g6 rfl rfl (fun _ => Nat.le_of_ble_eq_true rfl) ?_
    refine J_if_ne (pc := 16) C dX11_refusesJoin_16 (tgt := 21) (by decide) hf (fun _ hf => ?_) (fun _ hf => ?_)
    · refine J_aload_n (pc := 21) C dX11_refusesJoin_21 rfl 0 rfl ?_
      refine J_iload_n (pc := 22) C dX11_refusesJoin_22 rfl 1 rfl ?_
      obtain ⟨q7, h8, hf⟩ := bind_ok hf
      obtain ⟨_, g9, h8⟩ := cl_spec h8
      refine J_cV (S := []) (pc := 23) C dX11_refusesJoin_23 (c_X11_many _ _ _ h8) k_1111 ys_X11_many ⟨Nat.le_of_ble_eq_true rfl, Nat.le_of_ble_eq_true rfl⟩ ⟨Nat.le_of_ble_eq_true rfl, Nat.le_of_ble_eq_true rfl⟩ g9 rfl rfl (fun _ => Nat.le_of_ble_eq_true rfl) ?_
      refine J_if_le (pc := 26) C dX11_refusesJoin_26 (tgt := 52) (by decide) hf (fun _ hf => ?_) (fun _ hf => ?_)
      · refine J_sub [0, 1, 2] (L1 := [(0, .ref v0), (1, .int v1), (2, .int v2)]) rfl ?_
        exact B52 v0 v1 v2 hf
      · refine J_aload_n (pc := 29) C dX11_refusesJoin_29 rfl 0 rfl ?_
        refine J_iload_n (pc := 30) C dX11_refusesJoin_30 rfl 1 rfl ?_
        refine J_aload_n (pc := 31) C dX11_refusesJoin_31 rfl 0 rfl ?_
        refine J_iload_n (pc := 32) C dX11_refusesJoin_32 rfl 1 rfl ?_
        obtain ⟨q16, h17, hf⟩ := bind_ok hf
        obtain ⟨_, g18, h17⟩ := cl_spec h17
        refine J_cV (S := [.int v1, .ref v0]) (pc := 33) C dX11_refusesJoin_33 (c_X11_many _ _ _ h17) k_1111 ys_X11_many ⟨Nat.le_of_ble_eq_true rfl, Nat.le_of_ble_eq_true rfl⟩ ⟨Nat.le_of_ble_eq_true rfl, Nat.le_of_ble_eq_true rfl⟩ g18 rfl rfl (fun _ => Nat.le_of_ble_eq_true rfl) ?_
        refine J_iconst (pc := 36) C dX11_refusesJoin_36 (v := 1) (by decide) ?_
        refine J_isub (pc := 37) C dX11_refusesJoin_37 ?_
        obtain ⟨q19, h20, hf⟩ := bind_ok hf
        obtain ⟨_, g21, h20⟩ := cl_spec h20
        refine J_cV (S := []) (pc := 38) C dX11_refusesJoin_38 (c_X11_keyAt _ _ _ _ h20) k_1115 ys_X11_keyAt ⟨Nat.le_of_ble_eq_true rfl, Nat.le_of_ble_eq_true rfl⟩ ⟨Nat.le_of_ble_eq_true rfl, Nat.le_of_ble_eq_true rfl⟩ g21 rfl rfl (fun _ => Nat.le_of_ble_eq_true rfl) ?_
        refine J_aload_n (pc := 41) C dX11_refusesJoin_41 rfl 0 rfl ?_
        refine J_iload_n (pc := 42) C dX11_refusesJoin_42 rfl 2 rfl ?_
        refine J_iconst (pc := 43) C dX11_refusesJoin_43 (v := 0) (by decide) ?_
        obtain ⟨q22, h23, hf⟩ := bind_ok hf
        obtain ⟨_, g24, h23⟩ := cl_spec h23
        refine J_cV (S := [.int q19]) (pc := 44) C dX11_refusesJoin_44 (c_X11_keyAt _ _ _ _ h23) k_1115 ys_X11_keyAt ⟨Nat.le_of_ble_eq_true rfl, Nat.le_of_ble_eq_true rfl⟩ ⟨Nat.le_of_ble_eq_true rfl, Nat.le_of_ble_eq_true rfl⟩ g24 rfl rfl (fun _ => Nat.le_of_ble_eq_true rfl) ?_
        refine J_icmp_lt (pc := 47) C dX11_refusesJoin_47 (tgt := 52) (by decide) hf (fun _ hf => ?_) (fun _ hf => ?_)
        · refine J_sub [0, 1, 2] (L1 := [(0, .ref v0), (1, .int v1), (2, .int v2)]) rfl ?_
          exact B52 v0 v1 v2 hf
        · refine J_iconst (pc := 50) C dX11_refusesJoin_50 (v := 3) (by decide) ?_
          exact J_iretP (pc := 51) C  rfl rfl dX11_refusesJoin_51 hf
    · refine J_iconst (pc := 19) C dX11_refusesJoin_19 (v := 2) (by decide) ?_
      exact J_iretP (pc := 20) C  rfl rfl dX11_refusesJoin_20 hf
  · refine J_iconst (pc := 9) C dX11_refusesJoin_9 (v := 1) (by decide) ?_
    exact J_iretP (pc := 10) C  rfl rfl dX11_refusesJoin_10 hf
set_option maxRecDepth 100000 in
set_option maxHeartbeats 4000000 in
theorem c_X11_refusesMelt {l : Launch} {D : va_G} {dA : FieldType → ClassId} (fu : Nat) (w : MW) (v0 : Nat) (v1 : Int32) (v2 : Int32) {rr : Int32} (hf : f_X11_refusesMelt fu w v0 v1 v2 = some rr) : CT l D dA yX11_refusesMelt cX11_refusesMelt 3 (some .int) rmX11_refusesMelt [.ref v0, .int v1, .int v2] w (some (.int rr)) w := by
  refine J_met (by decide) rfl (Nat.le_of_ble_eq_true rfl) (fun p e s m args below meth c A E C => ?_)
  rw [f_X11_refusesMelt] at hf
  refine J_sub [0, 1, 2] (L1 := [(0, .ref v0), (1, .int v1), (2, .int v2)]) rfl ?_
  refine J_aload_n (pc := 0) C dX11_refusesMelt_0 rfl 0 rfl ?_
  refine J_iload_n (pc := 1) C dX11_refusesMelt_1 rfl 1 rfl ?_
  refine J_iload_n (pc := 2) C dX11_refusesMelt_2 rfl 2 rfl ?_
  obtain ⟨q1, h2, hf⟩ := bind_ok hf
  obtain ⟨_, g3, h2⟩ := cl_spec h2
  refine J_cV (S := []) (pc := 3) C dX11_refusesMelt_3 (c_X11_areTwo _ _ _ _ h2) k_1159 ys_X11_areTwo ⟨Nat.le_of_ble_eq_true rfl, Nat.le_of_ble_eq_true rfl⟩ ⟨Nat.le_of_ble_eq_true rfl, Nat.le_of_ble_eq_true rfl⟩ g3 rfl rfl (fun _ => Nat.le_of_ble_eq_true rfl) ?_
  refine J_if_ne (pc := 6) C dX11_refusesMelt_6 (tgt := 11) (by decide) hf (fun _ hf => ?_) (fun _ hf => ?_)
  · refine J_aload_n (pc := 11) C dX11_refusesMelt_11 rfl 0 rfl ?_
    refine J_iload_n (pc := 12) C dX11_refusesMelt_12 rfl 2 rfl ?_
    obtain ⟨q4, h5, hf⟩ := bind_ok hf
    obtain ⟨_, g6, h5⟩ := cl_spec h5
    refine J_cV (S := []) (pc := 13) C dX11_refusesMelt_13 (c_X11_many _ _ _ h5) k_1111 ys_X11_many ⟨Nat.le_of_ble_eq_true rfl, Nat.le_of_ble_eq_true rfl⟩ ⟨Nat.le_of_ble_eq_true rfl, Nat.le_of_ble_eq_true rfl⟩ g6 rfl rfl (fun _ => Nat.le_of_ble_eq_true rfl) ?_
    refine J_if_ne (pc := 16) C dX11_refusesMelt_16 (tgt := 21) (by decide) hf (fun _ hf => ?_) (fun _ hf => ?_)
    · refine J_aload_n (pc := 21) C dX11_refusesMelt_21 rfl 0 rfl ?_
      refine J_iload_n (pc := 22) C dX11_refusesMelt_22 rfl 1 rfl ?_
      obtain ⟨q7, h8, hf⟩ := bind_ok hf
      obtain ⟨_, g9, h8⟩ := cl_spec h8
      refine J_cV (S := []) (pc := 23) C dX11_refusesMelt_23 (c_X11_many _ _ _ h8) k_1111 ys_X11_many ⟨Nat.le_of_ble_eq_true rfl, Nat.le_of_ble_eq_true rfl⟩ ⟨Nat.le_of_ble_eq_true rfl, Nat.le_of_ble_eq_true rfl⟩ g9 rfl rfl (fun _ => Nat.le_of_ble_eq_true rfl) ?_
      refine J_aload_n (pc := 26) C dX11_refusesMelt_26 rfl 0 rfl ?_
      refine J_iload_n (pc := 27) C dX11_refusesMelt_27 rfl 2 rfl ?_
      obtain ⟨q10, h11, hf⟩ := bind_ok hf
      obtain ⟨_, g12, h11⟩ := cl_spec h11
      refine J_cV (S := [.int q7]) (pc := 28) C dX11_refusesMelt_28 (c_X11_many _ _ _ h11) k_1111 ys_X11_many ⟨Nat.le_of_ble_eq_true rfl, Nat.le_of_ble_eq_true rfl⟩ ⟨Nat.le_of_ble_eq_true rfl, Nat.le_of_ble_eq_true rfl⟩ g12 rfl rfl (fun _ => Nat.le_of_ble_eq_true rfl) ?_
      refine J_iadd (pc := 31) C dX11_refusesMelt_31 ?_
      refine J_aload_n (pc := 32) C dX11_refusesMelt_32 rfl 0 rfl ?_
      refine J_iload_n (pc := 33) C dX11_refusesMelt_33 rfl 1 rfl ?_
      refine J_iload_n (pc := 34) C dX11_refusesMelt_34 rfl 2 rfl ?_
      obtain ⟨q13, h14, hf⟩ := bind_ok hf
      obtain ⟨_, g15, h14⟩ := cl_spec h14
      refine J_cV (S := [.int (q7 + q10)]) (pc := 35) C dX11_refusesMelt_35 (c_X11_twins _ _ _ _ _ h14) k_1191 ys_X11_twins ⟨Nat.le_of_ble_eq_true rfl, Nat.le_of_ble_eq_true rfl⟩ ⟨Nat.le_of_ble_eq_true rfl, Nat.le_of_ble_eq_true rfl⟩ g15 rfl rfl (fun _ => Nat.le_of_ble_eq_true rfl) ?_
      refine J_isub (pc := 38) C dX11_refusesMelt_38 ?_
      refine J_bipush (pc := 39) C dX11_refusesMelt_39 (v := 60) (by decide) ?_
      refine J_icmp_le (pc := 41) C dX11_refusesMelt_41 (tgt := 48) (by decide) hf (fun _ hf => ?_) (fun _ hf => ?_)
      · refine J_iconst (pc := 48) C dX11_refusesMelt_48 (v := 0) (by decide) ?_
        exact J_iretP (pc := 49) C  rfl rfl dX11_refusesMelt_49 hf
      · refine J_iconst (pc := 44) C dX11_refusesMelt_44 (v := 4) (by decide) ?_
        refine J_goto (pc := 45) C dX11_refusesMelt_45 (tgt := 49) (by decide) ?_
        exact J_iretP (pc := 49) C  rfl rfl dX11_refusesMelt_49 hf
    · refine J_iconst (pc := 19) C dX11_refusesMelt_19 (v := 2) (by decide) ?_
      exact J_iretP (pc := 20) C  rfl rfl dX11_refusesMelt_20 hf
  · refine J_iconst (pc := 9) C dX11_refusesMelt_9 (v := 1) (by decide) ?_
    exact J_iretP (pc := 10) C  rfl rfl dX11_refusesMelt_10 hf
set_option maxRecDepth 100000 in
set_option maxHeartbeats 4000000 in
theorem c_X11_refusesShift {l : Launch} {D : va_G} {dA : FieldType → ClassId} (w : MW) (v0 : Nat) (v1 : Int32) (v2 : Int32) {rr : Int32} (hf : f_X11_refusesShift w v0 v1 v2 = some rr) : CT l D dA yX11_refusesShift cX11_refusesShift 3 (some .int) rmX11_refusesShift [.ref v0, .int v1, .int v2] w (some (.int rr)) w := by
  refine J_met (by decide) rfl (Nat.le_of_ble_eq_true rfl) (fun p e s m args below meth c A E C => ?_)
  rw [f_X11_refusesShift] at hf
  refine J_sub [0, 1, 2] (L1 := [(0, .ref v0), (1, .int v1), (2, .int v2)]) rfl ?_
  refine J_iload_n (pc := 0) C dX11_refusesShift_0 rfl 1 rfl ?_
  refine J_cS (S := []) (pc := 1) C dX11_refusesShift_1 (c_X11_isSet _ _ rfl) k_1094 ys_X11_isSet ⟨Nat.le_of_ble_eq_true rfl, Nat.le_of_ble_eq_true rfl⟩ ⟨Nat.le_of_ble_eq_true rfl, Nat.le_of_ble_eq_true rfl⟩ rfl rfl (fun _ => Nat.le_of_ble_eq_true rfl) ?_
  refine J_if_eq (pc := 4) C dX11_refusesShift_4 (tgt := 20) (by decide) hf (fun _ hf => ?_) (fun _ hf => ?_)
  · refine J_iconst (pc := 20) C dX11_refusesShift_20 (v := 1) (by decide) ?_
    exact J_iretP (pc := 21) C  rfl rfl dX11_refusesShift_21 hf
  · refine J_iload_n (pc := 7) C dX11_refusesShift_7 rfl 2 rfl ?_
    refine J_sipush (pc := 8) C dX11_refusesShift_8 (v := -9999) (by decide) ?_
    refine J_sipush (pc := 11) C dX11_refusesShift_11 (v := 9999) (by decide) ?_
    refine J_cS (S := []) (pc := 14) C dX11_refusesShift_14 (c_X11_isIn _ _ _ _ rfl) k_1097 ys_X11_isIn ⟨Nat.le_of_ble_eq_true rfl, Nat.le_of_ble_eq_true rfl⟩ ⟨Nat.le_of_ble_eq_true rfl, Nat.le_of_ble_eq_true rfl⟩ rfl rfl (fun _ => Nat.le_of_ble_eq_true rfl) ?_
    refine J_if_ne (pc := 17) C dX11_refusesShift_17 (tgt := 22) (by decide) hf (fun _ hf => ?_) (fun _ hf => ?_)
    · refine J_iload_n (pc := 22) C dX11_refusesShift_22 rfl 2 rfl ?_
      refine J_if_eq (pc := 23) C dX11_refusesShift_23 (tgt := 34) (by decide) hf (fun _ hf => ?_) (fun _ hf => ?_)
      · refine J_iconst (pc := 34) C dX11_refusesShift_34 (v := 2) (by decide) ?_
        exact J_iretP (pc := 35) C  rfl rfl dX11_refusesShift_35 hf
      · refine J_aload_n (pc := 26) C dX11_refusesShift_26 rfl 0 rfl ?_
        refine J_iload_n (pc := 27) C dX11_refusesShift_27 rfl 1 rfl ?_
        obtain ⟨q1, h2, hf⟩ := bind_ok hf
        obtain ⟨_, g3, h2⟩ := cl_spec h2
        refine J_cV (S := []) (pc := 28) C dX11_refusesShift_28 (c_X11_many _ _ _ h2) k_1111 ys_X11_many ⟨Nat.le_of_ble_eq_true rfl, Nat.le_of_ble_eq_true rfl⟩ ⟨Nat.le_of_ble_eq_true rfl, Nat.le_of_ble_eq_true rfl⟩ g3 rfl rfl (fun _ => Nat.le_of_ble_eq_true rfl) ?_
        refine J_if_ne (pc := 31) C dX11_refusesShift_31 (tgt := 36) (by decide) hf (fun _ hf => ?_) (fun _ hf => ?_)
        · refine J_aload_n (pc := 36) C dX11_refusesShift_36 rfl 0 rfl ?_
          refine J_iload_n (pc := 37) C dX11_refusesShift_37 rfl 1 rfl ?_
          refine J_iconst (pc := 38) C dX11_refusesShift_38 (v := 0) (by decide) ?_
          obtain ⟨q4, h5, hf⟩ := bind_ok hf
          obtain ⟨_, g6, h5⟩ := cl_spec h5
          refine J_cV (S := []) (pc := 39) C dX11_refusesShift_39 (c_X11_keyAt _ _ _ _ h5) k_1115 ys_X11_keyAt ⟨Nat.le_of_ble_eq_true rfl, Nat.le_of_ble_eq_true rfl⟩ ⟨Nat.le_of_ble_eq_true rfl, Nat.le_of_ble_eq_true rfl⟩ g6 rfl rfl (fun _ => Nat.le_of_ble_eq_true rfl) ?_
          refine J_iload_n (pc := 42) C dX11_refusesShift_42 rfl 2 rfl ?_
          refine J_iadd (pc := 43) C dX11_refusesShift_43 ?_
          refine J_cS (S := []) (pc := 44) C dX11_refusesShift_44 (c_X11_isKey _ _ rfl) k_1100 ys_X11_isKey ⟨Nat.le_of_ble_eq_true rfl, Nat.le_of_ble_eq_true rfl⟩ ⟨Nat.le_of_ble_eq_true rfl, Nat.le_of_ble_eq_true rfl⟩ rfl rfl (fun _ => Nat.le_of_ble_eq_true rfl) ?_
          refine J_if_eq (pc := 47) C dX11_refusesShift_47 (tgt := 74) (by decide) hf (fun _ hf => ?_) (fun _ hf => ?_)
          · refine J_iconst (pc := 74) C dX11_refusesShift_74 (v := 3) (by decide) ?_
            exact J_iretP (pc := 75) C  rfl rfl dX11_refusesShift_75 hf
          · refine J_aload_n (pc := 50) C dX11_refusesShift_50 rfl 0 rfl ?_
            refine J_iload_n (pc := 51) C dX11_refusesShift_51 rfl 1 rfl ?_
            refine J_aload_n (pc := 52) C dX11_refusesShift_52 rfl 0 rfl ?_
            refine J_iload_n (pc := 53) C dX11_refusesShift_53 rfl 1 rfl ?_
            obtain ⟨q7, h8, hf⟩ := bind_ok hf
            obtain ⟨_, g9, h8⟩ := cl_spec h8
            refine J_cV (S := [.int v1, .ref v0]) (pc := 54) C dX11_refusesShift_54 (c_X11_many _ _ _ h8) k_1111 ys_X11_many ⟨Nat.le_of_ble_eq_true rfl, Nat.le_of_ble_eq_true rfl⟩ ⟨Nat.le_of_ble_eq_true rfl, Nat.le_of_ble_eq_true rfl⟩ g9 rfl rfl (fun _ => Nat.le_of_ble_eq_true rfl) ?_
            refine J_iconst (pc := 57) C dX11_refusesShift_57 (v := 1) (by decide) ?_
            refine J_isub (pc := 58) C dX11_refusesShift_58 ?_
            obtain ⟨q10, h11, hf⟩ := bind_ok hf
            obtain ⟨_, g12, h11⟩ := cl_spec h11
            refine J_cV (S := []) (pc := 59) C dX11_refusesShift_59 (c_X11_keyAt _ _ _ _ h11) k_1115 ys_X11_keyAt ⟨Nat.le_of_ble_eq_true rfl, Nat.le_of_ble_eq_true rfl⟩ ⟨Nat.le_of_ble_eq_true rfl, Nat.le_of_ble_eq_true rfl⟩ g12 rfl rfl (fun _ => Nat.le_of_ble_eq_true rfl) ?_
            refine J_iload_n (pc := 62) C dX11_refusesShift_62 rfl 2 rfl ?_
            refine J_iadd (pc := 63) C dX11_refusesShift_63 ?_
            refine J_cS (S := []) (pc := 64) C dX11_refusesShift_64 (c_X11_isKey _ _ rfl) k_1100 ys_X11_isKey ⟨Nat.le_of_ble_eq_true rfl, Nat.le_of_ble_eq_true rfl⟩ ⟨Nat.le_of_ble_eq_true rfl, Nat.le_of_ble_eq_true rfl⟩ rfl rfl (fun _ => Nat.le_of_ble_eq_true rfl) ?_
            refine J_if_eq (pc := 67) C dX11_refusesShift_67 (tgt := 74) (by decide) hf (fun _ hf => ?_) (fun _ hf => ?_)
            · refine J_iconst (pc := 74) C dX11_refusesShift_74 (v := 3) (by decide) ?_
              exact J_iretP (pc := 75) C  rfl rfl dX11_refusesShift_75 hf
            · refine J_iconst (pc := 70) C dX11_refusesShift_70 (v := 0) (by decide) ?_
              refine J_goto (pc := 71) C dX11_refusesShift_71 (tgt := 75) (by decide) ?_
              exact J_iretP (pc := 75) C  rfl rfl dX11_refusesShift_75 hf
        · refine J_iconst (pc := 34) C dX11_refusesShift_34 (v := 2) (by decide) ?_
          exact J_iretP (pc := 35) C  rfl rfl dX11_refusesShift_35 hf
    · refine J_iconst (pc := 20) C dX11_refusesShift_20 (v := 1) (by decide) ?_
      exact J_iretP (pc := 21) C  rfl rfl dX11_refusesShift_21 hf
set_option maxRecDepth 100000 in
set_option maxHeartbeats 4000000 in
theorem c_X11_refusesMove {l : Launch} {D : va_G} {dA : FieldType → ClassId} (fu : Nat) (w : MW) (v0 : Nat) (v1 : Int32) (v2 : Int32) (v3 : Int32) (v4 : Int32) {rr : Int32} (hf : f_X11_refusesMove fu w v0 v1 v2 v3 v4 = some rr) : CT l D dA yX11_refusesMove cX11_refusesMove 7 (some .int) rmX11_refusesMove [.ref v0, .int v1, .int v2, .int v3, .int v4] w (some (.int rr)) w := by
  refine J_met (by decide) rfl (Nat.le_of_ble_eq_true rfl) (fun p e s m args below meth c A E C => ?_)
  rw [f_X11_refusesMove] at hf
  refine J_sub [0, 1, 2, 3, 4] (L1 := [(0, .ref v0), (1, .int v1), (2, .int v2), (3, .int v3), (4, .int v4)]) rfl ?_
  refine J_aload_n (pc := 0) C dX11_refusesMove_0 rfl 0 rfl ?_
  refine J_iload_n (pc := 1) C dX11_refusesMove_1 rfl 1 rfl ?_
  refine J_iload (pc := 2) C dX11_refusesMove_2 4 rfl ?_
  obtain ⟨q1, h2, hf⟩ := bind_ok hf
  obtain ⟨_, g3, h2⟩ := cl_spec h2
  refine J_cV (S := []) (pc := 4) C dX11_refusesMove_4 (c_X11_areTwo _ _ _ _ h2) k_1159 ys_X11_areTwo ⟨Nat.le_of_ble_eq_true rfl, Nat.le_of_ble_eq_true rfl⟩ ⟨Nat.le_of_ble_eq_true rfl, Nat.le_of_ble_eq_true rfl⟩ g3 rfl rfl (fun _ => Nat.le_of_ble_eq_true rfl) ?_
  refine J_if_eq (pc := 7) C dX11_refusesMove_7 (tgt := 24) (by decide) hf (fun _ hf => ?_) (fun _ hf => ?_)
  · refine J_iconst (pc := 24) C dX11_refusesMove_24 (v := 1) (by decide) ?_
    exact J_iretP (pc := 25) C  rfl rfl dX11_refusesMove_25 hf
  · refine J_iload_n (pc := 10) C dX11_refusesMove_10 rfl 2 rfl ?_
    refine J_cS (S := []) (pc := 11) C dX11_refusesMove_11 (c_X11_isKey _ _ rfl) k_1100 ys_X11_isKey ⟨Nat.le_of_ble_eq_true rfl, Nat.le_of_ble_eq_true rfl⟩ ⟨Nat.le_of_ble_eq_true rfl, Nat.le_of_ble_eq_true rfl⟩ rfl rfl (fun _ => Nat.le_of_ble_eq_true rfl) ?_
    refine J_if_eq (pc := 14) C dX11_refusesMove_14 (tgt := 24) (by decide) hf (fun _ hf => ?_) (fun _ hf => ?_)
    · refine J_iconst (pc := 24) C dX11_refusesMove_24 (v := 1) (by decide) ?_
      exact J_iretP (pc := 25) C  rfl rfl dX11_refusesMove_25 hf
    · refine J_iload_n (pc := 17) C dX11_refusesMove_17 rfl 3 rfl ?_
      refine J_cS (S := []) (pc := 18) C dX11_refusesMove_18 (c_X11_isKey _ _ rfl) k_1100 ys_X11_isKey ⟨Nat.le_of_ble_eq_true rfl, Nat.le_of_ble_eq_true rfl⟩ ⟨Nat.le_of_ble_eq_true rfl, Nat.le_of_ble_eq_true rfl⟩ rfl rfl (fun _ => Nat.le_of_ble_eq_true rfl) ?_
      refine J_if_ne (pc := 21) C dX11_refusesMove_21 (tgt := 26) (by decide) hf (fun _ hf => ?_) (fun _ hf => ?_)
      · refine J_aload_n (pc := 26) C dX11_refusesMove_26 rfl 0 rfl ?_
        refine J_iload_n (pc := 27) C dX11_refusesMove_27 rfl 1 rfl ?_
        refine J_iload_n (pc := 28) C dX11_refusesMove_28 rfl 2 rfl ?_
        refine J_iload_n (pc := 29) C dX11_refusesMove_29 rfl 3 rfl ?_
        obtain ⟨q4, h5, hf⟩ := bind_ok hf
        obtain ⟨_, g6, h5⟩ := cl_spec h5
        refine J_cV (S := []) (pc := 30) C dX11_refusesMove_30 (c_X11_counted _ _ _ _ _ _ h5) k_1163 ys_X11_counted ⟨Nat.le_of_ble_eq_true rfl, Nat.le_of_ble_eq_true rfl⟩ ⟨Nat.le_of_ble_eq_true rfl, Nat.le_of_ble_eq_true rfl⟩ g6 rfl rfl (fun _ => Nat.le_of_ble_eq_true rfl) ?_
        refine J_istore (pc := 33) C dX11_refusesMove_33 (by decide) hf (fun q => [(5, .int q), (0, .ref v0), (1, .int v1), (2, .int v2), (3, .int v3), (4, .int v4)]) (fun _ => rfl) (fun x7 hf => ?_)
        refine J_iload (pc := 35) C dX11_refusesMove_35 0 rfl ?_
        refine J_if_ne (pc := 37) C dX11_refusesMove_37 (tgt := 42) (by decide) hf (fun _ hf => ?_) (fun _ hf => ?_)
        · refine J_aload_n (pc := 42) C dX11_refusesMove_42 rfl 1 rfl ?_
          refine J_iload_n (pc := 43) C dX11_refusesMove_43 rfl 2 rfl ?_
          refine J_iload_n (pc := 44) C dX11_refusesMove_44 rfl 3 rfl ?_
          obtain ⟨q8, h9, hf⟩ := bind_ok hf
          obtain ⟨_, g10, h9⟩ := cl_spec h9
          refine J_cV (S := []) (pc := 45) C dX11_refusesMove_45 (c_X11_below _ _ _ _ _ h9) k_1107 ys_X11_below ⟨Nat.le_of_ble_eq_true rfl, Nat.le_of_ble_eq_true rfl⟩ ⟨Nat.le_of_ble_eq_true rfl, Nat.le_of_ble_eq_true rfl⟩ g10 rfl rfl (fun _ => Nat.le_of_ble_eq_true rfl) ?_
          refine J_istore (pc := 48) C dX11_refusesMove_48 (by decide) hf (fun q => [(6, .int q), (5, .int x7), (0, .ref v0), (1, .int v1), (2, .int v2), (3, .int v3), (4, .int v4)]) (fun _ => rfl) (fun x11 hf => ?_)
          refine J_aload_n (pc := 50) C dX11_refusesMove_50 rfl 2 rfl ?_
          refine J_iload (pc := 51) C dX11_refusesMove_51 6 rfl ?_
          refine J_aload_n (pc := 53) C dX11_refusesMove_53 rfl 2 rfl ?_
          refine J_iload_n (pc := 54) C dX11_refusesMove_54 rfl 3 rfl ?_
          refine J_iload (pc := 55) C dX11_refusesMove_55 0 rfl ?_
          obtain ⟨q12, h13, hf⟩ := bind_ok hf
          obtain ⟨_, g14, h13⟩ := cl_spec h13
          refine J_cV (S := [.int v4, .ref v0]) (pc := 57) C dX11_refusesMove_57 (c_X11_keyAt _ _ _ _ h13) k_1115 ys_X11_keyAt ⟨Nat.le_of_ble_eq_true rfl, Nat.le_of_ble_eq_true rfl⟩ ⟨Nat.le_of_ble_eq_true rfl, Nat.le_of_ble_eq_true rfl⟩ g14 rfl rfl (fun _ => Nat.le_of_ble_eq_true rfl) ?_
          refine J_aload_n (pc := 60) C dX11_refusesMove_60 rfl 2 rfl ?_
          refine J_iload_n (pc := 61) C dX11_refusesMove_61 rfl 3 rfl ?_
          refine J_iload (pc := 62) C dX11_refusesMove_62 0 rfl ?_
          refine J_iload (pc := 64) C dX11_refusesMove_64 1 rfl ?_
          refine J_iadd (pc := 66) C dX11_refusesMove_66 ?_
          refine J_iconst (pc := 67) C dX11_refusesMove_67 (v := 1) (by decide) ?_
          refine J_isub (pc := 68) C dX11_refusesMove_68 ?_
          obtain ⟨q15, h16, hf⟩ := bind_ok hf
          obtain ⟨_, g17, h16⟩ := cl_spec h16
          refine J_cV (S := [.int q12, .int v4, .ref v0]) (pc := 69) C dX11_refusesMove_69 (c_X11_keyAt _ _ _ _ h16) k_1115 ys_X11_keyAt ⟨Nat.le_of_ble_eq_true rfl, Nat.le_of_ble_eq_true rfl⟩ ⟨Nat.le_of_ble_eq_true rfl, Nat.le_of_ble_eq_true rfl⟩ g17 rfl rfl (fun _ => Nat.le_of_ble_eq_true rfl) ?_
          obtain ⟨q18, h19, hf⟩ := bind_ok hf
          obtain ⟨_, g20, h19⟩ := cl_spec h19
          refine J_cV (S := []) (pc := 72) C dX11_refusesMove_72 (c_X11_counted _ _ _ _ _ _ h19) k_1163 ys_X11_counted ⟨Nat.le_of_ble_eq_true rfl, Nat.le_of_ble_eq_true rfl⟩ ⟨Nat.le_of_ble_eq_true rfl, Nat.le_of_ble_eq_true rfl⟩ g20 rfl rfl (fun _ => Nat.le_of_ble_eq_true rfl) ?_
          refine J_if_le (pc := 75) C dX11_refusesMove_75 (tgt := 80) (by decide) hf (fun _ hf => ?_) (fun _ hf => ?_)
          · refine J_aload_n (pc := 80) C dX11_refusesMove_80 rfl 2 rfl ?_
            refine J_iload (pc := 81) C dX11_refusesMove_81 6 rfl ?_
            obtain ⟨q21, h22, hf⟩ := bind_ok hf
            obtain ⟨_, g23, h22⟩ := cl_spec h22
            refine J_cV (S := []) (pc := 83) C dX11_refusesMove_83 (c_X11_many _ _ _ h22) k_1111 ys_X11_many ⟨Nat.le_of_ble_eq_true rfl, Nat.le_of_ble_eq_true rfl⟩ ⟨Nat.le_of_ble_eq_true rfl, Nat.le_of_ble_eq_true rfl⟩ g23 rfl rfl (fun _ => Nat.le_of_ble_eq_true rfl) ?_
            refine J_iload (pc := 86) C dX11_refusesMove_86 1 rfl ?_
            refine J_iadd (pc := 88) C dX11_refusesMove_88 ?_
            refine J_bipush (pc := 89) C dX11_refusesMove_89 (v := 60) (by decide) ?_
            refine J_icmp_le (pc := 91) C dX11_refusesMove_91 (tgt := 98) (by decide) hf (fun _ hf => ?_) (fun _ hf => ?_)
            · refine J_iconst (pc := 98) C dX11_refusesMove_98 (v := 0) (by decide) ?_
              exact J_iretP (pc := 99) C  rfl rfl dX11_refusesMove_99 hf
            · refine J_iconst (pc := 94) C dX11_refusesMove_94 (v := 4) (by decide) ?_
              refine J_goto (pc := 95) C dX11_refusesMove_95 (tgt := 99) (by decide) ?_
              exact J_iretP (pc := 99) C  rfl rfl dX11_refusesMove_99 hf
          · refine J_iconst (pc := 78) C dX11_refusesMove_78 (v := 3) (by decide) ?_
            exact J_iretP (pc := 79) C  rfl rfl dX11_refusesMove_79 hf
        · refine J_iconst (pc := 40) C dX11_refusesMove_40 (v := 2) (by decide) ?_
          exact J_iretP (pc := 41) C  rfl rfl dX11_refusesMove_41 hf
      · refine J_iconst (pc := 24) C dX11_refusesMove_24 (v := 1) (by decide) ?_
        exact J_iretP (pc := 25) C  rfl rfl dX11_refusesMove_25 hf
set_option maxRecDepth 100000 in
set_option maxHeartbeats 4000000 in
theorem c_X11_marked {l : Launch} {D : va_G} {dA : FieldType → ClassId} (fu : Nat) (w : MW) (v0 : Nat) (v1 : Int32) (v2 : Int32) (v3 : Int32) (v4 : Int32) (v5 : Int32) {rr : Int32} {w' : MW} (hf : f_X11_marked fu w v0 v1 v2 v3 v4 v5 = some (rr, w')) : CT l D dA yX11_marked cX11_marked 8 (some .int) rmX11_marked [.ref v0, .int v1, .int v2, .int v3, .int v4, .int v5] w (some (.int rr)) w' := by
  refine J_met (by decide) rfl (Nat.le_of_ble_eq_true rfl) (fun p e s m args below meth c A E C => ?_)
  have B76 : ∀ (lr6 : MW → Nat → Int32 → Int32 → Int32 → Int32 → Int32 → Int32 → Int32 → Option (Int32 × MW)) (lh6 : ∀ (w : MW) (v0 : Nat) (v1 : Int32) (v2 : Int32) (v3 : Int32) (v4 : Int32) (v5 : Int32) (v6 : Int32) (v7 : Int32), lr6 w v0 v1 v2 v3 v4 v5 v6 v7 = some (rr, w') → JW p l e rmX11_marked s m args below meth c 8 D dA A E (MQ below (Qr D dA E (some (.int rr)) w' A) args s 0 0 A) 0 0 6 [(0, .ref v0), (1, .int v1), (2, .int v2), (3, .int v3), (4, .int v4), (5, .int v5), (6, .int v6), (7, .int v7)] [] w) (w : MW) (v0 : Nat) (v1 : Int32) (v2 : Int32) (v3 : Int32) (v4 : Int32) (v5 : Int32) (v6 : Int32) (v7 : Int32), f_X11_marked_76 fu lr6 w v0 v1 v2 v3 v4 v5 v6 v7 = some (rr, w') → JW p l e rmX11_marked s m args below meth c 8 D dA A E (MQ below (Qr D dA E (some (.int rr)) w' A) args s 0 0 A) 0 0 76 [(0, .ref v0), (1, .int v1), (2, .int v2), (3, .int v3), (4, .int v4), (5, .int v5), (6, .int v6), (7, .int v7)] [] w := by
    intro lr6 lh6 w v0 v1 v2 v3 v4 v5 v6 v7 hf
    rw [f_X11_marked_76] at hf
    refine J_iinc (pc := 76) C dX11_marked_76 7 rfl (y := v7 + 1) rfl (by decide) hf (fun q => [(7, .int q), (0, .ref v0), (1, .int v1), (2, .int v2), (3, .int v3), (4, .int v4), (5, .int v5), (6, .int v6)]) (fun _ => rfl) (fun x9 hf => ?_)
    refine J_goto (pc := 79) C dX11_marked_79 (tgt := 6) (by decide) ?_
    refine J_sub [1, 2, 3, 4, 5, 6, 7, 0] (L1 := [(0, .ref v0), (1, .int v1), (2, .int v2), (3, .int v3), (4, .int v4), (5, .int v5), (6, .int v6), (7, .int x9)]) rfl ?_
    exact lh6 w v0 v1 v2 v3 v4 v5 v6 x9 hf
  have B6 : ∀ (n : Nat) (w : MW) (v0 : Nat) (v1 : Int32) (v2 : Int32) (v3 : Int32) (v4 : Int32) (v5 : Int32) (v6 : Int32) (v7 : Int32), f_X11_marked_6 fu n w v0 v1 v2 v3 v4 v5 v6 v7 = some (rr, w') → JW p l e rmX11_marked s m args below meth c 8 D dA A E (MQ below (Qr D dA E (some (.int rr)) w' A) args s 0 0 A) 0 0 6 [(0, .ref v0), (1, .int v1), (2, .int v2), (3, .int v3), (4, .int v4), (5, .int v5), (6, .int v6), (7, .int v7)] [] w := by
    intro n
    induction n with
    | zero => intro w v0 v1 v2 v3 v4 v5 v6 v7 hf; rw [f_X11_marked_6] at hf; cases hf
    | succ n ih =>
      intro w v0 v1 v2 v3 v4 v5 v6 v7 hf
      rw [f_X11_marked_6] at hf
      refine J_iload (pc := 6) C dX11_marked_6 7 rfl ?_
      refine J_aload_n (pc := 8) C dX11_marked_8 rfl 0 rfl ?_
      refine J_iload_n (pc := 9) C dX11_marked_9 rfl 1 rfl ?_
      obtain ⟨q3, h4, hf⟩ := bind_ok hf
      obtain ⟨_, g5, h4⟩ := cl_spec h4
      refine J_cV (S := [.int v7]) (pc := 10) C dX11_marked_10 (c_X11_many _ _ _ h4) k_1111 ys_X11_many ⟨Nat.le_of_ble_eq_true rfl, Nat.le_of_ble_eq_true rfl⟩ ⟨Nat.le_of_ble_eq_true rfl, Nat.le_of_ble_eq_true rfl⟩ g5 rfl rfl (fun _ => Nat.le_of_ble_eq_true rfl) ?_
      refine J_icmp_ge (pc := 13) C dX11_marked_13 (tgt := 82) (by decide) hf (fun _ hf => ?_) (fun _ hf => ?_)
      · refine J_iload (pc := 82) C dX11_marked_82 6 rfl ?_
        exact J_iret (pc := 84) C  rfl rfl dX11_marked_84 hf
      · refine J_aload_n (pc := 16) C dX11_marked_16 rfl 0 rfl ?_
        refine J_iload_n (pc := 17) C dX11_marked_17 rfl 1 rfl ?_
        refine J_iload (pc := 18) C dX11_marked_18 7 rfl ?_
        obtain ⟨q6, h7, hf⟩ := bind_ok hf
        obtain ⟨_, g8, h7⟩ := cl_spec h7
        refine J_cV (S := []) (pc := 20) C dX11_marked_20 (c_X11_keyAt _ _ _ _ h7) k_1115 ys_X11_keyAt ⟨Nat.le_of_ble_eq_true rfl, Nat.le_of_ble_eq_true rfl⟩ ⟨Nat.le_of_ble_eq_true rfl, Nat.le_of_ble_eq_true rfl⟩ g8 rfl rfl (fun _ => Nat.le_of_ble_eq_true rfl) ?_
        refine J_iload_n (pc := 23) C dX11_marked_23 rfl 2 rfl ?_
        refine J_iload_n (pc := 24) C dX11_marked_24 rfl 3 rfl ?_
        refine J_cS (S := []) (pc := 25) C dX11_marked_25 (c_X11_isIn _ _ _ _ rfl) k_1097 ys_X11_isIn ⟨Nat.le_of_ble_eq_true rfl, Nat.le_of_ble_eq_true rfl⟩ ⟨Nat.le_of_ble_eq_true rfl, Nat.le_of_ble_eq_true rfl⟩ rfl rfl (fun _ => Nat.le_of_ble_eq_true rfl) ?_
        refine J_if_eq (pc := 28) C dX11_marked_28 (tgt := 76) (by decide) hf (fun _ hf => ?_) (fun _ hf => ?_)
        · refine J_sub [0, 1, 2, 3, 4, 5, 6, 7] (L1 := [(0, .ref v0), (1, .int v1), (2, .int v2), (3, .int v3), (4, .int v4), (5, .int v5), (6, .int v6), (7, .int v7)]) rfl ?_
          exact B76 (f_X11_marked_6 fu n) ih w v0 v1 v2 v3 v4 v5 v6 v7 hf
        · refine J_aload_n (pc := 31) C dX11_marked_31 rfl 0 rfl ?_
          refine J_iload_n (pc := 32) C dX11_marked_32 rfl 1 rfl ?_
          refine J_iload (pc := 33) C dX11_marked_33 7 rfl ?_
          obtain ⟨q10, h11, hf⟩ := bind_ok hf
          obtain ⟨_, g12, h11⟩ := cl_spec h11
          refine J_cV (S := []) (pc := 35) C dX11_marked_35 (c_X11_markAt _ _ _ _ h11) k_1171 ys_X11_markAt ⟨Nat.le_of_ble_eq_true rfl, Nat.le_of_ble_eq_true rfl⟩ ⟨Nat.le_of_ble_eq_true rfl, Nat.le_of_ble_eq_true rfl⟩ g12 rfl rfl (fun _ => Nat.le_of_ble_eq_true rfl) ?_
          refine J_iload (pc := 38) C dX11_marked_38 4 rfl ?_
          refine J_icmp_ne (pc := 40) C dX11_marked_40 (tgt := 46) (by decide) hf (fun _ hf => ?_) (fun _ hf => ?_)
          · refine J_iinc (pc := 46) C dX11_marked_46 6 rfl (y := v6 + 1) rfl (by decide) hf (fun q => [(6, .int q), (0, .ref v0), (1, .int v1), (2, .int v2), (3, .int v3), (4, .int v4), (5, .int v5), (7, .int v7)]) (fun _ => rfl) (fun x13 hf => ?_)
            refine J_iload (pc := 49) C dX11_marked_49 6 rfl ?_
            refine J_if_eq (pc := 51) C dX11_marked_51 (tgt := 76) (by decide) hf (fun _ hf => ?_) (fun _ hf => ?_)
            · refine J_sub [1, 2, 3, 4, 5, 6, 0, 7] (L1 := [(0, .ref v0), (1, .int v1), (2, .int v2), (3, .int v3), (4, .int v4), (5, .int v5), (6, .int x13), (7, .int v7)]) rfl ?_
              exact B76 (f_X11_marked_6 fu n) ih w v0 v1 v2 v3 v4 v5 x13 v7 hf
            · refine J_aload_n (pc := 54) C dX11_marked_54 rfl 1 rfl ?_
              refine J_getR (pc := 55) C dX11_marked_55 (ci := 11) (k0 := 0) rfl iX11 (by decide) k_1003 hf (fun x14 hf => ?_)
              refine J_aload_n (pc := 58) C dX11_marked_58 rfl 1 rfl ?_
              refine J_getI (pc := 59) C dX11_marked_59 (ci := 11) (k0 := 9) rfl iX11 (by decide) k_1012 hf (fun x15 hf => ?_)
              refine J_bipush (pc := 62) C dX11_marked_62 (v := 122) (by decide) ?_
              refine J_iload_n (pc := 64) C dX11_marked_64 rfl 2 rfl ?_
              refine J_imul (pc := 65) C dX11_marked_65 ?_
              refine J_iadd (pc := 66) C dX11_marked_66 ?_
              refine J_bipush (pc := 67) C dX11_marked_67 (v := 62) (by decide) ?_
              refine J_iadd (pc := 69) C dX11_marked_69 ?_
              refine J_iload (pc := 70) C dX11_marked_70 7 rfl ?_
              refine J_iadd (pc := 72) C dX11_marked_72 ?_
              refine J_iload (pc := 73) C dX11_marked_73 5 rfl ?_
              refine J_iast (pc := 75) C dX11_marked_75 hf (fun w16 hf => ?_)
              refine J_sub [1, 2, 3, 4, 5, 6, 0, 7] (L1 := [(0, .ref v0), (1, .int v1), (2, .int v2), (3, .int v3), (4, .int v4), (5, .int v5), (6, .int x13), (7, .int v7)]) rfl ?_
              exact B76 (f_X11_marked_6 fu n) ih w16 v0 v1 v2 v3 v4 v5 x13 v7 hf
          · refine J_goto (pc := 43) C dX11_marked_43 (tgt := 76) (by decide) ?_
            refine J_sub [0, 1, 2, 3, 4, 5, 6, 7] (L1 := [(0, .ref v0), (1, .int v1), (2, .int v2), (3, .int v3), (4, .int v4), (5, .int v5), (6, .int v6), (7, .int v7)]) rfl ?_
            exact B76 (f_X11_marked_6 fu n) ih w v0 v1 v2 v3 v4 v5 v6 v7 hf
  rw [f_X11_marked] at hf
  refine J_sub [0, 1, 2, 3, 4, 5] (L1 := [(0, .ref v0), (1, .int v1), (2, .int v2), (3, .int v3), (4, .int v4), (5, .int v5)]) rfl ?_
  refine J_iconst (pc := 0) C dX11_marked_0 (v := 0) (by decide) ?_
  refine J_istore (pc := 1) C dX11_marked_1 (by decide) hf (fun q => [(6, .int q), (0, .ref v0), (1, .int v1), (2, .int v2), (3, .int v3), (4, .int v4), (5, .int v5)]) (fun _ => rfl) (fun x1 hf => ?_)
  refine J_iconst (pc := 3) C dX11_marked_3 (v := 0) (by decide) ?_
  refine J_istore (pc := 4) C dX11_marked_4 (by decide) hf (fun q => [(7, .int q), (6, .int x1), (0, .ref v0), (1, .int v1), (2, .int v2), (3, .int v3), (4, .int v4), (5, .int v5)]) (fun _ => rfl) (fun x2 hf => ?_)
  refine J_sub [2, 3, 4, 5, 6, 7, 1, 0] (L1 := [(0, .ref v0), (1, .int v1), (2, .int v2), (3, .int v3), (4, .int v4), (5, .int v5), (6, .int x1), (7, .int x2)]) rfl ?_
  exact B6 fu w v0 v1 v2 v3 v4 v5 x1 x2 hf
