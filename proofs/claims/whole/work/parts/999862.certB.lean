set_option maxRecDepth 100000 in
set_option maxHeartbeats 4000000 in
theorem c_X11_refusesMark {l : Launch} {D : va_G} {dA : FieldType → ClassId} (fu : Nat) (w : MW) (v0 : Nat) (v1 : Int32) (v2 : Int32) (v3 : Int32) (v4 : Int32) {rr : Int32} {w' : MW} (hf : f_X11_refusesMark fu w v0 v1 v2 v3 v4 = some (rr, w')) : CT l D dA yX11_refusesMark cX11_refusesMark 5 (some .int) rmX11_refusesMark [.ref v0, .int v1, .int v2, .int v3, .int v4] w (some (.int rr)) w' := by
  refine J_met (by decide) rfl (Nat.le_of_ble_eq_true rfl) (fun p e s m args below meth c A E C => ?_)
  rw [f_X11_refusesMark] at hf
  refine J_sub [0, 1, 2, 3, 4] (L1 := [(0, .ref v0), (1, .int v1), (2, .int v2), (3, .int v3), (4, .int v4)]) rfl ?_
  refine J_iload_n (pc := 0) C dX11_refusesMark_0 rfl 1 rfl ?_
  refine J_cS (S := []) (pc := 1) C dX11_refusesMark_1 (c_X11_isSet _ _ rfl) k_1094 ys_X11_isSet ⟨Nat.le_of_ble_eq_true rfl, Nat.le_of_ble_eq_true rfl⟩ ⟨Nat.le_of_ble_eq_true rfl, Nat.le_of_ble_eq_true rfl⟩ rfl rfl (fun _ => Nat.le_of_ble_eq_true rfl) ?_
  refine J_if_eq (pc := 4) C dX11_refusesMark_4 (tgt := 21) (by decide) hf (fun _ hf => ?_) (fun _ hf => ?_)
  · refine J_iconst (pc := 21) C dX11_refusesMark_21 (v := 1) (by decide) ?_
    exact J_iret (pc := 22) C  rfl rfl dX11_refusesMark_22 hf
  · refine J_iload_n (pc := 7) C dX11_refusesMark_7 rfl 2 rfl ?_
    refine J_cS (S := []) (pc := 8) C dX11_refusesMark_8 (c_X11_isKey _ _ rfl) k_1100 ys_X11_isKey ⟨Nat.le_of_ble_eq_true rfl, Nat.le_of_ble_eq_true rfl⟩ ⟨Nat.le_of_ble_eq_true rfl, Nat.le_of_ble_eq_true rfl⟩ rfl rfl (fun _ => Nat.le_of_ble_eq_true rfl) ?_
    refine J_if_eq (pc := 11) C dX11_refusesMark_11 (tgt := 21) (by decide) hf (fun _ hf => ?_) (fun _ hf => ?_)
    · refine J_iconst (pc := 21) C dX11_refusesMark_21 (v := 1) (by decide) ?_
      exact J_iret (pc := 22) C  rfl rfl dX11_refusesMark_22 hf
    · refine J_iload_n (pc := 14) C dX11_refusesMark_14 rfl 3 rfl ?_
      refine J_cS (S := []) (pc := 15) C dX11_refusesMark_15 (c_X11_isKey _ _ rfl) k_1100 ys_X11_isKey ⟨Nat.le_of_ble_eq_true rfl, Nat.le_of_ble_eq_true rfl⟩ ⟨Nat.le_of_ble_eq_true rfl, Nat.le_of_ble_eq_true rfl⟩ rfl rfl (fun _ => Nat.le_of_ble_eq_true rfl) ?_
      refine J_if_ne (pc := 18) C dX11_refusesMark_18 (tgt := 23) (by decide) hf (fun _ hf => ?_) (fun _ hf => ?_)
      · refine J_aload_n (pc := 23) C dX11_refusesMark_23 rfl 0 rfl ?_
        refine J_iload_n (pc := 24) C dX11_refusesMark_24 rfl 1 rfl ?_
        refine J_iload_n (pc := 25) C dX11_refusesMark_25 rfl 2 rfl ?_
        refine J_iload_n (pc := 26) C dX11_refusesMark_26 rfl 3 rfl ?_
        refine J_iload (pc := 27) C dX11_refusesMark_27 4 rfl ?_
        refine J_iconst (pc := 29) C dX11_refusesMark_29 (v := 0) (by decide) ?_
        obtain ⟨q1, h2, hf⟩ := bind_ok hf
        obtain ⟨_, g3, h2⟩ := cl_spec h2
        refine J_cV (S := []) (pc := 30) C dX11_refusesMark_30 (c_X11_marked _ _ _ _ _ _ _ _ h2) k_1239 ys_X11_marked ⟨Nat.le_of_ble_eq_true rfl, Nat.le_of_ble_eq_true rfl⟩ ⟨Nat.le_of_ble_eq_true rfl, Nat.le_of_ble_eq_true rfl⟩ g3 rfl rfl (fun _ => Nat.le_of_ble_eq_true rfl) ?_
        refine J_if_ne (pc := 33) C dX11_refusesMark_33 (tgt := 40) (by decide) hf (fun _ hf => ?_) (fun _ hf => ?_)
        · refine J_iconst (pc := 40) C dX11_refusesMark_40 (v := 0) (by decide) ?_
          exact J_iret (pc := 41) C  rfl rfl dX11_refusesMark_41 hf
        · refine J_iconst (pc := 36) C dX11_refusesMark_36 (v := 2) (by decide) ?_
          refine J_goto (pc := 37) C dX11_refusesMark_37 (tgt := 41) (by decide) ?_
          exact J_iret (pc := 41) C  rfl rfl dX11_refusesMark_41 hf
      · refine J_iconst (pc := 21) C dX11_refusesMark_21 (v := 1) (by decide) ?_
        exact J_iret (pc := 22) C  rfl rfl dX11_refusesMark_22 hf
set_option maxRecDepth 100000 in
set_option maxHeartbeats 4000000 in
theorem c_X11_goOver {l : Launch} {D : va_G} {dA : FieldType → ClassId} (fu : Nat) (w : MW) (v0 : Nat) (v1 : Int32) (v2 : Int32) (v3 : Int32) (v4 : Int32) {rr : Int32} {w' : MW} (hf : f_X11_goOver fu w v0 v1 v2 v3 v4 = some (rr, w')) : CT l D dA yX11_goOver cX11_goOver 11 (some .int) rmX11_goOver [.ref v0, .int v1, .int v2, .int v3, .int v4] w (some (.int rr)) w' := by
  refine J_met (by decide) rfl (Nat.le_of_ble_eq_true rfl) (fun p e s m args below meth c A E C => ?_)
  have B109 : ∀ (lr20 : MW → Nat → Int32 → Int32 → Int32 → Int32 → Int32 → Option (Int32 × MW)) (lh20 : ∀ (w : MW) (v0 : Nat) (v1 : Int32) (v4 : Int32) (v5 : Int32) (v6 : Int32) (v7 : Int32), lr20 w v0 v1 v4 v5 v6 v7 = some (rr, w') → JW p l e rmX11_goOver s m args below meth c 11 D dA A E (MQ below (Qr D dA E (some (.int rr)) w' A) args s 0 0 A) 0 0 20 [(0, .ref v0), (1, .int v1), (4, .int v4), (5, .int v5), (6, .int v6), (7, .int v7)] [] w) (w : MW) (v0 : Nat) (v1 : Int32) (v4 : Int32) (v5 : Int32) (v6 : Int32) (v7 : Int32), f_X11_goOver_109 fu lr20 w v0 v1 v4 v5 v6 v7 = some (rr, w') → JW p l e rmX11_goOver s m args below meth c 11 D dA A E (MQ below (Qr D dA E (some (.int rr)) w' A) args s 0 0 A) 0 0 109 [(0, .ref v0), (1, .int v1), (4, .int v4), (5, .int v5), (6, .int v6), (7, .int v7)] [] w := by
    intro lr20 lh20 w v0 v1 v4 v5 v6 v7 hf
    rw [f_X11_goOver_109] at hf
    refine J_iinc (pc := 109) C dX11_goOver_109 5 rfl (y := v7 + 1) rfl (by decide) hf (fun q => [(7, .int q), (0, .ref v0), (1, .int v1), (4, .int v4), (5, .int v5), (6, .int v6)]) (fun _ => rfl) (fun x25 hf => ?_)
    refine J_goto (pc := 112) C dX11_goOver_112 (tgt := 20) (by decide) ?_
    refine J_sub [1, 2, 3, 4, 5, 0] (L1 := [(0, .ref v0), (1, .int v1), (4, .int v4), (5, .int v5), (6, .int v6), (7, .int x25)]) rfl ?_
    exact lh20 w v0 v1 v4 v5 v6 x25 hf
  have B20 : ∀ (n : Nat) (w : MW) (v0 : Nat) (v1 : Int32) (v4 : Int32) (v5 : Int32) (v6 : Int32) (v7 : Int32), f_X11_goOver_20 fu n w v0 v1 v4 v5 v6 v7 = some (rr, w') → JW p l e rmX11_goOver s m args below meth c 11 D dA A E (MQ below (Qr D dA E (some (.int rr)) w' A) args s 0 0 A) 0 0 20 [(0, .ref v0), (1, .int v1), (4, .int v4), (5, .int v5), (6, .int v6), (7, .int v7)] [] w := by
    intro n
    induction n with
    | zero => intro w v0 v1 v4 v5 v6 v7 hf; rw [f_X11_goOver_20] at hf; cases hf
    | succ n ih =>
      intro w v0 v1 v4 v5 v6 v7 hf
      rw [f_X11_goOver_20] at hf
      refine J_iload (pc := 20) C dX11_goOver_20 5 rfl ?_
      refine J_iload (pc := 22) C dX11_goOver_22 3 rfl ?_
      refine J_icmp_ge (pc := 24) C dX11_goOver_24 (tgt := 115) (by decide) hf (fun _ hf => ?_) (fun _ hf => ?_)
      · refine J_iload (pc := 115) C dX11_goOver_115 3 rfl ?_
        exact J_iret (pc := 117) C  rfl rfl dX11_goOver_117 hf
      · refine J_aload_n (pc := 27) C dX11_goOver_27 rfl 0 rfl ?_
        refine J_iload_n (pc := 28) C dX11_goOver_28 rfl 1 rfl ?_
        refine J_iload (pc := 29) C dX11_goOver_29 4 rfl ?_
        obtain ⟨q10, h11, hf⟩ := bind_ok hf
        obtain ⟨_, g12, h11⟩ := cl_spec h11
        refine J_cV (S := []) (pc := 31) C dX11_goOver_31 (c_X11_keyAt _ _ _ _ h11) k_1115 ys_X11_keyAt ⟨Nat.le_of_ble_eq_true rfl, Nat.le_of_ble_eq_true rfl⟩ ⟨Nat.le_of_ble_eq_true rfl, Nat.le_of_ble_eq_true rfl⟩ g12 rfl rfl (fun _ => Nat.le_of_ble_eq_true rfl) ?_
        refine J_istore (pc := 34) C dX11_goOver_34 (by decide) hf (fun q => [(8, .int q), (0, .ref v0), (1, .int v1), (4, .int v4), (5, .int v5), (6, .int v6), (7, .int v7)]) (fun _ => rfl) (fun x13 hf => ?_)
        refine J_aload_n (pc := 36) C dX11_goOver_36 rfl 1 rfl ?_
        refine J_iload_n (pc := 37) C dX11_goOver_37 rfl 2 rfl ?_
        refine J_iload (pc := 38) C dX11_goOver_38 5 rfl ?_
        obtain ⟨q14, h15, hf⟩ := bind_ok hf
        obtain ⟨_, g16, h15⟩ := cl_spec h15
        refine J_cV (S := []) (pc := 40) C dX11_goOver_40 (c_X11_markAt _ _ _ _ h15) k_1171 ys_X11_markAt ⟨Nat.le_of_ble_eq_true rfl, Nat.le_of_ble_eq_true rfl⟩ ⟨Nat.le_of_ble_eq_true rfl, Nat.le_of_ble_eq_true rfl⟩ g16 rfl rfl (fun _ => Nat.le_of_ble_eq_true rfl) ?_
        refine J_istore (pc := 43) C dX11_goOver_43 (by decide) hf (fun q => [(9, .int q), (8, .int x13), (0, .ref v0), (1, .int v1), (4, .int v4), (5, .int v5), (6, .int v6), (7, .int v7)]) (fun _ => rfl) (fun x17 hf => ?_)
        refine J_aload_n (pc := 45) C dX11_goOver_45 rfl 2 rfl ?_
        refine J_iload_n (pc := 46) C dX11_goOver_46 rfl 3 rfl ?_
        refine J_iload (pc := 47) C dX11_goOver_47 6 rfl ?_
        obtain ⟨q18, h19, hf⟩ := bind_ok hf
        obtain ⟨_, g20, h19⟩ := cl_spec h19
        refine J_cV (S := []) (pc := 49) C dX11_goOver_49 (c_X11_drops _ _ _ _ _ h19) k_1147 ys_X11_drops ⟨Nat.le_of_ble_eq_true rfl, Nat.le_of_ble_eq_true rfl⟩ ⟨Nat.le_of_ble_eq_true rfl, Nat.le_of_ble_eq_true rfl⟩ g20 rfl rfl (fun _ => Nat.le_of_ble_eq_true rfl) ?_
        refine J_aload_n (pc := 52) C dX11_goOver_52 rfl 2 rfl ?_
        refine J_iload (pc := 53) C dX11_goOver_53 4 rfl ?_
        refine J_iload (pc := 55) C dX11_goOver_55 1 rfl ?_
        obtain ⟨q21, h22, hf⟩ := bind_ok hf
        obtain ⟨_, g23, h22⟩ := cl_spec h22
        refine J_cV (S := []) (pc := 57) C dX11_goOver_57 (c_X11_placeOf _ _ _ _ _ h22) k_1103 ys_X11_placeOf ⟨Nat.le_of_ble_eq_true rfl, Nat.le_of_ble_eq_true rfl⟩ ⟨Nat.le_of_ble_eq_true rfl, Nat.le_of_ble_eq_true rfl⟩ g23 rfl rfl (fun _ => Nat.le_of_ble_eq_true rfl) ?_
        refine J_istore (pc := 60) C dX11_goOver_60 (by decide) hf (fun q => [(10, .int q), (9, .int x17), (8, .int x13), (0, .ref v0), (1, .int v1), (4, .int v4), (5, .int v5), (6, .int v6), (7, .int v7)]) (fun _ => rfl) (fun x24 hf => ?_)
        refine J_iload (pc := 62) C dX11_goOver_62 0 rfl ?_
        refine J_iconst (pc := 64) C dX11_goOver_64 (v := -1) (by decide) ?_
        refine J_icmp_ne (pc := 65) C dX11_goOver_65 (tgt := 81) (by decide) hf (fun _ hf => ?_) (fun _ hf => ?_)
        · refine J_iload (pc := 81) C dX11_goOver_81 1 rfl ?_
          refine J_iconst (pc := 83) C dX11_goOver_83 (v := 1) (by decide) ?_
          refine J_icmp_ne (pc := 84) C dX11_goOver_84 (tgt := 109) (by decide) hf (fun _ hf => ?_) (fun _ hf => ?_)
          · refine J_sub [3, 4, 5, 6, 7, 8] (L1 := [(0, .ref v0), (1, .int v1), (4, .int v4), (5, .int v5), (6, .int v6), (7, .int v7)]) rfl ?_
            exact B109 (f_X11_goOver_20 fu n) ih q18 v0 v1 v4 v5 v6 v7 hf
          · refine J_aload_n (pc := 87) C dX11_goOver_87 rfl 3 rfl ?_
            refine J_getR (pc := 88) C dX11_goOver_88 (ci := 11) (k0 := 0) rfl iX11 (by decide) k_1003 hf (fun x26 hf => ?_)
            refine J_aload_n (pc := 91) C dX11_goOver_91 rfl 3 rfl ?_
            refine J_getI (pc := 92) C dX11_goOver_92 (ci := 11) (k0 := 9) rfl iX11 (by decide) k_1012 hf (fun x27 hf => ?_)
            refine J_bipush (pc := 95) C dX11_goOver_95 (v := 122) (by decide) ?_
            refine J_iload (pc := 97) C dX11_goOver_97 5 rfl ?_
            refine J_imul (pc := 99) C dX11_goOver_99 ?_
            refine J_iadd (pc := 100) C dX11_goOver_100 ?_
            refine J_bipush (pc := 101) C dX11_goOver_101 (v := 62) (by decide) ?_
            refine J_iadd (pc := 103) C dX11_goOver_103 ?_
            refine J_iload (pc := 104) C dX11_goOver_104 0 rfl ?_
            refine J_iadd (pc := 106) C dX11_goOver_106 ?_
            refine J_iconst (pc := 107) C dX11_goOver_107 (v := 1) (by decide) ?_
            refine J_iast (pc := 108) C dX11_goOver_108 hf (fun w28 hf => ?_)
            refine J_sub [3, 4, 5, 6, 7, 8] (L1 := [(0, .ref v0), (1, .int v1), (4, .int v4), (5, .int v5), (6, .int v6), (7, .int v7)]) rfl ?_
            exact B109 (f_X11_goOver_20 fu n) ih w28 v0 v1 v4 v5 v6 v7 hf
        · refine J_aload_n (pc := 68) C dX11_goOver_68 rfl 3 rfl ?_
          refine J_iload (pc := 69) C dX11_goOver_69 5 rfl ?_
          refine J_iload (pc := 71) C dX11_goOver_71 2 rfl ?_
          refine J_iload (pc := 73) C dX11_goOver_73 1 rfl ?_
          obtain ⟨q29, h30, hf⟩ := bind_ok hf
          obtain ⟨_, g31, h30⟩ := cl_spec h30
          refine J_cV (S := []) (pc := 75) C dX11_goOver_75 (c_X11_puts _ _ _ _ _ _ h30) k_1135 ys_X11_puts ⟨Nat.le_of_ble_eq_true rfl, Nat.le_of_ble_eq_true rfl⟩ ⟨Nat.le_of_ble_eq_true rfl, Nat.le_of_ble_eq_true rfl⟩ g31 rfl rfl (fun _ => Nat.le_of_ble_eq_true rfl) ?_
          refine J_goto (pc := 78) C dX11_goOver_78 (tgt := 109) (by decide) ?_
          refine J_sub [3, 4, 5, 6, 7, 8] (L1 := [(0, .ref v0), (1, .int v1), (4, .int v4), (5, .int v5), (6, .int v6), (7, .int v7)]) rfl ?_
          exact B109 (f_X11_goOver_20 fu n) ih q29 v0 v1 v4 v5 v6 v7 hf
  rw [f_X11_goOver] at hf
  refine J_sub [0, 1, 2, 3, 4] (L1 := [(0, .ref v0), (1, .int v1), (2, .int v2), (3, .int v3), (4, .int v4)]) rfl ?_
  refine J_aload_n (pc := 0) C dX11_goOver_0 rfl 0 rfl ?_
  refine J_iload_n (pc := 1) C dX11_goOver_1 rfl 1 rfl ?_
  refine J_iload_n (pc := 2) C dX11_goOver_2 rfl 2 rfl ?_
  refine J_iload_n (pc := 3) C dX11_goOver_3 rfl 3 rfl ?_
  obtain ⟨q1, h2, hf⟩ := bind_ok hf
  obtain ⟨_, g3, h2⟩ := cl_spec h2
  refine J_cV (S := []) (pc := 4) C dX11_goOver_4 (c_X11_counted _ _ _ _ _ _ h2) k_1163 ys_X11_counted ⟨Nat.le_of_ble_eq_true rfl, Nat.le_of_ble_eq_true rfl⟩ ⟨Nat.le_of_ble_eq_true rfl, Nat.le_of_ble_eq_true rfl⟩ g3 rfl rfl (fun _ => Nat.le_of_ble_eq_true rfl) ?_
  refine J_istore (pc := 7) C dX11_goOver_7 (by decide) hf (fun q => [(5, .int q), (0, .ref v0), (1, .int v1), (2, .int v2), (3, .int v3), (4, .int v4)]) (fun _ => rfl) (fun x4 hf => ?_)
  refine J_aload_n (pc := 9) C dX11_goOver_9 rfl 1 rfl ?_
  refine J_iload_n (pc := 10) C dX11_goOver_10 rfl 2 rfl ?_
  refine J_iload_n (pc := 11) C dX11_goOver_11 rfl 3 rfl ?_
  obtain ⟨q5, h6, hf⟩ := bind_ok hf
  obtain ⟨_, g7, h6⟩ := cl_spec h6
  refine J_cV (S := []) (pc := 12) C dX11_goOver_12 (c_X11_below _ _ _ _ _ h6) k_1107 ys_X11_below ⟨Nat.le_of_ble_eq_true rfl, Nat.le_of_ble_eq_true rfl⟩ ⟨Nat.le_of_ble_eq_true rfl, Nat.le_of_ble_eq_true rfl⟩ g7 rfl rfl (fun _ => Nat.le_of_ble_eq_true rfl) ?_
  refine J_istore (pc := 15) C dX11_goOver_15 (by decide) hf (fun q => [(6, .int q), (5, .int x4), (0, .ref v0), (1, .int v1), (2, .int v2), (3, .int v3), (4, .int v4)]) (fun _ => rfl) (fun x8 hf => ?_)
  refine J_iconst (pc := 17) C dX11_goOver_17 (v := 0) (by decide) ?_
  refine J_istore (pc := 18) C dX11_goOver_18 (by decide) hf (fun q => [(7, .int q), (6, .int x8), (5, .int x4), (0, .ref v0), (1, .int v1), (2, .int v2), (3, .int v3), (4, .int v4)]) (fun _ => rfl) (fun x9 hf => ?_)
  refine J_sub [3, 4, 7, 2, 1, 0] (L1 := [(0, .ref v0), (1, .int v1), (4, .int v4), (5, .int x4), (6, .int x8), (7, .int x9)]) rfl ?_
  exact B20 fu w v0 v1 v4 x4 x8 x9 hf
set_option maxRecDepth 100000 in
set_option maxHeartbeats 4000000 in
theorem c_X11_shifts {l : Launch} {D : va_G} {dA : FieldType → ClassId} (fu : Nat) (w : MW) (v0 : Nat) (v1 : Int32) (v2 : Int32) {w' : MW} (hf : f_X11_shifts fu w v0 v1 v2 = some w') : CT l D dA yX11_shifts cX11_shifts 4 none rmX11_shifts [.ref v0, .int v1, .int v2] w none w' := by
  refine J_met (by decide) rfl (Nat.le_of_ble_eq_true rfl) (fun p e s m args below meth c A E C => ?_)
  have B2 : ∀ (n : Nat) (w : MW) (v0 : Nat) (v1 : Int32) (v2 : Int32) (v3 : Int32), f_X11_shifts_2 fu n w v0 v1 v2 v3 = some w' → JW p l e rmX11_shifts s m args below meth c 4 D dA A E (MQ below (Qr D dA E none w' A) args s 0 0 A) 0 0 2 [(0, .ref v0), (1, .int v1), (2, .int v2), (3, .int v3)] [] w := by
    intro n
    induction n with
    | zero => intro w v0 v1 v2 v3 hf; rw [f_X11_shifts_2] at hf; cases hf
    | succ n ih =>
      intro w v0 v1 v2 v3 hf
      rw [f_X11_shifts_2] at hf
      refine J_iload_n (pc := 2) C dX11_shifts_2 rfl 3 rfl ?_
      refine J_aload_n (pc := 3) C dX11_shifts_3 rfl 0 rfl ?_
      refine J_iload_n (pc := 4) C dX11_shifts_4 rfl 1 rfl ?_
      obtain ⟨q2, h3, hf⟩ := bind_ok hf
      obtain ⟨_, g4, h3⟩ := cl_spec h3
      refine J_cV (S := [.int v3]) (pc := 5) C dX11_shifts_5 (c_X11_many _ _ _ h3) k_1111 ys_X11_many ⟨Nat.le_of_ble_eq_true rfl, Nat.le_of_ble_eq_true rfl⟩ ⟨Nat.le_of_ble_eq_true rfl, Nat.le_of_ble_eq_true rfl⟩ g4 rfl rfl (fun _ => Nat.le_of_ble_eq_true rfl) ?_
      refine J_icmp_ge (pc := 8) C dX11_shifts_8 (tgt := 39) (by decide) hf (fun _ hf => ?_) (fun _ hf => ?_)
      · refine J_aload_n (pc := 39) C dX11_shifts_39 rfl 0 rfl ?_
        refine J_iload_n (pc := 40) C dX11_shifts_40 rfl 1 rfl ?_
        obtain ⟨q5, h6, hf⟩ := bind_ok hf
        obtain ⟨_, g7, h6⟩ := cl_spec h6
        refine J_cV (S := []) (pc := 41) C dX11_shifts_41 (c_X11_finger _ _ _ h6) k_1219 ys_X11_finger ⟨Nat.le_of_ble_eq_true rfl, Nat.le_of_ble_eq_true rfl⟩ ⟨Nat.le_of_ble_eq_true rfl, Nat.le_of_ble_eq_true rfl⟩ g7 rfl rfl (fun _ => Nat.le_of_ble_eq_true rfl) ?_
        refine J_iconst (pc := 44) C dX11_shifts_44 (v := -1) (by decide) ?_
        refine J_icmp_eq (pc := 45) C dX11_shifts_45 (tgt := 60) (by decide) hf (fun _ hf => ?_) (fun _ hf => ?_)
        · exact J_vret (pc := 60) C rfl dX11_shifts_60 hf
        · refine J_aload_n (pc := 48) C dX11_shifts_48 rfl 0 rfl ?_
          refine J_iload_n (pc := 49) C dX11_shifts_49 rfl 1 rfl ?_
          refine J_aload_n (pc := 50) C dX11_shifts_50 rfl 0 rfl ?_
          refine J_iload_n (pc := 51) C dX11_shifts_51 rfl 1 rfl ?_
          obtain ⟨q8, h9, hf⟩ := bind_ok hf
          obtain ⟨_, g10, h9⟩ := cl_spec h9
          refine J_cV (S := [.int v1, .ref v0]) (pc := 52) C dX11_shifts_52 (c_X11_finger _ _ _ h9) k_1219 ys_X11_finger ⟨Nat.le_of_ble_eq_true rfl, Nat.le_of_ble_eq_true rfl⟩ ⟨Nat.le_of_ble_eq_true rfl, Nat.le_of_ble_eq_true rfl⟩ g10 rfl rfl (fun _ => Nat.le_of_ble_eq_true rfl) ?_
          refine J_iload_n (pc := 55) C dX11_shifts_55 rfl 2 rfl ?_
          refine J_iadd (pc := 56) C dX11_shifts_56 ?_
          obtain ⟨q11, h12, hf⟩ := bind_ok hf
          obtain ⟨_, g13, h12⟩ := cl_spec h12
          refine J_cV (S := []) (pc := 57) C dX11_shifts_57 (c_X11_points _ _ _ _ h12) k_1139 ys_X11_points ⟨Nat.le_of_ble_eq_true rfl, Nat.le_of_ble_eq_true rfl⟩ ⟨Nat.le_of_ble_eq_true rfl, Nat.le_of_ble_eq_true rfl⟩ g13 rfl rfl (fun _ => Nat.le_of_ble_eq_true rfl) ?_
          exact J_vret (pc := 60) C rfl dX11_shifts_60 hf
      · refine J_aload_n (pc := 11) C dX11_shifts_11 rfl 0 rfl ?_
        refine J_getR (pc := 12) C dX11_shifts_12 (ci := 11) (k0 := 0) rfl iX11 (by decide) k_1003 hf (fun x14 hf => ?_)
        refine J_aload_n (pc := 15) C dX11_shifts_15 rfl 0 rfl ?_
        refine J_getI (pc := 16) C dX11_shifts_16 (ci := 11) (k0 := 9) rfl iX11 (by decide) k_1012 hf (fun x15 hf => ?_)
        refine J_bipush (pc := 19) C dX11_shifts_19 (v := 122) (by decide) ?_
        refine J_iload_n (pc := 21) C dX11_shifts_21 rfl 1 rfl ?_
        refine J_imul (pc := 22) C dX11_shifts_22 ?_
        refine J_iadd (pc := 23) C dX11_shifts_23 ?_
        refine J_iconst (pc := 24) C dX11_shifts_24 (v := 2) (by decide) ?_
        refine J_iadd (pc := 25) C dX11_shifts_25 ?_
        refine J_iload_n (pc := 26) C dX11_shifts_26 rfl 3 rfl ?_
        refine J_iadd (pc := 27) C dX11_shifts_27 ?_
        refine J_dup2 (pc := 28) C dX11_shifts_28 rfl rfl ?_
        refine J_iald (pc := 29) C dX11_shifts_29 hf (fun x16 hf => ?_)
        refine J_iload_n (pc := 30) C dX11_shifts_30 rfl 2 rfl ?_
        refine J_iadd (pc := 31) C dX11_shifts_31 ?_
        refine J_iast (pc := 32) C dX11_shifts_32 hf (fun w17 hf => ?_)
        refine J_iinc (pc := 33) C dX11_shifts_33 3 rfl (y := v3 + 1) rfl (by decide) hf (fun q => [(3, .int q), (0, .ref v0), (1, .int v1), (2, .int v2)]) (fun _ => rfl) (fun x18 hf => ?_)
        refine J_goto (pc := 36) C dX11_shifts_36 (tgt := 2) (by decide) ?_
        refine J_sub [1, 2, 3, 0] (L1 := [(0, .ref v0), (1, .int v1), (2, .int v2), (3, .int x18)]) rfl ?_
        exact ih w17 v0 v1 v2 x18 hf
  rw [f_X11_shifts] at hf
  refine J_sub [0, 1, 2] (L1 := [(0, .ref v0), (1, .int v1), (2, .int v2)]) rfl ?_
  refine J_iconst (pc := 0) C dX11_shifts_0 (v := 0) (by decide) ?_
  refine J_istore_n (pc := 1) C dX11_shifts_1 rfl (by decide) hf (fun q => [(3, .int q), (0, .ref v0), (1, .int v1), (2, .int v2)]) (fun _ => rfl) (fun x1 hf => ?_)
  refine J_sub [1, 2, 3, 0] (L1 := [(0, .ref v0), (1, .int v1), (2, .int v2), (3, .int x1)]) rfl ?_
  exact B2 fu w v0 v1 v2 x1 hf
set_option maxRecDepth 100000 in
set_option maxHeartbeats 4000000 in
theorem c_X11_keeps {l : Launch} {D : va_G} {dA : FieldType → ClassId} (fu : Nat) (w : MW) (v0 : Nat) {w' : MW} (hf : f_X11_keeps fu w v0 = some w') : CT l D dA yX11_keeps cX11_keeps 1 none rmX11_keeps [.ref v0] w none w' := by
  refine J_met (by decide) rfl (Nat.le_of_ble_eq_true rfl) (fun p e s m args below meth c A E C => ?_)
  have B32 : ∀ (w : MW) (v0 : Nat), f_X11_keeps_32 fu w v0 = some w' → JW p l e rmX11_keeps s m args below meth c 1 D dA A E (MQ below (Qr D dA E none w' A) args s 0 0 A) 0 0 32 [(0, .ref v0)] [] w := by
    intro w v0 hf
    rw [f_X11_keeps_32] at hf
    refine J_aload_n (pc := 32) C dX11_keeps_32 rfl 0 rfl ?_
    refine J_iconst (pc := 33) C dX11_keeps_33 (v := 0) (by decide) ?_
    refine J_sipush (pc := 34) C dX11_keeps_34 (v := 1952) (by decide) ?_
    refine J_sipush (pc := 37) C dX11_keeps_37 (v := 976) (by decide) ?_
    refine J_aload_n (pc := 40) C dX11_keeps_40 rfl 0 rfl ?_
    refine J_getI (pc := 41) C dX11_keeps_41 (ci := 11) (k0 := 8) rfl iX11 (by decide) k_1011 hf (fun x2 hf => ?_)
    refine J_imul (pc := 44) C dX11_keeps_44 ?_
    refine J_iadd (pc := 45) C dX11_keeps_45 ?_
    refine J_sipush (pc := 46) C dX11_keeps_46 (v := 976) (by decide) ?_
    obtain ⟨q3, h4, hf⟩ := bind_ok hf
    obtain ⟨_, g5, h4⟩ := cl_spec h4
    refine J_cV (S := []) (pc := 49) C dX11_keeps_49 (c_X11_copies _ _ _ _ _ _ h4) k_1131 ys_X11_copies ⟨Nat.le_of_ble_eq_true rfl, Nat.le_of_ble_eq_true rfl⟩ ⟨Nat.le_of_ble_eq_true rfl, Nat.le_of_ble_eq_true rfl⟩ g5 rfl rfl (fun _ => Nat.le_of_ble_eq_true rfl) ?_
    refine J_aload_n (pc := 52) C dX11_keeps_52 rfl 0 rfl ?_
    refine J_dup (pc := 53) C dX11_keeps_53 rfl ?_
    refine J_getI (pc := 54) C dX11_keeps_54 (ci := 11) (k0 := 8) rfl iX11 (by decide) k_1011 hf (fun x6 hf => ?_)
    refine J_iconst (pc := 57) C dX11_keeps_57 (v := 1) (by decide) ?_
    refine J_iadd (pc := 58) C dX11_keeps_58 ?_
    refine J_put (pc := 59) C dX11_keeps_59 (ci := 11) (k0 := 8) rfl iX11 tyX11 tyX11_ok nmX11 (by decide) k_1011 rfl (ty := .int) (by decide +kernel) (fun _ => rfl) (fun _ => rfl) hf (fun w7 hf => ?_)
    exact J_vret (pc := 62) C rfl dX11_keeps_62 hf
  rw [f_X11_keeps] at hf
  refine J_sub [0] (L1 := [(0, .ref v0)]) rfl ?_
  refine J_aload_n (pc := 0) C dX11_keeps_0 rfl 0 rfl ?_
  refine J_getI (pc := 1) C dX11_keeps_1 (ci := 11) (k0 := 8) rfl iX11 (by decide) k_1011 hf (fun x1 hf => ?_)
  refine J_bipush (pc := 4) C dX11_keeps_4 (v := 12) (by decide) ?_
  refine J_icmp_ne (pc := 6) C dX11_keeps_6 (tgt := 32) (by decide) hf (fun _ hf => ?_) (fun _ hf => ?_)
  · refine J_sub [0] (L1 := [(0, .ref v0)]) rfl ?_
    exact B32 w v0 hf
  · refine J_aload_n (pc := 9) C dX11_keeps_9 rfl 0 rfl ?_
    refine J_sipush (pc := 10) C dX11_keeps_10 (v := 2928) (by decide) ?_
    refine J_sipush (pc := 13) C dX11_keeps_13 (v := 1952) (by decide) ?_
    refine J_sipush (pc := 16) C dX11_keeps_16 (v := 10736) (by decide) ?_
    obtain ⟨q8, h9, hf⟩ := bind_ok hf
    obtain ⟨_, g10, h9⟩ := cl_spec h9
    refine J_cV (S := []) (pc := 19) C dX11_keeps_19 (c_X11_copies _ _ _ _ _ _ h9) k_1131 ys_X11_copies ⟨Nat.le_of_ble_eq_true rfl, Nat.le_of_ble_eq_true rfl⟩ ⟨Nat.le_of_ble_eq_true rfl, Nat.le_of_ble_eq_true rfl⟩ g10 rfl rfl (fun _ => Nat.le_of_ble_eq_true rfl) ?_
    refine J_aload_n (pc := 22) C dX11_keeps_22 rfl 0 rfl ?_
    refine J_dup (pc := 23) C dX11_keeps_23 rfl ?_
    refine J_getI (pc := 24) C dX11_keeps_24 (ci := 11) (k0 := 8) rfl iX11 (by decide) k_1011 hf (fun x11 hf => ?_)
    refine J_iconst (pc := 27) C dX11_keeps_27 (v := 1) (by decide) ?_
    refine J_isub (pc := 28) C dX11_keeps_28 ?_
    refine J_put (pc := 29) C dX11_keeps_29 (ci := 11) (k0 := 8) rfl iX11 tyX11 tyX11_ok nmX11 (by decide) k_1011 rfl (ty := .int) (by decide +kernel) (fun _ => rfl) (fun _ => rfl) hf (fun w12 hf => ?_)
    refine J_sub [0] (L1 := [(0, .ref v0)]) rfl ?_
    exact B32 w12 v0 hf
set_option maxRecDepth 100000 in
set_option maxHeartbeats 4000000 in
theorem c_X11_begins {l : Launch} {D : va_G} {dA : FieldType → ClassId} (fu : Nat) (w : MW) (v0 : Nat) (v1 : Int32) {rr : Int32} {w' : MW} (hf : f_X11_begins fu w v0 v1 = some (rr, w')) : CT l D dA yX11_begins cX11_begins 2 (some .int) rmX11_begins [.ref v0, .int v1] w (some (.int rr)) w' := by
  refine J_met (by decide) rfl (Nat.le_of_ble_eq_true rfl) (fun p e s m args below meth c A E C => ?_)
  rw [f_X11_begins] at hf
  refine J_sub [0, 1] (L1 := [(0, .ref v0), (1, .int v1)]) rfl ?_
  refine J_iload_n (pc := 0) C dX11_begins_0 rfl 1 rfl ?_
  refine J_if_ne (pc := 1) C dX11_begins_1 (tgt := 8) (by decide) hf (fun _ hf => ?_) (fun _ hf => ?_)
  · refine J_iload_n (pc := 8) C dX11_begins_8 rfl 1 rfl ?_
    exact J_iret (pc := 9) C  rfl rfl dX11_begins_9 hf
  · refine J_aload_n (pc := 4) C dX11_begins_4 rfl 0 rfl ?_
    obtain ⟨q1, h2, hf⟩ := bind_ok hf
    obtain ⟨_, g3, h2⟩ := cl_spec h2
    refine J_cV (S := []) (pc := 5) C dX11_begins_5 (c_X11_keeps _ _ _ h2) k_1127 ys_X11_keeps ⟨Nat.le_of_ble_eq_true rfl, Nat.le_of_ble_eq_true rfl⟩ ⟨Nat.le_of_ble_eq_true rfl, Nat.le_of_ble_eq_true rfl⟩ g3 rfl rfl (fun _ => Nat.le_of_ble_eq_true rfl) ?_
    refine J_iload_n (pc := 8) C dX11_begins_8 rfl 1 rfl ?_
    exact J_iret (pc := 9) C  rfl rfl dX11_begins_9 hf
set_option maxRecDepth 100000 in
set_option maxHeartbeats 4000000 in
theorem c_X11_put {l : Launch} {D : va_G} {dA : FieldType → ClassId} (fu : Nat) (w : MW) (v0 : Nat) (v1 : Int32) (v2 : Int32) {rr : Int32} {w' : MW} (hf : f_X11_put fu w v0 v1 v2 = some (rr, w')) : CT l D dA yX11_put cX11_put 4 (some .int) rmX11_put [.ref v0, .int v1, .int v2] w (some (.int rr)) w' := by
  refine J_met (by decide) rfl (Nat.le_of_ble_eq_true rfl) (fun p e s m args below meth c A E C => ?_)
  rw [f_X11_put] at hf
  refine J_sub [0, 1, 2] (L1 := [(0, .ref v0), (1, .int v1), (2, .int v2)]) rfl ?_
  refine J_aload_n (pc := 0) C dX11_put_0 rfl 0 rfl ?_
  refine J_aload_n (pc := 1) C dX11_put_1 rfl 0 rfl ?_
  refine J_iload_n (pc := 2) C dX11_put_2 rfl 1 rfl ?_
  refine J_iload_n (pc := 3) C dX11_put_3 rfl 2 rfl ?_
  obtain ⟨q1, h2, hf⟩ := bind_ok hf
  obtain ⟨_, g3, h2⟩ := cl_spec h2
  refine J_cV (S := [.ref v0]) (pc := 4) C dX11_put_4 (c_X11_refusesPut _ _ _ _ _ h2) k_1090 ys_X11_refusesPut ⟨Nat.le_of_ble_eq_true rfl, Nat.le_of_ble_eq_true rfl⟩ ⟨Nat.le_of_ble_eq_true rfl, Nat.le_of_ble_eq_true rfl⟩ g3 rfl rfl (fun _ => Nat.le_of_ble_eq_true rfl) ?_
  obtain ⟨q4, h5, hf⟩ := bind_ok hf
  obtain ⟨_, g6, h5⟩ := cl_spec h5
  refine J_cV (S := []) (pc := 7) C dX11_put_7 (c_X11_begins _ _ _ _ h5) k_1123 ys_X11_begins ⟨Nat.le_of_ble_eq_true rfl, Nat.le_of_ble_eq_true rfl⟩ ⟨Nat.le_of_ble_eq_true rfl, Nat.le_of_ble_eq_true rfl⟩ g6 rfl rfl (fun _ => Nat.le_of_ble_eq_true rfl) ?_
  refine J_istore_n (pc := 10) C dX11_put_10 rfl (by decide) hf (fun q => [(3, .int q), (0, .ref v0), (1, .int v1), (2, .int v2)]) (fun _ => rfl) (fun x7 hf => ?_)
  refine J_iload_n (pc := 11) C dX11_put_11 rfl 0 rfl ?_
  refine J_if_le (pc := 12) C dX11_put_12 (tgt := 18) (by decide) hf (fun _ hf => ?_) (fun _ hf => ?_)
  · refine J_aload_n (pc := 18) C dX11_put_18 rfl 1 rfl ?_
    refine J_iload_n (pc := 19) C dX11_put_19 rfl 2 rfl ?_
    refine J_iload_n (pc := 20) C dX11_put_20 rfl 3 rfl ?_
    refine J_iconst (pc := 21) C dX11_put_21 (v := 0) (by decide) ?_
    obtain ⟨q8, h9, hf⟩ := bind_ok hf
    obtain ⟨_, g10, h9⟩ := cl_spec h9
    refine J_cV (S := []) (pc := 22) C dX11_put_22 (c_X11_puts _ _ _ _ _ _ h9) k_1135 ys_X11_puts ⟨Nat.le_of_ble_eq_true rfl, Nat.le_of_ble_eq_true rfl⟩ ⟨Nat.le_of_ble_eq_true rfl, Nat.le_of_ble_eq_true rfl⟩ g10 rfl rfl (fun _ => Nat.le_of_ble_eq_true rfl) ?_
    refine J_aload_n (pc := 25) C dX11_put_25 rfl 1 rfl ?_
    refine J_iload_n (pc := 26) C dX11_put_26 rfl 2 rfl ?_
    refine J_iload_n (pc := 27) C dX11_put_27 rfl 3 rfl ?_
    obtain ⟨q11, h12, hf⟩ := bind_ok hf
    obtain ⟨_, g13, h12⟩ := cl_spec h12
    refine J_cV (S := []) (pc := 28) C dX11_put_28 (c_X11_below _ _ _ _ _ h12) k_1107 ys_X11_below ⟨Nat.le_of_ble_eq_true rfl, Nat.le_of_ble_eq_true rfl⟩ ⟨Nat.le_of_ble_eq_true rfl, Nat.le_of_ble_eq_true rfl⟩ g13 rfl rfl (fun _ => Nat.le_of_ble_eq_true rfl) ?_
    exact J_iret (pc := 31) C  rfl rfl dX11_put_31 hf
  · refine J_iload_n (pc := 15) C dX11_put_15 rfl 0 rfl ?_
    refine J_ineg (pc := 16) C dX11_put_16 ?_
    exact J_iret (pc := 17) C  rfl rfl dX11_put_17 hf
set_option maxRecDepth 100000 in
set_option maxHeartbeats 4000000 in
theorem c_X11_drop {l : Launch} {D : va_G} {dA : FieldType → ClassId} (fu : Nat) (w : MW) (v0 : Nat) (v1 : Int32) (v2 : Int32) {rr : Int32} {w' : MW} (hf : f_X11_drop fu w v0 v1 v2 = some (rr, w')) : CT l D dA yX11_drop cX11_drop 4 (some .int) rmX11_drop [.ref v0, .int v1, .int v2] w (some (.int rr)) w' := by
  refine J_met (by decide) rfl (Nat.le_of_ble_eq_true rfl) (fun p e s m args below meth c A E C => ?_)
  have B34 : ∀ (w : MW) (v0 : Nat) (v1 : Int32) (v2 : Int32) (s0 : Nat) (s1 : Int32), f_X11_drop_34 fu w v0 v1 v2 s0 s1 = some (rr, w') → JW p l e rmX11_drop s m args below meth c 4 D dA A E (MQ below (Qr D dA E (some (.int rr)) w' A) args s 0 0 A) 0 0 34 [(0, .ref v0), (1, .int v1), (2, .int v2)] [.int s1, .ref s0] w := by
    intro w v0 v1 v2 s0 s1 hf
    rw [f_X11_drop_34] at hf
    obtain ⟨q1, h2, hf⟩ := bind_ok hf
    obtain ⟨_, g3, h2⟩ := cl_spec h2
    refine J_cV (S := []) (pc := 34) C dX11_drop_34 (c_X11_begins _ _ _ _ h2) k_1123 ys_X11_begins ⟨Nat.le_of_ble_eq_true rfl, Nat.le_of_ble_eq_true rfl⟩ ⟨Nat.le_of_ble_eq_true rfl, Nat.le_of_ble_eq_true rfl⟩ g3 rfl rfl (fun _ => Nat.le_of_ble_eq_true rfl) ?_
    refine J_istore_n (pc := 37) C dX11_drop_37 rfl (by decide) hf (fun q => [(3, .int q), (0, .ref v0), (1, .int v1), (2, .int v2)]) (fun _ => rfl) (fun x4 hf => ?_)
    refine J_iload_n (pc := 38) C dX11_drop_38 rfl 0 rfl ?_
    refine J_if_le (pc := 39) C dX11_drop_39 (tgt := 45) (by decide) hf (fun _ hf => ?_) (fun _ hf => ?_)
    · refine J_aload_n (pc := 45) C dX11_drop_45 rfl 1 rfl ?_
      refine J_iload_n (pc := 46) C dX11_drop_46 rfl 2 rfl ?_
      refine J_aload_n (pc := 47) C dX11_drop_47 rfl 1 rfl ?_
      refine J_iload_n (pc := 48) C dX11_drop_48 rfl 2 rfl ?_
      refine J_iload_n (pc := 49) C dX11_drop_49 rfl 3 rfl ?_
      obtain ⟨q5, h6, hf⟩ := bind_ok hf
      obtain ⟨_, g7, h6⟩ := cl_spec h6
      refine J_cV (S := [.int v1, .ref v0]) (pc := 50) C dX11_drop_50 (c_X11_placeOf _ _ _ _ _ h6) k_1103 ys_X11_placeOf ⟨Nat.le_of_ble_eq_true rfl, Nat.le_of_ble_eq_true rfl⟩ ⟨Nat.le_of_ble_eq_true rfl, Nat.le_of_ble_eq_true rfl⟩ g7 rfl rfl (fun _ => Nat.le_of_ble_eq_true rfl) ?_
      obtain ⟨q8, h9, hf⟩ := bind_ok hf
      obtain ⟨_, g10, h9⟩ := cl_spec h9
      refine J_cV (S := []) (pc := 53) C dX11_drop_53 (c_X11_drops _ _ _ _ _ h9) k_1147 ys_X11_drops ⟨Nat.le_of_ble_eq_true rfl, Nat.le_of_ble_eq_true rfl⟩ ⟨Nat.le_of_ble_eq_true rfl, Nat.le_of_ble_eq_true rfl⟩ g10 rfl rfl (fun _ => Nat.le_of_ble_eq_true rfl) ?_
      refine J_aload_n (pc := 56) C dX11_drop_56 rfl 1 rfl ?_
      refine J_iload_n (pc := 57) C dX11_drop_57 rfl 2 rfl ?_
      obtain ⟨q11, h12, hf⟩ := bind_ok hf
      obtain ⟨_, g13, h12⟩ := cl_spec h12
      refine J_cV (S := []) (pc := 58) C dX11_drop_58 (c_X11_many _ _ _ h12) k_1111 ys_X11_many ⟨Nat.le_of_ble_eq_true rfl, Nat.le_of_ble_eq_true rfl⟩ ⟨Nat.le_of_ble_eq_true rfl, Nat.le_of_ble_eq_true rfl⟩ g13 rfl rfl (fun _ => Nat.le_of_ble_eq_true rfl) ?_
      exact J_iret (pc := 61) C  rfl rfl dX11_drop_61 hf
    · refine J_iload_n (pc := 42) C dX11_drop_42 rfl 0 rfl ?_
      refine J_ineg (pc := 43) C dX11_drop_43 ?_
      exact J_iret (pc := 44) C  rfl rfl dX11_drop_44 hf
  rw [f_X11_drop] at hf
  refine J_sub [0, 1, 2] (L1 := [(0, .ref v0), (1, .int v1), (2, .int v2)]) rfl ?_
  refine J_aload_n (pc := 0) C dX11_drop_0 rfl 0 rfl ?_
  refine J_iload_n (pc := 1) C dX11_drop_1 rfl 1 rfl ?_
  refine J_cS (S := [.ref v0]) (pc := 2) C dX11_drop_2 (c_X11_isSet _ _ rfl) k_1094 ys_X11_isSet ⟨Nat.le_of_ble_eq_true rfl, Nat.le_of_ble_eq_true rfl⟩ ⟨Nat.le_of_ble_eq_true rfl, Nat.le_of_ble_eq_true rfl⟩ rfl rfl (fun _ => Nat.le_of_ble_eq_true rfl) ?_
  refine J_if_eq (pc := 5) C dX11_drop_5 (tgt := 15) (by decide) hf (fun _ hf => ?_) (fun _ hf => ?_)
  · refine J_iconst (pc := 15) C dX11_drop_15 (v := 1) (by decide) ?_
    refine J_goto (pc := 16) C dX11_drop_16 (tgt := 34) (by decide) ?_
    refine J_sub [0, 1, 2] (L1 := [(0, .ref v0), (1, .int v1), (2, .int v2)]) rfl ?_
    exact B34 w v0 v1 v2 v0 (1 : Int32) hf
  · refine J_iload_n (pc := 8) C dX11_drop_8 rfl 2 rfl ?_
    refine J_cS (S := [.ref v0]) (pc := 9) C dX11_drop_9 (c_X11_isKey _ _ rfl) k_1100 ys_X11_isKey ⟨Nat.le_of_ble_eq_true rfl, Nat.le_of_ble_eq_true rfl⟩ ⟨Nat.le_of_ble_eq_true rfl, Nat.le_of_ble_eq_true rfl⟩ rfl rfl (fun _ => Nat.le_of_ble_eq_true rfl) ?_
    refine J_if_ne (pc := 12) C dX11_drop_12 (tgt := 19) (by decide) hf (fun _ hf => ?_) (fun _ hf => ?_)
    · refine J_aload_n (pc := 19) C dX11_drop_19 rfl 0 rfl ?_
      refine J_iload_n (pc := 20) C dX11_drop_20 rfl 1 rfl ?_
      refine J_iload_n (pc := 21) C dX11_drop_21 rfl 2 rfl ?_
      obtain ⟨q14, h15, hf⟩ := bind_ok hf
      obtain ⟨_, g16, h15⟩ := cl_spec h15
      refine J_cV (S := [.ref v0]) (pc := 22) C dX11_drop_22 (c_X11_placeOf _ _ _ _ _ h15) k_1103 ys_X11_placeOf ⟨Nat.le_of_ble_eq_true rfl, Nat.le_of_ble_eq_true rfl⟩ ⟨Nat.le_of_ble_eq_true rfl, Nat.le_of_ble_eq_true rfl⟩ g16 rfl rfl (fun _ => Nat.le_of_ble_eq_true rfl) ?_
      refine J_iconst (pc := 25) C dX11_drop_25 (v := -1) (by decide) ?_
      refine J_icmp_ne (pc := 26) C dX11_drop_26 (tgt := 33) (by decide) hf (fun _ hf => ?_) (fun _ hf => ?_)
      · refine J_iconst (pc := 33) C dX11_drop_33 (v := 0) (by decide) ?_
        refine J_sub [0, 1, 2] (L1 := [(0, .ref v0), (1, .int v1), (2, .int v2)]) rfl ?_
        exact B34 w v0 v1 v2 v0 (0 : Int32) hf
      · refine J_iconst (pc := 29) C dX11_drop_29 (v := 2) (by decide) ?_
        refine J_goto (pc := 30) C dX11_drop_30 (tgt := 34) (by decide) ?_
        refine J_sub [0, 1, 2] (L1 := [(0, .ref v0), (1, .int v1), (2, .int v2)]) rfl ?_
        exact B34 w v0 v1 v2 v0 (2 : Int32) hf
    · refine J_iconst (pc := 15) C dX11_drop_15 (v := 1) (by decide) ?_
      refine J_goto (pc := 16) C dX11_drop_16 (tgt := 34) (by decide) ?_
      refine J_sub [0, 1, 2] (L1 := [(0, .ref v0), (1, .int v1), (2, .int v2)]) rfl ?_
      exact B34 w v0 v1 v2 v0 (1 : Int32) hf
set_option maxRecDepth 100000 in
set_option maxHeartbeats 4000000 in
theorem c_X11_cut {l : Launch} {D : va_G} {dA : FieldType → ClassId} (fu : Nat) (w : MW) (v0 : Nat) (v1 : Int32) (v2 : Int32) (v3 : Int32) {rr : Int32} {w' : MW} (hf : f_X11_cut fu w v0 v1 v2 v3 = some (rr, w')) : CT l D dA yX11_cut cX11_cut 5 (some .int) rmX11_cut [.ref v0, .int v1, .int v2, .int v3] w (some (.int rr)) w' := by
  refine J_met (by decide) rfl (Nat.le_of_ble_eq_true rfl) (fun p e s m args below meth c A E C => ?_)
  rw [f_X11_cut] at hf
  refine J_sub [0, 1, 2, 3] (L1 := [(0, .ref v0), (1, .int v1), (2, .int v2), (3, .int v3)]) rfl ?_
  refine J_aload_n (pc := 0) C dX11_cut_0 rfl 0 rfl ?_
  refine J_aload_n (pc := 1) C dX11_cut_1 rfl 0 rfl ?_
  refine J_iload_n (pc := 2) C dX11_cut_2 rfl 1 rfl ?_
  refine J_iload_n (pc := 3) C dX11_cut_3 rfl 2 rfl ?_
  refine J_iload_n (pc := 4) C dX11_cut_4 rfl 3 rfl ?_
  obtain ⟨q1, h2, hf⟩ := bind_ok hf
  obtain ⟨_, g3, h2⟩ := cl_spec h2
  refine J_cV (S := [.ref v0]) (pc := 5) C dX11_cut_5 (c_X11_refusesCut _ _ _ _ _ _ h2) k_1155 ys_X11_refusesCut ⟨Nat.le_of_ble_eq_true rfl, Nat.le_of_ble_eq_true rfl⟩ ⟨Nat.le_of_ble_eq_true rfl, Nat.le_of_ble_eq_true rfl⟩ g3 rfl rfl (fun _ => Nat.le_of_ble_eq_true rfl) ?_
  obtain ⟨q4, h5, hf⟩ := bind_ok hf
  obtain ⟨_, g6, h5⟩ := cl_spec h5
  refine J_cV (S := []) (pc := 8) C dX11_cut_8 (c_X11_begins _ _ _ _ h5) k_1123 ys_X11_begins ⟨Nat.le_of_ble_eq_true rfl, Nat.le_of_ble_eq_true rfl⟩ ⟨Nat.le_of_ble_eq_true rfl, Nat.le_of_ble_eq_true rfl⟩ g6 rfl rfl (fun _ => Nat.le_of_ble_eq_true rfl) ?_
  refine J_istore (pc := 11) C dX11_cut_11 (by decide) hf (fun q => [(4, .int q), (0, .ref v0), (1, .int v1), (2, .int v2), (3, .int v3)]) (fun _ => rfl) (fun x7 hf => ?_)
  refine J_iload (pc := 13) C dX11_cut_13 0 rfl ?_
  refine J_if_le (pc := 15) C dX11_cut_15 (tgt := 24) (by decide) hf (fun _ hf => ?_) (fun _ hf => ?_)
  · refine J_aload_n (pc := 24) C dX11_cut_24 rfl 1 rfl ?_
    refine J_iload_n (pc := 25) C dX11_cut_25 rfl 2 rfl ?_
    refine J_iload_n (pc := 26) C dX11_cut_26 rfl 3 rfl ?_
    refine J_iconst (pc := 27) C dX11_cut_27 (v := 1) (by decide) ?_
    refine J_iadd (pc := 28) C dX11_cut_28 ?_
    refine J_sipush (pc := 29) C dX11_cut_29 (v := 9999) (by decide) ?_
    refine J_iload_n (pc := 32) C dX11_cut_32 rfl 4 rfl ?_
    obtain ⟨q8, h9, hf⟩ := bind_ok hf
    obtain ⟨_, g10, h9⟩ := cl_spec h9
    refine J_cV (S := []) (pc := 33) C dX11_cut_33 (c_X11_goOver _ _ _ _ _ _ _ h9) k_1167 ys_X11_goOver ⟨Nat.le_of_ble_eq_true rfl, Nat.le_of_ble_eq_true rfl⟩ ⟨Nat.le_of_ble_eq_true rfl, Nat.le_of_ble_eq_true rfl⟩ g10 rfl rfl (fun _ => Nat.le_of_ble_eq_true rfl) ?_
    exact J_iret (pc := 36) C  rfl rfl dX11_cut_36 hf
  · refine J_iload (pc := 18) C dX11_cut_18 0 rfl ?_
    refine J_ineg (pc := 20) C dX11_cut_20 ?_
    refine J_goto (pc := 21) C dX11_cut_21 (tgt := 36) (by decide) ?_
    exact J_iret (pc := 36) C  rfl rfl dX11_cut_36 hf
set_option maxRecDepth 100000 in
set_option maxHeartbeats 4000000 in
theorem c_X11_join {l : Launch} {D : va_G} {dA : FieldType → ClassId} (fu : Nat) (w : MW) (v0 : Nat) (v1 : Int32) (v2 : Int32) {rr : Int32} {w' : MW} (hf : f_X11_join fu w v0 v1 v2 = some (rr, w')) : CT l D dA yX11_join cX11_join 4 (some .int) rmX11_join [.ref v0, .int v1, .int v2] w (some (.int rr)) w' := by
  refine J_met (by decide) rfl (Nat.le_of_ble_eq_true rfl) (fun p e s m args below meth c A E C => ?_)
  rw [f_X11_join] at hf
  refine J_sub [0, 1, 2] (L1 := [(0, .ref v0), (1, .int v1), (2, .int v2)]) rfl ?_
  refine J_aload_n (pc := 0) C dX11_join_0 rfl 0 rfl ?_
  refine J_aload_n (pc := 1) C dX11_join_1 rfl 0 rfl ?_
  refine J_iload_n (pc := 2) C dX11_join_2 rfl 1 rfl ?_
  refine J_iload_n (pc := 3) C dX11_join_3 rfl 2 rfl ?_
  obtain ⟨q1, h2, hf⟩ := bind_ok hf
  obtain ⟨_, g3, h2⟩ := cl_spec h2
  refine J_cV (S := [.ref v0]) (pc := 4) C dX11_join_4 (c_X11_refusesJoin _ _ _ _ h2) k_1179 ys_X11_refusesJoin ⟨Nat.le_of_ble_eq_true rfl, Nat.le_of_ble_eq_true rfl⟩ ⟨Nat.le_of_ble_eq_true rfl, Nat.le_of_ble_eq_true rfl⟩ g3 rfl rfl (fun _ => Nat.le_of_ble_eq_true rfl) ?_
  obtain ⟨q4, h5, hf⟩ := bind_ok hf
  obtain ⟨_, g6, h5⟩ := cl_spec h5
  refine J_cV (S := []) (pc := 7) C dX11_join_7 (c_X11_begins _ _ _ _ h5) k_1123 ys_X11_begins ⟨Nat.le_of_ble_eq_true rfl, Nat.le_of_ble_eq_true rfl⟩ ⟨Nat.le_of_ble_eq_true rfl, Nat.le_of_ble_eq_true rfl⟩ g6 rfl rfl (fun _ => Nat.le_of_ble_eq_true rfl) ?_
  refine J_istore_n (pc := 10) C dX11_join_10 rfl (by decide) hf (fun q => [(3, .int q), (0, .ref v0), (1, .int v1), (2, .int v2)]) (fun _ => rfl) (fun x7 hf => ?_)
  refine J_iload_n (pc := 11) C dX11_join_11 rfl 0 rfl ?_
  refine J_if_le (pc := 12) C dX11_join_12 (tgt := 20) (by decide) hf (fun _ hf => ?_) (fun _ hf => ?_)
  · refine J_aload_n (pc := 20) C dX11_join_20 rfl 1 rfl ?_
    refine J_iload_n (pc := 21) C dX11_join_21 rfl 2 rfl ?_
    obtain ⟨q8, h9, hf⟩ := bind_ok hf
    obtain ⟨_, g10, h9⟩ := cl_spec h9
    refine J_cV (S := []) (pc := 22) C dX11_join_22 (c_X11_many _ _ _ h9) k_1111 ys_X11_many ⟨Nat.le_of_ble_eq_true rfl, Nat.le_of_ble_eq_true rfl⟩ ⟨Nat.le_of_ble_eq_true rfl, Nat.le_of_ble_eq_true rfl⟩ g10 rfl rfl (fun _ => Nat.le_of_ble_eq_true rfl) ?_
    refine J_aload_n (pc := 25) C dX11_join_25 rfl 1 rfl ?_
    refine J_iload_n (pc := 26) C dX11_join_26 rfl 3 rfl ?_
    refine J_iconst (pc := 27) C dX11_join_27 (v := 0) (by decide) ?_
    refine J_sipush (pc := 28) C dX11_join_28 (v := 9999) (by decide) ?_
    refine J_iload_n (pc := 31) C dX11_join_31 rfl 2 rfl ?_
    obtain ⟨q11, h12, hf⟩ := bind_ok hf
    obtain ⟨_, g13, h12⟩ := cl_spec h12
    refine J_cV (S := [.int q8]) (pc := 32) C dX11_join_32 (c_X11_goOver _ _ _ _ _ _ _ h12) k_1167 ys_X11_goOver ⟨Nat.le_of_ble_eq_true rfl, Nat.le_of_ble_eq_true rfl⟩ ⟨Nat.le_of_ble_eq_true rfl, Nat.le_of_ble_eq_true rfl⟩ g13 rfl rfl (fun _ => Nat.le_of_ble_eq_true rfl) ?_
    refine J_iadd (pc := 35) C dX11_join_35 ?_
    exact J_iret (pc := 36) C  rfl rfl dX11_join_36 hf
  · refine J_iload_n (pc := 15) C dX11_join_15 rfl 0 rfl ?_
    refine J_ineg (pc := 16) C dX11_join_16 ?_
    refine J_goto (pc := 17) C dX11_join_17 (tgt := 36) (by decide) ?_
    exact J_iret (pc := 36) C  rfl rfl dX11_join_36 hf
set_option maxRecDepth 100000 in
set_option maxHeartbeats 4000000 in
theorem c_X11_melt {l : Launch} {D : va_G} {dA : FieldType → ClassId} (fu : Nat) (w : MW) (v0 : Nat) (v1 : Int32) (v2 : Int32) {rr : Int32} {w' : MW} (hf : f_X11_melt fu w v0 v1 v2 = some (rr, w')) : CT l D dA yX11_melt cX11_melt 6 (some .int) rmX11_melt [.ref v0, .int v1, .int v2] w (some (.int rr)) w' := by
  refine J_met (by decide) rfl (Nat.le_of_ble_eq_true rfl) (fun p e s m args below meth c A E C => ?_)
  rw [f_X11_melt] at hf
  refine J_sub [0, 1, 2] (L1 := [(0, .ref v0), (1, .int v1), (2, .int v2)]) rfl ?_
  refine J_aload_n (pc := 0) C dX11_melt_0 rfl 0 rfl ?_
  refine J_aload_n (pc := 1) C dX11_melt_1 rfl 0 rfl ?_
  refine J_iload_n (pc := 2) C dX11_melt_2 rfl 1 rfl ?_
  refine J_iload_n (pc := 3) C dX11_melt_3 rfl 2 rfl ?_
  obtain ⟨q1, h2, hf⟩ := bind_ok hf
  obtain ⟨_, g3, h2⟩ := cl_spec h2
  refine J_cV (S := [.ref v0]) (pc := 4) C dX11_melt_4 (c_X11_refusesMelt _ _ _ _ _ h2) k_1187 ys_X11_refusesMelt ⟨Nat.le_of_ble_eq_true rfl, Nat.le_of_ble_eq_true rfl⟩ ⟨Nat.le_of_ble_eq_true rfl, Nat.le_of_ble_eq_true rfl⟩ g3 rfl rfl (fun _ => Nat.le_of_ble_eq_true rfl) ?_
  obtain ⟨q4, h5, hf⟩ := bind_ok hf
  obtain ⟨_, g6, h5⟩ := cl_spec h5
  refine J_cV (S := []) (pc := 7) C dX11_melt_7 (c_X11_begins _ _ _ _ h5) k_1123 ys_X11_begins ⟨Nat.le_of_ble_eq_true rfl, Nat.le_of_ble_eq_true rfl⟩ ⟨Nat.le_of_ble_eq_true rfl, Nat.le_of_ble_eq_true rfl⟩ g6 rfl rfl (fun _ => Nat.le_of_ble_eq_true rfl) ?_
  refine J_istore_n (pc := 10) C dX11_melt_10 rfl (by decide) hf (fun q => [(3, .int q), (0, .ref v0), (1, .int v1), (2, .int v2)]) (fun _ => rfl) (fun x7 hf => ?_)
  refine J_iload_n (pc := 11) C dX11_melt_11 rfl 0 rfl ?_
  refine J_if_le (pc := 12) C dX11_melt_12 (tgt := 18) (by decide) hf (fun _ hf => ?_) (fun _ hf => ?_)
  · refine J_aload_n (pc := 18) C dX11_melt_18 rfl 1 rfl ?_
    refine J_iload_n (pc := 19) C dX11_melt_19 rfl 2 rfl ?_
    refine J_iload_n (pc := 20) C dX11_melt_20 rfl 3 rfl ?_
    obtain ⟨q8, h9, hf⟩ := bind_ok hf
    obtain ⟨_, g10, h9⟩ := cl_spec h9
    refine J_cV (S := []) (pc := 21) C dX11_melt_21 (c_X11_laysRuns _ _ _ _ _ h9) k_1195 ys_X11_laysRuns ⟨Nat.le_of_ble_eq_true rfl, Nat.le_of_ble_eq_true rfl⟩ ⟨Nat.le_of_ble_eq_true rfl, Nat.le_of_ble_eq_true rfl⟩ g10 rfl rfl (fun _ => Nat.le_of_ble_eq_true rfl) ?_
    refine J_aload_n (pc := 24) C dX11_melt_24 rfl 1 rfl ?_
    refine J_getI (pc := 25) C dX11_melt_25 (ci := 11) (k0 := 17) rfl iX11 (by decide) k_1020 hf (fun x11 hf => ?_)
    refine J_istore (pc := 28) C dX11_melt_28 (by decide) hf (fun q => [(4, .int q), (3, .int x7), (0, .ref v0), (1, .int v1), (2, .int v2)]) (fun _ => rfl) (fun x12 hf => ?_)
    refine J_aload_n (pc := 30) C dX11_melt_30 rfl 2 rfl ?_
    refine J_iload_n (pc := 31) C dX11_melt_31 rfl 4 rfl ?_
    refine J_iconst (pc := 32) C dX11_melt_32 (v := 0) (by decide) ?_
    refine J_sipush (pc := 33) C dX11_melt_33 (v := 9999) (by decide) ?_
    refine J_iload_n (pc := 36) C dX11_melt_36 rfl 3 rfl ?_
    obtain ⟨q13, h14, hf⟩ := bind_ok hf
    obtain ⟨_, g15, h14⟩ := cl_spec h14
    refine J_cV (S := []) (pc := 37) C dX11_melt_37 (c_X11_goOver _ _ _ _ _ _ _ h14) k_1167 ys_X11_goOver ⟨Nat.le_of_ble_eq_true rfl, Nat.le_of_ble_eq_true rfl⟩ ⟨Nat.le_of_ble_eq_true rfl, Nat.le_of_ble_eq_true rfl⟩ g15 rfl rfl (fun _ => Nat.le_of_ble_eq_true rfl) ?_
    refine J_istore (pc := 40) C dX11_melt_40 (by decide) hf (fun q => [(5, .int q), (4, .int x12), (3, .int x7), (0, .ref v0), (1, .int v1), (2, .int v2)]) (fun _ => rfl) (fun x16 hf => ?_)
    refine J_iload (pc := 42) C dX11_melt_42 0 rfl ?_
    refine J_if_le (pc := 44) C dX11_melt_44 (tgt := 52) (by decide) hf (fun _ hf => ?_) (fun _ hf => ?_)
    · refine J_iconst (pc := 52) C dX11_melt_52 (v := 0) (by decide) ?_
      exact J_iret (pc := 53) C  rfl rfl dX11_melt_53 hf
    · refine J_iload (pc := 47) C dX11_melt_47 1 rfl ?_
      refine J_goto (pc := 49) C dX11_melt_49 (tgt := 53) (by decide) ?_
      exact J_iret (pc := 53) C  rfl rfl dX11_melt_53 hf
  · refine J_iload_n (pc := 15) C dX11_melt_15 rfl 0 rfl ?_
    refine J_ineg (pc := 16) C dX11_melt_16 ?_
    exact J_iret (pc := 17) C  rfl rfl dX11_melt_17 hf
set_option maxRecDepth 100000 in
set_option maxHeartbeats 4000000 in
theorem c_X11_shift {l : Launch} {D : va_G} {dA : FieldType → ClassId} (fu : Nat) (w : MW) (v0 : Nat) (v1 : Int32) (v2 : Int32) {rr : Int32} {w' : MW} (hf : f_X11_shift fu w v0 v1 v2 = some (rr, w')) : CT l D dA yX11_shift cX11_shift 4 (some .int) rmX11_shift [.ref v0, .int v1, .int v2] w (some (.int rr)) w' := by
  refine J_met (by decide) rfl (Nat.le_of_ble_eq_true rfl) (fun p e s m args below meth c A E C => ?_)
  rw [f_X11_shift] at hf
  refine J_sub [0, 1, 2] (L1 := [(0, .ref v0), (1, .int v1), (2, .int v2)]) rfl ?_
  refine J_aload_n (pc := 0) C dX11_shift_0 rfl 0 rfl ?_
  refine J_aload_n (pc := 1) C dX11_shift_1 rfl 0 rfl ?_
  refine J_iload_n (pc := 2) C dX11_shift_2 rfl 1 rfl ?_
  refine J_iload_n (pc := 3) C dX11_shift_3 rfl 2 rfl ?_
  obtain ⟨q1, h2, hf⟩ := bind_ok hf
  obtain ⟨_, g3, h2⟩ := cl_spec h2
  refine J_cV (S := [.ref v0]) (pc := 4) C dX11_shift_4 (c_X11_refusesShift _ _ _ _ h2) k_1211 ys_X11_refusesShift ⟨Nat.le_of_ble_eq_true rfl, Nat.le_of_ble_eq_true rfl⟩ ⟨Nat.le_of_ble_eq_true rfl, Nat.le_of_ble_eq_true rfl⟩ g3 rfl rfl (fun _ => Nat.le_of_ble_eq_true rfl) ?_
  obtain ⟨q4, h5, hf⟩ := bind_ok hf
  obtain ⟨_, g6, h5⟩ := cl_spec h5
  refine J_cV (S := []) (pc := 7) C dX11_shift_7 (c_X11_begins _ _ _ _ h5) k_1123 ys_X11_begins ⟨Nat.le_of_ble_eq_true rfl, Nat.le_of_ble_eq_true rfl⟩ ⟨Nat.le_of_ble_eq_true rfl, Nat.le_of_ble_eq_true rfl⟩ g6 rfl rfl (fun _ => Nat.le_of_ble_eq_true rfl) ?_
  refine J_istore_n (pc := 10) C dX11_shift_10 rfl (by decide) hf (fun q => [(3, .int q), (0, .ref v0), (1, .int v1), (2, .int v2)]) (fun _ => rfl) (fun x7 hf => ?_)
  refine J_iload_n (pc := 11) C dX11_shift_11 rfl 0 rfl ?_
  refine J_if_le (pc := 12) C dX11_shift_12 (tgt := 18) (by decide) hf (fun _ hf => ?_) (fun _ hf => ?_)
  · refine J_aload_n (pc := 18) C dX11_shift_18 rfl 1 rfl ?_
    refine J_iload_n (pc := 19) C dX11_shift_19 rfl 2 rfl ?_
    refine J_iload_n (pc := 20) C dX11_shift_20 rfl 3 rfl ?_
    obtain ⟨q8, h9, hf⟩ := bind_ok hf
    obtain ⟨_, g10, h9⟩ := cl_spec h9
    refine J_cV (S := []) (pc := 21) C dX11_shift_21 (c_X11_shifts _ _ _ _ _ h9) k_1215 ys_X11_shifts ⟨Nat.le_of_ble_eq_true rfl, Nat.le_of_ble_eq_true rfl⟩ ⟨Nat.le_of_ble_eq_true rfl, Nat.le_of_ble_eq_true rfl⟩ g10 rfl rfl (fun _ => Nat.le_of_ble_eq_true rfl) ?_
    refine J_aload_n (pc := 24) C dX11_shift_24 rfl 1 rfl ?_
    refine J_iload_n (pc := 25) C dX11_shift_25 rfl 2 rfl ?_
    obtain ⟨q11, h12, hf⟩ := bind_ok hf
    obtain ⟨_, g13, h12⟩ := cl_spec h12
    refine J_cV (S := []) (pc := 26) C dX11_shift_26 (c_X11_many _ _ _ h12) k_1111 ys_X11_many ⟨Nat.le_of_ble_eq_true rfl, Nat.le_of_ble_eq_true rfl⟩ ⟨Nat.le_of_ble_eq_true rfl, Nat.le_of_ble_eq_true rfl⟩ g13 rfl rfl (fun _ => Nat.le_of_ble_eq_true rfl) ?_
    exact J_iret (pc := 29) C  rfl rfl dX11_shift_29 hf
  · refine J_iload_n (pc := 15) C dX11_shift_15 rfl 0 rfl ?_
    refine J_ineg (pc := 16) C dX11_shift_16 ?_
    exact J_iret (pc := 17) C  rfl rfl dX11_shift_17 hf
set_option maxRecDepth 100000 in
set_option maxHeartbeats 4000000 in
theorem c_X11_move {l : Launch} {D : va_G} {dA : FieldType → ClassId} (fu : Nat) (w : MW) (v0 : Nat) (v1 : Int32) (v2 : Int32) (v3 : Int32) (v4 : Int32) {rr : Int32} {w' : MW} (hf : f_X11_move fu w v0 v1 v2 v3 v4 = some (rr, w')) : CT l D dA yX11_move cX11_move 6 (some .int) rmX11_move [.ref v0, .int v1, .int v2, .int v3, .int v4] w (some (.int rr)) w' := by
  refine J_met (by decide) rfl (Nat.le_of_ble_eq_true rfl) (fun p e s m args below meth c A E C => ?_)
  rw [f_X11_move] at hf
  refine J_sub [0, 1, 2, 3, 4] (L1 := [(0, .ref v0), (1, .int v1), (2, .int v2), (3, .int v3), (4, .int v4)]) rfl ?_
  refine J_aload_n (pc := 0) C dX11_move_0 rfl 0 rfl ?_
  refine J_aload_n (pc := 1) C dX11_move_1 rfl 0 rfl ?_
  refine J_iload_n (pc := 2) C dX11_move_2 rfl 1 rfl ?_
  refine J_iload_n (pc := 3) C dX11_move_3 rfl 2 rfl ?_
  refine J_iload_n (pc := 4) C dX11_move_4 rfl 3 rfl ?_
  refine J_iload (pc := 5) C dX11_move_5 4 rfl ?_
  obtain ⟨q1, h2, hf⟩ := bind_ok hf
  obtain ⟨_, g3, h2⟩ := cl_spec h2
  refine J_cV (S := [.ref v0]) (pc := 7) C dX11_move_7 (c_X11_refusesMove _ _ _ _ _ _ _ h2) k_1227 ys_X11_refusesMove ⟨Nat.le_of_ble_eq_true rfl, Nat.le_of_ble_eq_true rfl⟩ ⟨Nat.le_of_ble_eq_true rfl, Nat.le_of_ble_eq_true rfl⟩ g3 rfl rfl (fun _ => Nat.le_of_ble_eq_true rfl) ?_
  obtain ⟨q4, h5, hf⟩ := bind_ok hf
  obtain ⟨_, g6, h5⟩ := cl_spec h5
  refine J_cV (S := []) (pc := 10) C dX11_move_10 (c_X11_begins _ _ _ _ h5) k_1123 ys_X11_begins ⟨Nat.le_of_ble_eq_true rfl, Nat.le_of_ble_eq_true rfl⟩ ⟨Nat.le_of_ble_eq_true rfl, Nat.le_of_ble_eq_true rfl⟩ g6 rfl rfl (fun _ => Nat.le_of_ble_eq_true rfl) ?_
  refine J_istore (pc := 13) C dX11_move_13 (by decide) hf (fun q => [(5, .int q), (0, .ref v0), (1, .int v1), (2, .int v2), (3, .int v3), (4, .int v4)]) (fun _ => rfl) (fun x7 hf => ?_)
  refine J_iload (pc := 15) C dX11_move_15 0 rfl ?_
  refine J_if_le (pc := 17) C dX11_move_17 (tgt := 26) (by decide) hf (fun _ hf => ?_) (fun _ hf => ?_)
  · refine J_aload_n (pc := 26) C dX11_move_26 rfl 1 rfl ?_
    refine J_iload_n (pc := 27) C dX11_move_27 rfl 2 rfl ?_
    refine J_iload_n (pc := 28) C dX11_move_28 rfl 3 rfl ?_
    refine J_iload_n (pc := 29) C dX11_move_29 rfl 4 rfl ?_
    refine J_iload (pc := 30) C dX11_move_30 5 rfl ?_
    obtain ⟨q8, h9, hf⟩ := bind_ok hf
    obtain ⟨_, g10, h9⟩ := cl_spec h9
    refine J_cV (S := []) (pc := 32) C dX11_move_32 (c_X11_goOver _ _ _ _ _ _ _ h9) k_1167 ys_X11_goOver ⟨Nat.le_of_ble_eq_true rfl, Nat.le_of_ble_eq_true rfl⟩ ⟨Nat.le_of_ble_eq_true rfl, Nat.le_of_ble_eq_true rfl⟩ g10 rfl rfl (fun _ => Nat.le_of_ble_eq_true rfl) ?_
    exact J_iret (pc := 35) C  rfl rfl dX11_move_35 hf
  · refine J_iload (pc := 20) C dX11_move_20 0 rfl ?_
    refine J_ineg (pc := 22) C dX11_move_22 ?_
    refine J_goto (pc := 23) C dX11_move_23 (tgt := 35) (by decide) ?_
    exact J_iret (pc := 35) C  rfl rfl dX11_move_35 hf
set_option maxRecDepth 100000 in
set_option maxHeartbeats 4000000 in
theorem c_X11_mark {l : Launch} {D : va_G} {dA : FieldType → ClassId} (fu : Nat) (w : MW) (v0 : Nat) (v1 : Int32) (v2 : Int32) (v3 : Int32) (v4 : Int32) {rr : Int32} {w' : MW} (hf : f_X11_mark fu w v0 v1 v2 v3 v4 = some (rr, w')) : CT l D dA yX11_mark cX11_mark 6 (some .int) rmX11_mark [.ref v0, .int v1, .int v2, .int v3, .int v4] w (some (.int rr)) w' := by
  refine J_met (by decide) rfl (Nat.le_of_ble_eq_true rfl) (fun p e s m args below meth c A E C => ?_)
  have B48 : ∀ (w : MW) (s0 : Nat) (s1 : Int32) (s2 : Int32) (s3 : Int32) (s4 : Int32), f_X11_mark_48 fu w s0 s1 s2 s3 s4 = some (rr, w') → JW p l e rmX11_mark s m args below meth c 6 D dA A E (MQ below (Qr D dA E (some (.int rr)) w' A) args s 0 0 A) 0 0 48 [] [.int s4, .int s3, .int s2, .int s1, .ref s0] w := by
    intro w s0 s1 s2 s3 s4 hf
    rw [f_X11_mark_48] at hf
    refine J_iconst (pc := 48) C dX11_mark_48 (v := 1) (by decide) ?_
    obtain ⟨q8, h9, hf⟩ := bind_ok hf
    obtain ⟨_, g10, h9⟩ := cl_spec h9
    refine J_cV (S := []) (pc := 49) C dX11_mark_49 (c_X11_marked _ _ _ _ _ _ _ _ h9) k_1239 ys_X11_marked ⟨Nat.le_of_ble_eq_true rfl, Nat.le_of_ble_eq_true rfl⟩ ⟨Nat.le_of_ble_eq_true rfl, Nat.le_of_ble_eq_true rfl⟩ g10 rfl rfl (fun _ => Nat.le_of_ble_eq_true rfl) ?_
    exact J_iret (pc := 52) C  rfl rfl dX11_mark_52 hf
  have B15 : ∀ (w : MW) (v0 : Nat) (v1 : Int32) (v2 : Int32) (v3 : Int32) (v4 : Int32) (s0 : Nat) (s1 : Nat) (s2 : Int32) (s3 : Int32) (s4 : Int32) (s5 : Int32), f_X11_mark_15 fu w v0 v1 v2 v3 v4 s0 s1 s2 s3 s4 s5 = some (rr, w') → JW p l e rmX11_mark s m args below meth c 6 D dA A E (MQ below (Qr D dA E (some (.int rr)) w' A) args s 0 0 A) 0 0 15 [(0, .ref v0), (1, .int v1), (2, .int v2), (3, .int v3), (4, .int v4)] [.int s5, .int s4, .int s3, .int s2, .ref s1, .ref s0] w := by
    intro w v0 v1 v2 v3 v4 s0 s1 s2 s3 s4 s5 hf
    rw [f_X11_mark_15] at hf
    obtain ⟨q1, h2, hf⟩ := bind_ok hf
    obtain ⟨_, g3, h2⟩ := cl_spec h2
    refine J_cV (S := [.ref s0]) (pc := 15) C dX11_mark_15 (c_X11_refusesMark _ _ _ _ _ _ _ h2) k_1235 ys_X11_refusesMark ⟨Nat.le_of_ble_eq_true rfl, Nat.le_of_ble_eq_true rfl⟩ ⟨Nat.le_of_ble_eq_true rfl, Nat.le_of_ble_eq_true rfl⟩ g3 rfl rfl (fun _ => Nat.le_of_ble_eq_true rfl) ?_
    obtain ⟨q4, h5, hf⟩ := bind_ok hf
    obtain ⟨_, g6, h5⟩ := cl_spec h5
    refine J_cV (S := []) (pc := 18) C dX11_mark_18 (c_X11_begins _ _ _ _ h5) k_1123 ys_X11_begins ⟨Nat.le_of_ble_eq_true rfl, Nat.le_of_ble_eq_true rfl⟩ ⟨Nat.le_of_ble_eq_true rfl, Nat.le_of_ble_eq_true rfl⟩ g6 rfl rfl (fun _ => Nat.le_of_ble_eq_true rfl) ?_
    refine J_istore (pc := 21) C dX11_mark_21 (by decide) hf (fun q => [(5, .int q), (0, .ref v0), (1, .int v1), (2, .int v2), (3, .int v3), (4, .int v4)]) (fun _ => rfl) (fun x7 hf => ?_)
    refine J_iload (pc := 23) C dX11_mark_23 0 rfl ?_
    refine J_if_le (pc := 25) C dX11_mark_25 (tgt := 34) (by decide) hf (fun _ hf => ?_) (fun _ hf => ?_)
    · refine J_aload_n (pc := 34) C dX11_mark_34 rfl 1 rfl ?_
      refine J_iload_n (pc := 35) C dX11_mark_35 rfl 2 rfl ?_
      refine J_iload_n (pc := 36) C dX11_mark_36 rfl 3 rfl ?_
      refine J_iload_n (pc := 37) C dX11_mark_37 rfl 4 rfl ?_
      refine J_iload (pc := 38) C dX11_mark_38 5 rfl ?_
      refine J_if_eq (pc := 40) C dX11_mark_40 (tgt := 47) (by decide) hf (fun _ hf => ?_) (fun _ hf => ?_)
      · refine J_iconst (pc := 47) C dX11_mark_47 (v := 1) (by decide) ?_
        refine J_sub [] (L1 := []) rfl ?_
        exact B48 q4.2 v0 v1 v2 v3 (1 : Int32) hf
      · refine J_iconst (pc := 43) C dX11_mark_43 (v := 0) (by decide) ?_
        refine J_goto (pc := 44) C dX11_mark_44 (tgt := 48) (by decide) ?_
        refine J_sub [] (L1 := []) rfl ?_
        exact B48 q4.2 v0 v1 v2 v3 (0 : Int32) hf
    · refine J_iload (pc := 28) C dX11_mark_28 0 rfl ?_
      refine J_ineg (pc := 30) C dX11_mark_30 ?_
      refine J_goto (pc := 31) C dX11_mark_31 (tgt := 52) (by decide) ?_
      exact J_iret (pc := 52) C  rfl rfl dX11_mark_52 hf
  rw [f_X11_mark] at hf
  refine J_sub [0, 1, 2, 3, 4] (L1 := [(0, .ref v0), (1, .int v1), (2, .int v2), (3, .int v3), (4, .int v4)]) rfl ?_
  refine J_aload_n (pc := 0) C dX11_mark_0 rfl 0 rfl ?_
  refine J_aload_n (pc := 1) C dX11_mark_1 rfl 0 rfl ?_
  refine J_iload_n (pc := 2) C dX11_mark_2 rfl 1 rfl ?_
  refine J_iload_n (pc := 3) C dX11_mark_3 rfl 2 rfl ?_
  refine J_iload_n (pc := 4) C dX11_mark_4 rfl 3 rfl ?_
  refine J_iload (pc := 5) C dX11_mark_5 4 rfl ?_
  refine J_if_eq (pc := 7) C dX11_mark_7 (tgt := 14) (by decide) hf (fun _ hf => ?_) (fun _ hf => ?_)
  · refine J_iconst (pc := 14) C dX11_mark_14 (v := 1) (by decide) ?_
    refine J_sub [0, 1, 2, 3, 4] (L1 := [(0, .ref v0), (1, .int v1), (2, .int v2), (3, .int v3), (4, .int v4)]) rfl ?_
    exact B15 w v0 v1 v2 v3 v4 v0 v0 v1 v2 v3 (1 : Int32) hf
  · refine J_iconst (pc := 10) C dX11_mark_10 (v := 0) (by decide) ?_
    refine J_goto (pc := 11) C dX11_mark_11 (tgt := 15) (by decide) ?_
    refine J_sub [0, 1, 2, 3, 4] (L1 := [(0, .ref v0), (1, .int v1), (2, .int v2), (3, .int v3), (4, .int v4)]) rfl ?_
    exact B15 w v0 v1 v2 v3 v4 v0 v0 v1 v2 v3 (0 : Int32) hf
set_option maxRecDepth 100000 in
set_option maxHeartbeats 4000000 in
theorem c_X11_seek {l : Launch} {D : va_G} {dA : FieldType → ClassId} (fu : Nat) (w : MW) (v0 : Nat) (v1 : Int32) (v2 : Int32) {rr : Int32} {w' : MW} (hf : f_X11_seek fu w v0 v1 v2 = some (rr, w')) : CT l D dA yX11_seek cX11_seek 6 (some .int) rmX11_seek [.ref v0, .int v1, .int v2] w (some (.int rr)) w' := by
  refine J_met (by decide) rfl (Nat.le_of_ble_eq_true rfl) (fun p e s m args below meth c A E C => ?_)
  have B92 : ∀ (w : MW) (v0 : Nat) (v1 : Int32) (v4 : Int32) (s0 : Int32), f_X11_seek_92 fu w v0 v1 v4 s0 = some (rr, w') → JW p l e rmX11_seek s m args below meth c 6 D dA A E (MQ below (Qr D dA E (some (.int rr)) w' A) args s 0 0 A) 0 0 92 [(0, .ref v0), (1, .int v1), (4, .int v4)] [.int s0] w := by
    intro w v0 v1 v4 s0 hf
    rw [f_X11_seek_92] at hf
    refine J_istore (pc := 92) C dX11_seek_92 (by decide) hf (fun q => [(5, .int q), (0, .ref v0), (1, .int v1), (4, .int v4)]) (fun _ => rfl) (fun x19 hf => ?_)
    refine J_aload_n (pc := 94) C dX11_seek_94 rfl 1 rfl ?_
    refine J_iload_n (pc := 95) C dX11_seek_95 rfl 2 rfl ?_
    refine J_aload_n (pc := 96) C dX11_seek_96 rfl 1 rfl ?_
    refine J_iload_n (pc := 97) C dX11_seek_97 rfl 2 rfl ?_
    refine J_iload (pc := 98) C dX11_seek_98 3 rfl ?_
    obtain ⟨q20, h21, hf⟩ := bind_ok hf
    obtain ⟨_, g22, h21⟩ := cl_spec h21
    refine J_cV (S := [.int v1, .ref v0]) (pc := 100) C dX11_seek_100 (c_X11_keyAt _ _ _ _ h21) k_1115 ys_X11_keyAt ⟨Nat.le_of_ble_eq_true rfl, Nat.le_of_ble_eq_true rfl⟩ ⟨Nat.le_of_ble_eq_true rfl, Nat.le_of_ble_eq_true rfl⟩ g22 rfl rfl (fun _ => Nat.le_of_ble_eq_true rfl) ?_
    obtain ⟨q23, h24, hf⟩ := bind_ok hf
    obtain ⟨_, g25, h24⟩ := cl_spec h24
    refine J_cV (S := []) (pc := 103) C dX11_seek_103 (c_X11_points _ _ _ _ h24) k_1139 ys_X11_points ⟨Nat.le_of_ble_eq_true rfl, Nat.le_of_ble_eq_true rfl⟩ ⟨Nat.le_of_ble_eq_true rfl, Nat.le_of_ble_eq_true rfl⟩ g25 rfl rfl (fun _ => Nat.le_of_ble_eq_true rfl) ?_
    refine J_aload_n (pc := 106) C dX11_seek_106 rfl 1 rfl ?_
    refine J_iload_n (pc := 107) C dX11_seek_107 rfl 2 rfl ?_
    obtain ⟨q26, h27, hf⟩ := bind_ok hf
    obtain ⟨_, g28, h27⟩ := cl_spec h27
    refine J_cV (S := []) (pc := 108) C dX11_seek_108 (c_X11_laysRow _ _ _ _ h27) k_1247 ys_X11_laysRow ⟨Nat.le_of_ble_eq_true rfl, Nat.le_of_ble_eq_true rfl⟩ ⟨Nat.le_of_ble_eq_true rfl, Nat.le_of_ble_eq_true rfl⟩ g28 rfl rfl (fun _ => Nat.le_of_ble_eq_true rfl) ?_
    refine J_aload_n (pc := 111) C dX11_seek_111 rfl 1 rfl ?_
    refine J_iload (pc := 112) C dX11_seek_112 0 rfl ?_
    refine J_iload (pc := 114) C dX11_seek_114 3 rfl ?_
    obtain ⟨q29, h30, hf⟩ := bind_ok hf
    obtain ⟨_, g31, h30⟩ := cl_spec h30
    refine J_cV (S := []) (pc := 116) C dX11_seek_116 (c_X11_farOf _ _ _ _ _ h30) k_1251 ys_X11_farOf ⟨Nat.le_of_ble_eq_true rfl, Nat.le_of_ble_eq_true rfl⟩ ⟨Nat.le_of_ble_eq_true rfl, Nat.le_of_ble_eq_true rfl⟩ g31 rfl rfl (fun _ => Nat.le_of_ble_eq_true rfl) ?_
    exact J_iret (pc := 119) C  rfl rfl dX11_seek_119 hf
  have B66 : ∀ (w : MW) (v0 : Nat) (v1 : Int32) (s0 : Int32), f_X11_seek_66 fu w v0 v1 s0 = some (rr, w') → JW p l e rmX11_seek s m args below meth c 6 D dA A E (MQ below (Qr D dA E (some (.int rr)) w' A) args s 0 0 A) 0 0 66 [(0, .ref v0), (1, .int v1)] [.int s0] w := by
    intro w v0 v1 s0 hf
    rw [f_X11_seek_66] at hf
    refine J_istore (pc := 66) C dX11_seek_66 (by decide) hf (fun q => [(4, .int q), (0, .ref v0), (1, .int v1)]) (fun _ => rfl) (fun x9 hf => ?_)
    refine J_aload_n (pc := 68) C dX11_seek_68 rfl 1 rfl ?_
    refine J_iload_n (pc := 69) C dX11_seek_69 rfl 2 rfl ?_
    obtain ⟨q10, h11, hf⟩ := bind_ok hf
    obtain ⟨_, g12, h11⟩ := cl_spec h11
    refine J_cV (S := []) (pc := 70) C dX11_seek_70 (c_X11_finger _ _ _ h11) k_1219 ys_X11_finger ⟨Nat.le_of_ble_eq_true rfl, Nat.le_of_ble_eq_true rfl⟩ ⟨Nat.le_of_ble_eq_true rfl, Nat.le_of_ble_eq_true rfl⟩ g12 rfl rfl (fun _ => Nat.le_of_ble_eq_true rfl) ?_
    refine J_iconst (pc := 73) C dX11_seek_73 (v := -1) (by decide) ?_
    refine J_icmp_ne (pc := 74) C dX11_seek_74 (tgt := 82) (by decide) hf (fun _ hf => ?_) (fun _ hf => ?_)
    · refine J_aload_n (pc := 82) C dX11_seek_82 rfl 1 rfl ?_
      refine J_iload_n (pc := 83) C dX11_seek_83 rfl 2 rfl ?_
      refine J_aload_n (pc := 84) C dX11_seek_84 rfl 1 rfl ?_
      refine J_iload_n (pc := 85) C dX11_seek_85 rfl 2 rfl ?_
      obtain ⟨q13, h14, hf⟩ := bind_ok hf
      obtain ⟨_, g15, h14⟩ := cl_spec h14
      refine J_cV (S := [.int v1, .ref v0]) (pc := 86) C dX11_seek_86 (c_X11_finger _ _ _ h14) k_1219 ys_X11_finger ⟨Nat.le_of_ble_eq_true rfl, Nat.le_of_ble_eq_true rfl⟩ ⟨Nat.le_of_ble_eq_true rfl, Nat.le_of_ble_eq_true rfl⟩ g15 rfl rfl (fun _ => Nat.le_of_ble_eq_true rfl) ?_
      obtain ⟨q16, h17, hf⟩ := bind_ok hf
      obtain ⟨_, g18, h17⟩ := cl_spec h17
      refine J_cV (S := []) (pc := 89) C dX11_seek_89 (c_X11_placeOf _ _ _ _ _ h17) k_1103 ys_X11_placeOf ⟨Nat.le_of_ble_eq_true rfl, Nat.le_of_ble_eq_true rfl⟩ ⟨Nat.le_of_ble_eq_true rfl, Nat.le_of_ble_eq_true rfl⟩ g18 rfl rfl (fun _ => Nat.le_of_ble_eq_true rfl) ?_
      refine J_sub [1, 2, 0] (L1 := [(0, .ref v0), (1, .int v1), (4, .int x9)]) rfl ?_
      exact B92 w v0 v1 x9 q16 hf
    · refine J_iload (pc := 77) C dX11_seek_77 0 rfl ?_
      refine J_goto (pc := 79) C dX11_seek_79 (tgt := 92) (by decide) ?_
      refine J_sub [1, 2, 0] (L1 := [(0, .ref v0), (1, .int v1), (4, .int x9)]) rfl ?_
      exact B92 w v0 v1 x9 x9 hf
  have B32 : ∀ (w : MW) (v0 : Nat) (v1 : Int32) (v2 : Int32) (s0 : Nat) (s1 : Int32), f_X11_seek_32 fu w v0 v1 v2 s0 s1 = some (rr, w') → JW p l e rmX11_seek s m args below meth c 6 D dA A E (MQ below (Qr D dA E (some (.int rr)) w' A) args s 0 0 A) 0 0 32 [(0, .ref v0), (1, .int v1), (2, .int v2)] [.int s1, .ref s0] w := by
    intro w v0 v1 v2 s0 s1 hf
    rw [f_X11_seek_32] at hf
    obtain ⟨q1, h2, hf⟩ := bind_ok hf
    obtain ⟨_, g3, h2⟩ := cl_spec h2
    refine J_cV (S := []) (pc := 32) C dX11_seek_32 (c_X11_begins _ _ _ _ h2) k_1123 ys_X11_begins ⟨Nat.le_of_ble_eq_true rfl, Nat.le_of_ble_eq_true rfl⟩ ⟨Nat.le_of_ble_eq_true rfl, Nat.le_of_ble_eq_true rfl⟩ g3 rfl rfl (fun _ => Nat.le_of_ble_eq_true rfl) ?_
    refine J_istore_n (pc := 35) C dX11_seek_35 rfl (by decide) hf (fun q => [(3, .int q), (0, .ref v0), (1, .int v1), (2, .int v2)]) (fun _ => rfl) (fun x4 hf => ?_)
    refine J_iload_n (pc := 36) C dX11_seek_36 rfl 0 rfl ?_
    refine J_if_le (pc := 37) C dX11_seek_37 (tgt := 43) (by decide) hf (fun _ hf => ?_) (fun _ hf => ?_)
    · refine J_aload_n (pc := 43) C dX11_seek_43 rfl 1 rfl ?_
      refine J_iload_n (pc := 44) C dX11_seek_44 rfl 2 rfl ?_
      refine J_iload_n (pc := 45) C dX11_seek_45 rfl 3 rfl ?_
      refine J_iconst (pc := 46) C dX11_seek_46 (v := 1) (by decide) ?_
      refine J_iadd (pc := 47) C dX11_seek_47 ?_
      obtain ⟨q5, h6, hf⟩ := bind_ok hf
      obtain ⟨_, g7, h6⟩ := cl_spec h6
      refine J_cV (S := []) (pc := 48) C dX11_seek_48 (c_X11_below _ _ _ _ _ h6) k_1107 ys_X11_below ⟨Nat.le_of_ble_eq_true rfl, Nat.le_of_ble_eq_true rfl⟩ ⟨Nat.le_of_ble_eq_true rfl, Nat.le_of_ble_eq_true rfl⟩ g7 rfl rfl (fun _ => Nat.le_of_ble_eq_true rfl) ?_
      refine J_iconst (pc := 51) C dX11_seek_51 (v := 1) (by decide) ?_
      refine J_isub (pc := 52) C dX11_seek_52 ?_
      refine J_istore (pc := 53) C dX11_seek_53 (by decide) hf (fun q => [(4, .int q), (3, .int x4), (0, .ref v0), (1, .int v1), (2, .int v2)]) (fun _ => rfl) (fun x8 hf => ?_)
      refine J_iload (pc := 55) C dX11_seek_55 0 rfl ?_
      refine J_if_ge (pc := 57) C dX11_seek_57 (tgt := 64) (by decide) hf (fun _ hf => ?_) (fun _ hf => ?_)
      · refine J_iload (pc := 64) C dX11_seek_64 0 rfl ?_
        refine J_sub [2, 3] (L1 := [(0, .ref v0), (1, .int v1)]) rfl ?_
        exact B66 q1.2 v0 v1 x8 hf
      · refine J_iconst (pc := 60) C dX11_seek_60 (v := 0) (by decide) ?_
        refine J_goto (pc := 61) C dX11_seek_61 (tgt := 66) (by decide) ?_
        refine J_sub [2, 3] (L1 := [(0, .ref v0), (1, .int v1)]) rfl ?_
        exact B66 q1.2 v0 v1 (0 : Int32) hf
    · refine J_iload_n (pc := 40) C dX11_seek_40 rfl 0 rfl ?_
      refine J_ineg (pc := 41) C dX11_seek_41 ?_
      exact J_iret (pc := 42) C  rfl rfl dX11_seek_42 hf
  rw [f_X11_seek] at hf
  refine J_sub [0, 1, 2] (L1 := [(0, .ref v0), (1, .int v1), (2, .int v2)]) rfl ?_
  refine J_aload_n (pc := 0) C dX11_seek_0 rfl 0 rfl ?_
  refine J_iload_n (pc := 1) C dX11_seek_1 rfl 1 rfl ?_
  refine J_cS (S := [.ref v0]) (pc := 2) C dX11_seek_2 (c_X11_isSet _ _ rfl) k_1094 ys_X11_isSet ⟨Nat.le_of_ble_eq_true rfl, Nat.le_of_ble_eq_true rfl⟩ ⟨Nat.le_of_ble_eq_true rfl, Nat.le_of_ble_eq_true rfl⟩ rfl rfl (fun _ => Nat.le_of_ble_eq_true rfl) ?_
  refine J_if_eq (pc := 5) C dX11_seek_5 (tgt := 15) (by decide) hf (fun _ hf => ?_) (fun _ hf => ?_)
  · refine J_iconst (pc := 15) C dX11_seek_15 (v := 1) (by decide) ?_
    refine J_goto (pc := 16) C dX11_seek_16 (tgt := 32) (by decide) ?_
    refine J_sub [0, 1, 2] (L1 := [(0, .ref v0), (1, .int v1), (2, .int v2)]) rfl ?_
    exact B32 w v0 v1 v2 v0 (1 : Int32) hf
  · refine J_iload_n (pc := 8) C dX11_seek_8 rfl 2 rfl ?_
    refine J_cS (S := [.ref v0]) (pc := 9) C dX11_seek_9 (c_X11_isKey _ _ rfl) k_1100 ys_X11_isKey ⟨Nat.le_of_ble_eq_true rfl, Nat.le_of_ble_eq_true rfl⟩ ⟨Nat.le_of_ble_eq_true rfl, Nat.le_of_ble_eq_true rfl⟩ rfl rfl (fun _ => Nat.le_of_ble_eq_true rfl) ?_
    refine J_if_ne (pc := 12) C dX11_seek_12 (tgt := 19) (by decide) hf (fun _ hf => ?_) (fun _ hf => ?_)
    · refine J_aload_n (pc := 19) C dX11_seek_19 rfl 0 rfl ?_
      refine J_iload_n (pc := 20) C dX11_seek_20 rfl 1 rfl ?_
      obtain ⟨q32, h33, hf⟩ := bind_ok hf
      obtain ⟨_, g34, h33⟩ := cl_spec h33
      refine J_cV (S := [.ref v0]) (pc := 21) C dX11_seek_21 (c_X11_many _ _ _ h33) k_1111 ys_X11_many ⟨Nat.le_of_ble_eq_true rfl, Nat.le_of_ble_eq_true rfl⟩ ⟨Nat.le_of_ble_eq_true rfl, Nat.le_of_ble_eq_true rfl⟩ g34 rfl rfl (fun _ => Nat.le_of_ble_eq_true rfl) ?_
      refine J_if_ne (pc := 24) C dX11_seek_24 (tgt := 31) (by decide) hf (fun _ hf => ?_) (fun _ hf => ?_)
      · refine J_iconst (pc := 31) C dX11_seek_31 (v := 0) (by decide) ?_
        refine J_sub [0, 1, 2] (L1 := [(0, .ref v0), (1, .int v1), (2, .int v2)]) rfl ?_
        exact B32 w v0 v1 v2 v0 (0 : Int32) hf
      · refine J_iconst (pc := 27) C dX11_seek_27 (v := 2) (by decide) ?_
        refine J_goto (pc := 28) C dX11_seek_28 (tgt := 32) (by decide) ?_
        refine J_sub [0, 1, 2] (L1 := [(0, .ref v0), (1, .int v1), (2, .int v2)]) rfl ?_
        exact B32 w v0 v1 v2 v0 (2 : Int32) hf
    · refine J_iconst (pc := 15) C dX11_seek_15 (v := 1) (by decide) ?_
      refine J_goto (pc := 16) C dX11_seek_16 (tgt := 32) (by decide) ?_
      refine J_sub [0, 1, 2] (L1 := [(0, .ref v0), (1, .int v1), (2, .int v2)]) rfl ?_
      exact B32 w v0 v1 v2 v0 (1 : Int32) hf
set_option maxRecDepth 100000 in
set_option maxHeartbeats 4000000 in
theorem c_X11_undo {l : Launch} {D : va_G} {dA : FieldType → ClassId} (fu : Nat) (w : MW) (v0 : Nat) {rr : Int32} {w' : MW} (hf : f_X11_undo fu w v0 = some (rr, w')) : CT l D dA yX11_undo cX11_undo 1 (some .int) rmX11_undo [.ref v0] w (some (.int rr)) w' := by
  refine J_met (by decide) rfl (Nat.le_of_ble_eq_true rfl) (fun p e s m args below meth c A E C => ?_)
  rw [f_X11_undo] at hf
  refine J_sub [0] (L1 := [(0, .ref v0)]) rfl ?_
  refine J_aload_n (pc := 0) C dX11_undo_0 rfl 0 rfl ?_
  refine J_getI (pc := 1) C dX11_undo_1 (ci := 11) (k0 := 8) rfl iX11 (by decide) k_1011 hf (fun x1 hf => ?_)
  refine J_if_ne (pc := 4) C dX11_undo_4 (tgt := 9) (by decide) hf (fun _ hf => ?_) (fun _ hf => ?_)
  · refine J_aload_n (pc := 9) C dX11_undo_9 rfl 0 rfl ?_
    refine J_dup (pc := 10) C dX11_undo_10 rfl ?_
    refine J_getI (pc := 11) C dX11_undo_11 (ci := 11) (k0 := 8) rfl iX11 (by decide) k_1011 hf (fun x2 hf => ?_)
    refine J_iconst (pc := 14) C dX11_undo_14 (v := 1) (by decide) ?_
    refine J_isub (pc := 15) C dX11_undo_15 ?_
    refine J_put (pc := 16) C dX11_undo_16 (ci := 11) (k0 := 8) rfl iX11 tyX11 tyX11_ok nmX11 (by decide) k_1011 rfl (ty := .int) (by decide +kernel) (fun _ => rfl) (fun _ => rfl) hf (fun w3 hf => ?_)
    refine J_aload_n (pc := 19) C dX11_undo_19 rfl 0 rfl ?_
    refine J_sipush (pc := 20) C dX11_undo_20 (v := 1952) (by decide) ?_
    refine J_sipush (pc := 23) C dX11_undo_23 (v := 976) (by decide) ?_
    refine J_aload_n (pc := 26) C dX11_undo_26 rfl 0 rfl ?_
    refine J_getI (pc := 27) C dX11_undo_27 (ci := 11) (k0 := 8) rfl iX11 (by decide) k_1011 hf (fun x4 hf => ?_)
    refine J_imul (pc := 30) C dX11_undo_30 ?_
    refine J_iadd (pc := 31) C dX11_undo_31 ?_
    refine J_iconst (pc := 32) C dX11_undo_32 (v := 0) (by decide) ?_
    refine J_sipush (pc := 33) C dX11_undo_33 (v := 976) (by decide) ?_
    obtain ⟨q5, h6, hf⟩ := bind_ok hf
    obtain ⟨_, g7, h6⟩ := cl_spec h6
    refine J_cV (S := []) (pc := 36) C dX11_undo_36 (c_X11_copies _ _ _ _ _ _ h6) k_1131 ys_X11_copies ⟨Nat.le_of_ble_eq_true rfl, Nat.le_of_ble_eq_true rfl⟩ ⟨Nat.le_of_ble_eq_true rfl, Nat.le_of_ble_eq_true rfl⟩ g7 rfl rfl (fun _ => Nat.le_of_ble_eq_true rfl) ?_
    refine J_aload_n (pc := 39) C dX11_undo_39 rfl 0 rfl ?_
    refine J_getI (pc := 40) C dX11_undo_40 (ci := 11) (k0 := 8) rfl iX11 (by decide) k_1011 hf (fun x8 hf => ?_)
    exact J_iret (pc := 43) C  rfl rfl dX11_undo_43 hf
  · refine J_iconst (pc := 7) C dX11_undo_7 (v := -1) (by decide) ?_
    exact J_iret (pc := 8) C  rfl rfl dX11_undo_8 hf
set_option maxRecDepth 100000 in
set_option maxHeartbeats 4000000 in
theorem c_X11_summed {l : Launch} {D : va_G} {dA : FieldType → ClassId} (fu : Nat) (w : MW) (v0 : Nat) (v1 : Int32) (v2 : Int32) {rr : Int32} {w' : MW} (hf : f_X11_summed fu w v0 v1 v2 = some (rr, w')) : CT l D dA yX11_summed cX11_summed 7 (some .int) rmX11_summed [.ref v0, .int v1, .int v2] w (some (.int rr)) w' := by
  refine J_met (by decide) rfl (Nat.le_of_ble_eq_true rfl) (fun p e s m args below meth c A E C => ?_)
  have B140 : ∀ (lr13 : MW → Nat → Int32 → Int32 → Int32 → Int32 → Int32 → Option (Int32 × MW)) (lh13 : ∀ (w : MW) (v0 : Nat) (v1 : Int32) (v2 : Int32) (v3 : Int32) (v4 : Int32) (v5 : Int32), lr13 w v0 v1 v2 v3 v4 v5 = some (rr, w') → JW p l e rmX11_summed s m args below meth c 7 D dA A E (MQ below (Qr D dA E (some (.int rr)) w' A) args s 0 0 A) 0 0 13 [(0, .ref v0), (1, .int v1), (2, .int v2), (3, .int v3), (4, .int v4), (5, .int v5)] [] w) (w : MW) (v0 : Nat) (v1 : Int32) (v2 : Int32) (v4 : Int32) (v5 : Int32) (s0 : Int32) (s1 : Int32), f_X11_summed_140 fu lr13 w v0 v1 v2 v4 v5 s0 s1 = some (rr, w') → JW p l e rmX11_summed s m args below meth c 7 D dA A E (MQ below (Qr D dA E (some (.int rr)) w' A) args s 0 0 A) 0 0 140 [(0, .ref v0), (1, .int v1), (2, .int v2), (4, .int v4), (5, .int v5)] [.int s1, .int s0] w := by
    intro lr13 lh13 w v0 v1 v2 v4 v5 s0 s1 hf
    rw [f_X11_summed_140] at hf
    refine J_iadd (pc := 140) C dX11_summed_140 ?_
    refine J_istore_n (pc := 141) C dX11_summed_141 rfl (by decide) hf (fun q => [(3, .int q), (0, .ref v0), (1, .int v1), (2, .int v2), (4, .int v4), (5, .int v5)]) (fun _ => rfl) (fun x12 hf => ?_)
    refine J_iinc (pc := 142) C dX11_summed_142 5 rfl (y := v5 + 1) rfl (by decide) hf (fun q => [(5, .int q), (3, .int x12), (0, .ref v0), (1, .int v1), (2, .int v2), (4, .int v4)]) (fun _ => rfl) (fun x13 hf => ?_)
    refine J_goto (pc := 145) C dX11_summed_145 (tgt := 13) (by decide) ?_
    refine J_sub [2, 3, 4, 1, 5, 0] (L1 := [(0, .ref v0), (1, .int v1), (2, .int v2), (3, .int x12), (4, .int v4), (5, .int x13)]) rfl ?_
    exact lh13 w v0 v1 v2 x12 v4 x13 hf
  have B75 : ∀ (lr13 : MW → Nat → Int32 → Int32 → Int32 → Int32 → Int32 → Option (Int32 × MW)) (lh13 : ∀ (w : MW) (v0 : Nat) (v1 : Int32) (v2 : Int32) (v3 : Int32) (v4 : Int32) (v5 : Int32), lr13 w v0 v1 v2 v3 v4 v5 = some (rr, w') → JW p l e rmX11_summed s m args below meth c 7 D dA A E (MQ below (Qr D dA E (some (.int rr)) w' A) args s 0 0 A) 0 0 13 [(0, .ref v0), (1, .int v1), (2, .int v2), (3, .int v3), (4, .int v4), (5, .int v5)] [] w) (w : MW) (v0 : Nat) (v1 : Int32) (v2 : Int32) (v3 : Int32) (v5 : Int32) (v6 : Int32) (s0 : Int32), f_X11_summed_75 fu lr13 w v0 v1 v2 v3 v5 v6 s0 = some (rr, w') → JW p l e rmX11_summed s m args below meth c 7 D dA A E (MQ below (Qr D dA E (some (.int rr)) w' A) args s 0 0 A) 0 0 75 [(0, .ref v0), (1, .int v1), (2, .int v2), (3, .int v3), (5, .int v5), (6, .int v6)] [.int s0] w := by
    intro lr13 lh13 w v0 v1 v2 v3 v5 v6 s0 hf
    rw [f_X11_summed_75] at hf
    refine J_istore (pc := 75) C dX11_summed_75 (by decide) hf (fun q => [(4, .int q), (0, .ref v0), (1, .int v1), (2, .int v2), (3, .int v3), (5, .int v5), (6, .int v6)]) (fun _ => rfl) (fun x9 hf => ?_)
    refine J_iload_n (pc := 77) C dX11_summed_77 rfl 4 rfl ?_
    refine J_iload_n (pc := 78) C dX11_summed_78 rfl 3 rfl ?_
    refine J_iconst (pc := 79) C dX11_summed_79 (v := 3) (by decide) ?_
    refine J_icmp_ne (pc := 80) C dX11_summed_80 (tgt := 93) (by decide) hf (fun _ hf => ?_) (fun _ hf => ?_)
    · refine J_iload_n (pc := 93) C dX11_summed_93 rfl 3 rfl ?_
      refine J_bipush (pc := 94) C dX11_summed_94 (v := 8) (by decide) ?_
      refine J_icmp_ne (pc := 96) C dX11_summed_96 (tgt := 108) (by decide) hf (fun _ hf => ?_) (fun _ hf => ?_)
      · refine J_iload_n (pc := 108) C dX11_summed_108 rfl 3 rfl ?_
        refine J_bipush (pc := 109) C dX11_summed_109 (v := 9) (by decide) ?_
        refine J_icmp_ne (pc := 111) C dX11_summed_111 (tgt := 133) (by decide) hf (fun _ hf => ?_) (fun _ hf => ?_)
        · refine J_aload_n (pc := 133) C dX11_summed_133 rfl 1 rfl ?_
          refine J_getR (pc := 134) C dX11_summed_134 (ci := 11) (k0 := 10) rfl iX11 (by decide) k_1013 hf (fun x10 hf => ?_)
          refine J_iload (pc := 137) C dX11_summed_137 5 rfl ?_
          refine J_iald (pc := 139) C dX11_summed_139 hf (fun x11 hf => ?_)
          refine J_sub [1, 2, 3, 0, 5] (L1 := [(0, .ref v0), (1, .int v1), (2, .int v2), (4, .int x9), (5, .int v5)]) rfl ?_
          exact B140 lr13 lh13 w v0 v1 v2 x9 v5 v3 x11 hf
        · refine J_iload (pc := 114) C dX11_summed_114 5 rfl ?_
          refine J_if_le (pc := 116) C dX11_summed_116 (tgt := 129) (by decide) hf (fun _ hf => ?_) (fun _ hf => ?_)
          · refine J_iconst (pc := 129) C dX11_summed_129 (v := 1) (by decide) ?_
            refine J_goto (pc := 130) C dX11_summed_130 (tgt := 140) (by decide) ?_
            refine J_sub [1, 2, 3, 0, 5] (L1 := [(0, .ref v0), (1, .int v1), (2, .int v2), (4, .int x9), (5, .int v5)]) rfl ?_
            exact B140 lr13 lh13 w v0 v1 v2 x9 v5 v3 (1 : Int32) hf
          · refine J_iload (pc := 119) C dX11_summed_119 6 rfl ?_
            refine J_iconst (pc := 121) C dX11_summed_121 (v := 1) (by decide) ?_
            refine J_icmp_ne (pc := 122) C dX11_summed_122 (tgt := 129) (by decide) hf (fun _ hf => ?_) (fun _ hf => ?_)
            · refine J_iconst (pc := 129) C dX11_summed_129 (v := 1) (by decide) ?_
              refine J_goto (pc := 130) C dX11_summed_130 (tgt := 140) (by decide) ?_
              refine J_sub [1, 2, 3, 0, 5] (L1 := [(0, .ref v0), (1, .int v1), (2, .int v2), (4, .int x9), (5, .int v5)]) rfl ?_
              exact B140 lr13 lh13 w v0 v1 v2 x9 v5 v3 (1 : Int32) hf
            · refine J_iconst (pc := 125) C dX11_summed_125 (v := 0) (by decide) ?_
              refine J_goto (pc := 126) C dX11_summed_126 (tgt := 140) (by decide) ?_
              refine J_sub [1, 2, 3, 0, 5] (L1 := [(0, .ref v0), (1, .int v1), (2, .int v2), (4, .int x9), (5, .int v5)]) rfl ?_
              exact B140 lr13 lh13 w v0 v1 v2 x9 v5 v3 (0 : Int32) hf
      · refine J_aload_n (pc := 99) C dX11_summed_99 rfl 1 rfl ?_
        refine J_iload (pc := 100) C dX11_summed_100 5 rfl ?_
        obtain ⟨q14, h15, hf⟩ := bind_ok hf
        obtain ⟨_, g16, h15⟩ := cl_spec h15
        refine J_cV (S := [.int v3]) (pc := 102) C dX11_summed_102 (c_X11_depth _ _ _ _ h15) k_1255 ys_X11_depth ⟨Nat.le_of_ble_eq_true rfl, Nat.le_of_ble_eq_true rfl⟩ ⟨Nat.le_of_ble_eq_true rfl, Nat.le_of_ble_eq_true rfl⟩ g16 rfl rfl (fun _ => Nat.le_of_ble_eq_true rfl) ?_
        refine J_goto (pc := 105) C dX11_summed_105 (tgt := 140) (by decide) ?_
        refine J_sub [1, 2, 3, 0, 5] (L1 := [(0, .ref v0), (1, .int v1), (2, .int v2), (4, .int x9), (5, .int v5)]) rfl ?_
        exact B140 lr13 lh13 q14.2 v0 v1 v2 x9 v5 v3 q14.1 hf
    · refine J_aload_n (pc := 83) C dX11_summed_83 rfl 1 rfl ?_
      refine J_iload_n (pc := 84) C dX11_summed_84 rfl 2 rfl ?_
      refine J_iload (pc := 85) C dX11_summed_85 5 rfl ?_
      obtain ⟨q17, h18, hf⟩ := bind_ok hf
      obtain ⟨_, g19, h18⟩ := cl_spec h18
      refine J_cV (S := [.int v3]) (pc := 87) C dX11_summed_87 (c_X11_markAt _ _ _ _ h18) k_1171 ys_X11_markAt ⟨Nat.le_of_ble_eq_true rfl, Nat.le_of_ble_eq_true rfl⟩ ⟨Nat.le_of_ble_eq_true rfl, Nat.le_of_ble_eq_true rfl⟩ g19 rfl rfl (fun _ => Nat.le_of_ble_eq_true rfl) ?_
      refine J_goto (pc := 90) C dX11_summed_90 (tgt := 140) (by decide) ?_
      refine J_sub [1, 2, 3, 0, 5] (L1 := [(0, .ref v0), (1, .int v1), (2, .int v2), (4, .int x9), (5, .int v5)]) rfl ?_
      exact B140 lr13 lh13 w v0 v1 v2 x9 v5 v3 q17 hf
  have B48 : ∀ (lr13 : MW → Nat → Int32 → Int32 → Int32 → Int32 → Int32 → Option (Int32 × MW)) (lh13 : ∀ (w : MW) (v0 : Nat) (v1 : Int32) (v2 : Int32) (v3 : Int32) (v4 : Int32) (v5 : Int32), lr13 w v0 v1 v2 v3 v4 v5 = some (rr, w') → JW p l e rmX11_summed s m args below meth c 7 D dA A E (MQ below (Qr D dA E (some (.int rr)) w' A) args s 0 0 A) 0 0 13 [(0, .ref v0), (1, .int v1), (2, .int v2), (3, .int v3), (4, .int v4), (5, .int v5)] [] w) (w : MW) (v0 : Nat) (v1 : Int32) (v2 : Int32) (v3 : Int32) (v4 : Int32) (v5 : Int32) (s0 : Int32), f_X11_summed_48 fu lr13 w v0 v1 v2 v3 v4 v5 s0 = some (rr, w') → JW p l e rmX11_summed s m args below meth c 7 D dA A E (MQ below (Qr D dA E (some (.int rr)) w' A) args s 0 0 A) 0 0 48 [(0, .ref v0), (1, .int v1), (2, .int v2), (3, .int v3), (4, .int v4), (5, .int v5)] [.int s0] w := by
    intro lr13 lh13 w v0 v1 v2 v3 v4 v5 s0 hf
    rw [f_X11_summed_48] at hf
    refine J_istore (pc := 48) C dX11_summed_48 (by decide) hf (fun q => [(6, .int q), (0, .ref v0), (1, .int v1), (2, .int v2), (3, .int v3), (4, .int v4), (5, .int v5)]) (fun _ => rfl) (fun x8 hf => ?_)
    refine J_iload (pc := 50) C dX11_summed_50 6 rfl ?_
    refine J_if_le (pc := 52) C dX11_summed_52 (tgt := 73) (by decide) hf (fun _ hf => ?_) (fun _ hf => ?_)
    · refine J_iload (pc := 73) C dX11_summed_73 5 rfl ?_
      refine J_sub [1, 2, 3, 4, 6, 0] (L1 := [(0, .ref v0), (1, .int v1), (2, .int v2), (3, .int v3), (5, .int v5), (6, .int x8)]) rfl ?_
      exact B75 lr13 lh13 w v0 v1 v2 v3 v5 x8 v4 hf
    · refine J_iload (pc := 55) C dX11_summed_55 5 rfl ?_
      refine J_iconst (pc := 57) C dX11_summed_57 (v := -1) (by decide) ?_
      refine J_icmp_eq (pc := 58) C dX11_summed_58 (tgt := 68) (by decide) hf (fun _ hf => ?_) (fun _ hf => ?_)
      · refine J_iload (pc := 68) C dX11_summed_68 0 rfl ?_
        refine J_goto (pc := 70) C dX11_summed_70 (tgt := 75) (by decide) ?_
        refine J_sub [1, 2, 3, 4, 6, 0] (L1 := [(0, .ref v0), (1, .int v1), (2, .int v2), (3, .int v3), (5, .int v5), (6, .int x8)]) rfl ?_
        exact B75 lr13 lh13 w v0 v1 v2 v3 v5 x8 x8 hf
      · refine J_iload (pc := 61) C dX11_summed_61 0 rfl ?_
        refine J_iload (pc := 63) C dX11_summed_63 5 rfl ?_
        refine J_icmp_ge (pc := 65) C dX11_summed_65 (tgt := 73) (by decide) hf (fun _ hf => ?_) (fun _ hf => ?_)
        · refine J_iload (pc := 73) C dX11_summed_73 5 rfl ?_
          refine J_sub [1, 2, 3, 4, 6, 0] (L1 := [(0, .ref v0), (1, .int v1), (2, .int v2), (3, .int v3), (5, .int v5), (6, .int x8)]) rfl ?_
          exact B75 lr13 lh13 w v0 v1 v2 v3 v5 x8 v4 hf
        · refine J_iload (pc := 68) C dX11_summed_68 0 rfl ?_
          refine J_goto (pc := 70) C dX11_summed_70 (tgt := 75) (by decide) ?_
          refine J_sub [1, 2, 3, 4, 6, 0] (L1 := [(0, .ref v0), (1, .int v1), (2, .int v2), (3, .int v3), (5, .int v5), (6, .int x8)]) rfl ?_
          exact B75 lr13 lh13 w v0 v1 v2 v3 v5 x8 x8 hf
  have B13 : ∀ (n : Nat) (w : MW) (v0 : Nat) (v1 : Int32) (v2 : Int32) (v3 : Int32) (v4 : Int32) (v5 : Int32), f_X11_summed_13 fu n w v0 v1 v2 v3 v4 v5 = some (rr, w') → JW p l e rmX11_summed s m args below meth c 7 D dA A E (MQ below (Qr D dA E (some (.int rr)) w' A) args s 0 0 A) 0 0 13 [(0, .ref v0), (1, .int v1), (2, .int v2), (3, .int v3), (4, .int v4), (5, .int v5)] [] w := by
    intro n
    induction n with
    | zero => intro w v0 v1 v2 v3 v4 v5 hf; rw [f_X11_summed_13] at hf; cases hf
    | succ n ih =>
      intro w v0 v1 v2 v3 v4 v5 hf
      rw [f_X11_summed_13] at hf
      refine J_iload (pc := 13) C dX11_summed_13 5 rfl ?_
      refine J_aload_n (pc := 15) C dX11_summed_15 rfl 0 rfl ?_
      refine J_getI (pc := 16) C dX11_summed_16 (ci := 11) (k0 := 11) rfl iX11 (by decide) k_1014 hf (fun x7 hf => ?_)
      refine J_icmp_ge (pc := 19) C dX11_summed_19 (tgt := 148) (by decide) hf (fun _ hf => ?_) (fun _ hf => ?_)
      · refine J_iload_n (pc := 148) C dX11_summed_148 rfl 2 rfl ?_
        refine J_bipush (pc := 149) C dX11_summed_149 (v := 7) (by decide) ?_
        refine J_icmp_ne (pc := 151) C dX11_summed_151 (tgt := 159) (by decide) hf (fun _ hf => ?_) (fun _ hf => ?_)
        · refine J_iload_n (pc := 159) C dX11_summed_159 rfl 3 rfl ?_
          exact J_iret (pc := 160) C  rfl rfl dX11_summed_160 hf
        · refine J_iload (pc := 154) C dX11_summed_154 4 rfl ?_
          refine J_goto (pc := 156) C dX11_summed_156 (tgt := 160) (by decide) ?_
          exact J_iret (pc := 160) C  rfl rfl dX11_summed_160 hf
      · refine J_iload (pc := 22) C dX11_summed_22 5 rfl ?_
        refine J_if_le (pc := 24) C dX11_summed_24 (tgt := 47) (by decide) hf (fun _ hf => ?_) (fun _ hf => ?_)
        · refine J_iconst (pc := 47) C dX11_summed_47 (v := 0) (by decide) ?_
          refine J_sub [0, 1, 2, 3, 4, 5] (L1 := [(0, .ref v0), (1, .int v1), (2, .int v2), (3, .int v3), (4, .int v4), (5, .int v5)]) rfl ?_
          exact B48 (f_X11_summed_13 fu n) ih w v0 v1 v2 v3 v4 v5 (0 : Int32) hf
        · refine J_aload_n (pc := 27) C dX11_summed_27 rfl 0 rfl ?_
          refine J_getR (pc := 28) C dX11_summed_28 (ci := 11) (k0 := 10) rfl iX11 (by decide) k_1013 hf (fun x20 hf => ?_)
          refine J_iload (pc := 31) C dX11_summed_31 5 rfl ?_
          refine J_iald (pc := 33) C dX11_summed_33 hf (fun x21 hf => ?_)
          refine J_aload_n (pc := 34) C dX11_summed_34 rfl 0 rfl ?_
          refine J_getR (pc := 35) C dX11_summed_35 (ci := 11) (k0 := 10) rfl iX11 (by decide) k_1013 hf (fun x22 hf => ?_)
          refine J_iload (pc := 38) C dX11_summed_38 5 rfl ?_
          refine J_iconst (pc := 40) C dX11_summed_40 (v := 1) (by decide) ?_
          refine J_isub (pc := 41) C dX11_summed_41 ?_
          refine J_iald (pc := 42) C dX11_summed_42 hf (fun x23 hf => ?_)
          refine J_isub (pc := 43) C dX11_summed_43 ?_
          refine J_goto (pc := 44) C dX11_summed_44 (tgt := 48) (by decide) ?_
          refine J_sub [0, 1, 2, 3, 4, 5] (L1 := [(0, .ref v0), (1, .int v1), (2, .int v2), (3, .int v3), (4, .int v4), (5, .int v5)]) rfl ?_
          exact B48 (f_X11_summed_13 fu n) ih w v0 v1 v2 v3 v4 v5 (x21 - x23) hf
  rw [f_X11_summed] at hf
  refine J_sub [0, 1, 2] (L1 := [(0, .ref v0), (1, .int v1), (2, .int v2)]) rfl ?_
  refine J_aload_n (pc := 0) C dX11_summed_0 rfl 0 rfl ?_
  refine J_iload_n (pc := 1) C dX11_summed_1 rfl 1 rfl ?_
  obtain ⟨q1, h2, hf⟩ := bind_ok hf
  obtain ⟨_, g3, h2⟩ := cl_spec h2
  refine J_cV (S := []) (pc := 2) C dX11_summed_2 (c_X11_laysRow _ _ _ _ h2) k_1247 ys_X11_laysRow ⟨Nat.le_of_ble_eq_true rfl, Nat.le_of_ble_eq_true rfl⟩ ⟨Nat.le_of_ble_eq_true rfl, Nat.le_of_ble_eq_true rfl⟩ g3 rfl rfl (fun _ => Nat.le_of_ble_eq_true rfl) ?_
  refine J_iconst (pc := 5) C dX11_summed_5 (v := 0) (by decide) ?_
  refine J_istore_n (pc := 6) C dX11_summed_6 rfl (by decide) hf (fun q => [(3, .int q), (0, .ref v0), (1, .int v1), (2, .int v2)]) (fun _ => rfl) (fun x4 hf => ?_)
  refine J_iconst (pc := 7) C dX11_summed_7 (v := -1) (by decide) ?_
  refine J_istore (pc := 8) C dX11_summed_8 (by decide) hf (fun q => [(4, .int q), (3, .int x4), (0, .ref v0), (1, .int v1), (2, .int v2)]) (fun _ => rfl) (fun x5 hf => ?_)
  refine J_iconst (pc := 10) C dX11_summed_10 (v := 0) (by decide) ?_
  refine J_istore (pc := 11) C dX11_summed_11 (by decide) hf (fun q => [(5, .int q), (4, .int x5), (3, .int x4), (0, .ref v0), (1, .int v1), (2, .int v2)]) (fun _ => rfl) (fun x6 hf => ?_)
  refine J_sub [3, 4, 5, 2, 1, 0] (L1 := [(0, .ref v0), (1, .int v1), (2, .int v2), (3, .int x4), (4, .int x5), (5, .int x6)]) rfl ?_
  exact B13 fu q1 v0 v1 v2 x4 x5 x6 hf
