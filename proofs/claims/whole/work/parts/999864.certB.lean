set_option maxRecDepth 100000 in
set_option maxHeartbeats 4000000 in
theorem c_X11_cheapest {l : Launch} {D : va_G} {dA : FieldType → ClassId} (fu : Nat) (w : MW) (v0 : Nat) (v1 : Int32) {rr : Int32} {w' : MW} (hf : f_X11_cheapest fu w v0 v1 = some (rr, w')) : CT l D dA yX11_cheapest cX11_cheapest 7 (some .int) rmX11_cheapest [.ref v0, .int v1] w (some (.int rr)) w' := by
  refine J_met (by decide) rfl (Nat.le_of_ble_eq_true rfl) (fun p e s m args below meth c A E C => ?_)
  have B90 : ∀ (lr10 : MW → Nat → Int32 → Int32 → Int32 → Int32 → Int32 → Option (Int32 × MW)) (lh10 : ∀ (w : MW) (v0 : Nat) (v1 : Int32) (v2 : Int32) (v3 : Int32) (v4 : Int32) (v5 : Int32), lr10 w v0 v1 v2 v3 v4 v5 = some (rr, w') → JW p l e rmX11_cheapest s m args below meth c 7 D dA A E (MQ below (Qr D dA E (some (.int rr)) w' A) args s 0 0 A) 0 0 10 [(0, .ref v0), (1, .int v1), (2, .int v2), (3, .int v3), (4, .int v4), (5, .int v5)] [] w) (lr23 : MW → Nat → Int32 → Int32 → Int32 → Int32 → Int32 → Int32 → Option (Int32 × MW)) (lh23 : ∀ (w : MW) (v0 : Nat) (v1 : Int32) (v2 : Int32) (v3 : Int32) (v4 : Int32) (v5 : Int32) (v6 : Int32), lr23 w v0 v1 v2 v3 v4 v5 v6 = some (rr, w') → JW p l e rmX11_cheapest s m args below meth c 7 D dA A E (MQ below (Qr D dA E (some (.int rr)) w' A) args s 0 0 A) 0 0 23 [(0, .ref v0), (1, .int v1), (2, .int v2), (3, .int v3), (4, .int v4), (5, .int v5), (6, .int v6)] [] w) (w : MW) (v0 : Nat) (v1 : Int32) (v2 : Int32) (v3 : Int32) (v4 : Int32) (v5 : Int32) (v6 : Int32), f_X11_cheapest_90 fu lr10 lr23 w v0 v1 v2 v3 v4 v5 v6 = some (rr, w') → JW p l e rmX11_cheapest s m args below meth c 7 D dA A E (MQ below (Qr D dA E (some (.int rr)) w' A) args s 0 0 A) 0 0 90 [(0, .ref v0), (1, .int v1), (2, .int v2), (3, .int v3), (4, .int v4), (5, .int v5), (6, .int v6)] [] w := by
    intro lr10 lh10 lr23 lh23 w v0 v1 v2 v3 v4 v5 v6 hf
    rw [f_X11_cheapest_90] at hf
    refine J_iinc (pc := 90) C dX11_cheapest_90 6 rfl (y := v6 + 1) rfl (by decide) hf (fun q => [(6, .int q), (0, .ref v0), (1, .int v1), (2, .int v2), (3, .int v3), (4, .int v4), (5, .int v5)]) (fun _ => rfl) (fun x10 hf => ?_)
    refine J_goto (pc := 93) C dX11_cheapest_93 (tgt := 23) (by decide) ?_
    refine J_sub [1, 2, 3, 4, 5, 6, 0] (L1 := [(0, .ref v0), (1, .int v1), (2, .int v2), (3, .int v3), (4, .int v4), (5, .int v5), (6, .int x10)]) rfl ?_
    exact lh23 w v0 v1 v2 v3 v4 v5 x10 hf
  have B78 : ∀ (lr10 : MW → Nat → Int32 → Int32 → Int32 → Int32 → Int32 → Option (Int32 × MW)) (lh10 : ∀ (w : MW) (v0 : Nat) (v1 : Int32) (v2 : Int32) (v3 : Int32) (v4 : Int32) (v5 : Int32), lr10 w v0 v1 v2 v3 v4 v5 = some (rr, w') → JW p l e rmX11_cheapest s m args below meth c 7 D dA A E (MQ below (Qr D dA E (some (.int rr)) w' A) args s 0 0 A) 0 0 10 [(0, .ref v0), (1, .int v1), (2, .int v2), (3, .int v3), (4, .int v4), (5, .int v5)] [] w) (lr23 : MW → Nat → Int32 → Int32 → Int32 → Int32 → Int32 → Int32 → Option (Int32 × MW)) (lh23 : ∀ (w : MW) (v0 : Nat) (v1 : Int32) (v2 : Int32) (v3 : Int32) (v4 : Int32) (v5 : Int32) (v6 : Int32), lr23 w v0 v1 v2 v3 v4 v5 v6 = some (rr, w') → JW p l e rmX11_cheapest s m args below meth c 7 D dA A E (MQ below (Qr D dA E (some (.int rr)) w' A) args s 0 0 A) 0 0 23 [(0, .ref v0), (1, .int v1), (2, .int v2), (3, .int v3), (4, .int v4), (5, .int v5), (6, .int v6)] [] w) (w : MW) (v0 : Nat) (v1 : Int32) (v5 : Int32) (v6 : Int32), f_X11_cheapest_78 fu lr10 lr23 w v0 v1 v5 v6 = some (rr, w') → JW p l e rmX11_cheapest s m args below meth c 7 D dA A E (MQ below (Qr D dA E (some (.int rr)) w' A) args s 0 0 A) 0 0 78 [(0, .ref v0), (1, .int v1), (5, .int v5), (6, .int v6)] [] w := by
    intro lr10 lh10 lr23 lh23 w v0 v1 v5 v6 hf
    rw [f_X11_cheapest_78] at hf
    refine J_iload (pc := 78) C dX11_cheapest_78 2 rfl ?_
    refine J_istore_n (pc := 80) C dX11_cheapest_80 rfl (by decide) hf (fun q => [(2, .int q), (0, .ref v0), (1, .int v1), (5, .int v5), (6, .int v6)]) (fun _ => rfl) (fun x17 hf => ?_)
    refine J_iload (pc := 81) C dX11_cheapest_81 4 rfl ?_
    refine J_istore_n (pc := 83) C dX11_cheapest_83 rfl (by decide) hf (fun q => [(3, .int q), (2, .int x17), (0, .ref v0), (1, .int v1), (5, .int v5), (6, .int v6)]) (fun _ => rfl) (fun x18 hf => ?_)
    refine J_aload_n (pc := 84) C dX11_cheapest_84 rfl 2 rfl ?_
    refine J_getI (pc := 85) C dX11_cheapest_85 (ci := 11) (k0 := 17) rfl iX11 (by decide) k_1020 hf (fun x19 hf => ?_)
    refine J_istore (pc := 88) C dX11_cheapest_88 (by decide) hf (fun q => [(4, .int q), (3, .int x18), (2, .int x17), (0, .ref v0), (1, .int v1), (5, .int v5), (6, .int v6)]) (fun _ => rfl) (fun x20 hf => ?_)
    refine J_sub [3, 4, 2, 1, 0, 5, 6] (L1 := [(0, .ref v0), (1, .int v1), (2, .int x17), (3, .int x18), (4, .int x20), (5, .int v5), (6, .int v6)]) rfl ?_
    exact B90 lr10 lh10 lr23 lh23 w v0 v1 x17 x18 x20 v5 v6 hf
  have B23 : ∀ (lr10 : MW → Nat → Int32 → Int32 → Int32 → Int32 → Int32 → Option (Int32 × MW)) (lh10 : ∀ (w : MW) (v0 : Nat) (v1 : Int32) (v2 : Int32) (v3 : Int32) (v4 : Int32) (v5 : Int32), lr10 w v0 v1 v2 v3 v4 v5 = some (rr, w') → JW p l e rmX11_cheapest s m args below meth c 7 D dA A E (MQ below (Qr D dA E (some (.int rr)) w' A) args s 0 0 A) 0 0 10 [(0, .ref v0), (1, .int v1), (2, .int v2), (3, .int v3), (4, .int v4), (5, .int v5)] [] w) (n : Nat) (w : MW) (v0 : Nat) (v1 : Int32) (v2 : Int32) (v3 : Int32) (v4 : Int32) (v5 : Int32) (v6 : Int32), f_X11_cheapest_23 fu lr10 n w v0 v1 v2 v3 v4 v5 v6 = some (rr, w') → JW p l e rmX11_cheapest s m args below meth c 7 D dA A E (MQ below (Qr D dA E (some (.int rr)) w' A) args s 0 0 A) 0 0 23 [(0, .ref v0), (1, .int v1), (2, .int v2), (3, .int v3), (4, .int v4), (5, .int v5), (6, .int v6)] [] w := by
    intro lr10 lh10 n
    induction n with
    | zero => intro w v0 v1 v2 v3 v4 v5 v6 hf; rw [f_X11_cheapest_23] at hf; cases hf
    | succ n ih =>
      intro w v0 v1 v2 v3 v4 v5 v6 hf
      rw [f_X11_cheapest_23] at hf
      refine J_iload (pc := 23) C dX11_cheapest_23 6 rfl ?_
      refine J_bipush (pc := 25) C dX11_cheapest_25 (v := 8) (by decide) ?_
      refine J_icmp_ge (pc := 27) C dX11_cheapest_27 (tgt := 96) (by decide) hf (fun _ hf => ?_) (fun _ hf => ?_)
      · refine J_iinc (pc := 96) C dX11_cheapest_96 5 rfl (y := v5 + 1) rfl (by decide) hf (fun q => [(5, .int q), (0, .ref v0), (1, .int v1), (2, .int v2), (3, .int v3), (4, .int v4), (6, .int v6)]) (fun _ => rfl) (fun x6 hf => ?_)
        refine J_goto (pc := 99) C dX11_cheapest_99 (tgt := 10) (by decide) ?_
        refine J_sub [1, 2, 3, 4, 5, 0] (L1 := [(0, .ref v0), (1, .int v1), (2, .int v2), (3, .int v3), (4, .int v4), (5, .int x6)]) rfl ?_
        exact lh10 w v0 v1 v2 v3 v4 x6 hf
      · refine J_aload_n (pc := 30) C dX11_cheapest_30 rfl 0 rfl ?_
        refine J_iload (pc := 31) C dX11_cheapest_31 5 rfl ?_
        obtain ⟨q7, h8, hf⟩ := bind_ok hf
        obtain ⟨_, g9, h8⟩ := cl_spec h8
        refine J_cV (S := []) (pc := 33) C dX11_cheapest_33 (c_X11_many _ _ _ h8) k_1111 ys_X11_many ⟨Nat.le_of_ble_eq_true rfl, Nat.le_of_ble_eq_true rfl⟩ ⟨Nat.le_of_ble_eq_true rfl, Nat.le_of_ble_eq_true rfl⟩ g9 rfl rfl (fun _ => Nat.le_of_ble_eq_true rfl) ?_
        refine J_if_eq (pc := 36) C dX11_cheapest_36 (tgt := 90) (by decide) hf (fun _ hf => ?_) (fun _ hf => ?_)
        · refine J_sub [0, 1, 2, 3, 4, 5, 6] (L1 := [(0, .ref v0), (1, .int v1), (2, .int v2), (3, .int v3), (4, .int v4), (5, .int v5), (6, .int v6)]) rfl ?_
          exact B90 lr10 lh10 (f_X11_cheapest_23 fu lr10 n) ih w v0 v1 v2 v3 v4 v5 v6 hf
        · refine J_aload_n (pc := 39) C dX11_cheapest_39 rfl 0 rfl ?_
          refine J_iload (pc := 40) C dX11_cheapest_40 5 rfl ?_
          refine J_iload (pc := 42) C dX11_cheapest_42 6 rfl ?_
          obtain ⟨q11, h12, hf⟩ := bind_ok hf
          obtain ⟨_, g13, h12⟩ := cl_spec h12
          refine J_cV (S := []) (pc := 44) C dX11_cheapest_44 (c_X11_refusesMelt _ _ _ _ _ h12) k_1187 ys_X11_refusesMelt ⟨Nat.le_of_ble_eq_true rfl, Nat.le_of_ble_eq_true rfl⟩ ⟨Nat.le_of_ble_eq_true rfl, Nat.le_of_ble_eq_true rfl⟩ g13 rfl rfl (fun _ => Nat.le_of_ble_eq_true rfl) ?_
          refine J_if_le (pc := 47) C dX11_cheapest_47 (tgt := 53) (by decide) hf (fun _ hf => ?_) (fun _ hf => ?_)
          · refine J_aload_n (pc := 53) C dX11_cheapest_53 rfl 0 rfl ?_
            refine J_iload (pc := 54) C dX11_cheapest_54 5 rfl ?_
            refine J_iload (pc := 56) C dX11_cheapest_56 6 rfl ?_
            obtain ⟨q14, h15, hf⟩ := bind_ok hf
            obtain ⟨_, g16, h15⟩ := cl_spec h15
            refine J_cV (S := []) (pc := 58) C dX11_cheapest_58 (c_X11_laysRuns _ _ _ _ _ h15) k_1195 ys_X11_laysRuns ⟨Nat.le_of_ble_eq_true rfl, Nat.le_of_ble_eq_true rfl⟩ ⟨Nat.le_of_ble_eq_true rfl, Nat.le_of_ble_eq_true rfl⟩ g16 rfl rfl (fun _ => Nat.le_of_ble_eq_true rfl) ?_
            refine J_iload_n (pc := 61) C dX11_cheapest_61 rfl 2 rfl ?_
            refine J_iconst (pc := 62) C dX11_cheapest_62 (v := -1) (by decide) ?_
            refine J_icmp_eq (pc := 63) C dX11_cheapest_63 (tgt := 78) (by decide) hf (fun _ hf => ?_) (fun _ hf => ?_)
            · refine J_sub [0, 1, 5, 6] (L1 := [(0, .ref v0), (1, .int v1), (5, .int v5), (6, .int v6)]) rfl ?_
              exact B78 lr10 lh10 (f_X11_cheapest_23 fu lr10 n) ih q14 v0 v1 v5 v6 hf
            · refine J_aload_n (pc := 66) C dX11_cheapest_66 rfl 0 rfl ?_
              refine J_getI (pc := 67) C dX11_cheapest_67 (ci := 11) (k0 := 17) rfl iX11 (by decide) k_1020 hf (fun x21 hf => ?_)
              refine J_iload (pc := 70) C dX11_cheapest_70 4 rfl ?_
              refine J_icmp_lt (pc := 72) C dX11_cheapest_72 (tgt := 78) (by decide) hf (fun _ hf => ?_) (fun _ hf => ?_)
              · refine J_sub [0, 1, 5, 6] (L1 := [(0, .ref v0), (1, .int v1), (5, .int v5), (6, .int v6)]) rfl ?_
                exact B78 lr10 lh10 (f_X11_cheapest_23 fu lr10 n) ih q14 v0 v1 v5 v6 hf
              · refine J_goto (pc := 75) C dX11_cheapest_75 (tgt := 90) (by decide) ?_
                refine J_sub [0, 1, 2, 3, 4, 5, 6] (L1 := [(0, .ref v0), (1, .int v1), (2, .int v2), (3, .int v3), (4, .int v4), (5, .int v5), (6, .int v6)]) rfl ?_
                exact B90 lr10 lh10 (f_X11_cheapest_23 fu lr10 n) ih q14 v0 v1 v2 v3 v4 v5 v6 hf
          · refine J_goto (pc := 50) C dX11_cheapest_50 (tgt := 90) (by decide) ?_
            refine J_sub [0, 1, 2, 3, 4, 5, 6] (L1 := [(0, .ref v0), (1, .int v1), (2, .int v2), (3, .int v3), (4, .int v4), (5, .int v5), (6, .int v6)]) rfl ?_
            exact B90 lr10 lh10 (f_X11_cheapest_23 fu lr10 n) ih w v0 v1 v2 v3 v4 v5 v6 hf
  have B10 : ∀ (n : Nat) (w : MW) (v0 : Nat) (v1 : Int32) (v2 : Int32) (v3 : Int32) (v4 : Int32) (v5 : Int32), f_X11_cheapest_10 fu n w v0 v1 v2 v3 v4 v5 = some (rr, w') → JW p l e rmX11_cheapest s m args below meth c 7 D dA A E (MQ below (Qr D dA E (some (.int rr)) w' A) args s 0 0 A) 0 0 10 [(0, .ref v0), (1, .int v1), (2, .int v2), (3, .int v3), (4, .int v4), (5, .int v5)] [] w := by
    intro n
    induction n with
    | zero => intro w v0 v1 v2 v3 v4 v5 hf; rw [f_X11_cheapest_10] at hf; cases hf
    | succ n ih =>
      intro w v0 v1 v2 v3 v4 v5 hf
      rw [f_X11_cheapest_10] at hf
      refine J_iload (pc := 10) C dX11_cheapest_10 5 rfl ?_
      refine J_bipush (pc := 12) C dX11_cheapest_12 (v := 8) (by decide) ?_
      refine J_icmp_ge (pc := 14) C dX11_cheapest_14 (tgt := 102) (by decide) hf (fun _ hf => ?_) (fun _ hf => ?_)
      · refine J_iload_n (pc := 102) C dX11_cheapest_102 rfl 2 rfl ?_
        refine J_iconst (pc := 103) C dX11_cheapest_103 (v := -1) (by decide) ?_
        refine J_icmp_ne (pc := 104) C dX11_cheapest_104 (tgt := 109) (by decide) hf (fun _ hf => ?_) (fun _ hf => ?_)
        · refine J_iload_n (pc := 109) C dX11_cheapest_109 rfl 1 rfl ?_
          refine J_if_ne (pc := 110) C dX11_cheapest_110 (tgt := 117) (by decide) hf (fun _ hf => ?_) (fun _ hf => ?_)
          · refine J_iload_n (pc := 117) C dX11_cheapest_117 rfl 1 rfl ?_
            refine J_iconst (pc := 118) C dX11_cheapest_118 (v := 1) (by decide) ?_
            refine J_icmp_ne (pc := 119) C dX11_cheapest_119 (tgt := 126) (by decide) hf (fun _ hf => ?_) (fun _ hf => ?_)
            · refine J_iload_n (pc := 126) C dX11_cheapest_126 rfl 1 rfl ?_
              refine J_iconst (pc := 127) C dX11_cheapest_127 (v := 2) (by decide) ?_
              refine J_icmp_ne (pc := 128) C dX11_cheapest_128 (tgt := 136) (by decide) hf (fun _ hf => ?_) (fun _ hf => ?_)
              · refine J_iconst (pc := 136) C dX11_cheapest_136 (v := -1) (by decide) ?_
                exact J_iret (pc := 137) C  rfl rfl dX11_cheapest_137 hf
              · refine J_iload (pc := 131) C dX11_cheapest_131 4 rfl ?_
                refine J_goto (pc := 133) C dX11_cheapest_133 (tgt := 137) (by decide) ?_
                exact J_iret (pc := 137) C  rfl rfl dX11_cheapest_137 hf
            · refine J_iload_n (pc := 122) C dX11_cheapest_122 rfl 3 rfl ?_
              refine J_goto (pc := 123) C dX11_cheapest_123 (tgt := 137) (by decide) ?_
              exact J_iret (pc := 137) C  rfl rfl dX11_cheapest_137 hf
          · refine J_iload_n (pc := 113) C dX11_cheapest_113 rfl 2 rfl ?_
            refine J_goto (pc := 114) C dX11_cheapest_114 (tgt := 137) (by decide) ?_
            exact J_iret (pc := 137) C  rfl rfl dX11_cheapest_137 hf
        · refine J_iconst (pc := 107) C dX11_cheapest_107 (v := -1) (by decide) ?_
          exact J_iret (pc := 108) C  rfl rfl dX11_cheapest_108 hf
      · refine J_iload (pc := 17) C dX11_cheapest_17 5 rfl ?_
        refine J_iconst (pc := 19) C dX11_cheapest_19 (v := 1) (by decide) ?_
        refine J_iadd (pc := 20) C dX11_cheapest_20 ?_
        refine J_istore (pc := 21) C dX11_cheapest_21 (by decide) hf (fun q => [(6, .int q), (0, .ref v0), (1, .int v1), (2, .int v2), (3, .int v3), (4, .int v4), (5, .int v5)]) (fun _ => rfl) (fun x5 hf => ?_)
        refine J_sub [1, 2, 3, 4, 5, 6, 0] (L1 := [(0, .ref v0), (1, .int v1), (2, .int v2), (3, .int v3), (4, .int v4), (5, .int v5), (6, .int x5)]) rfl ?_
        exact B23 (f_X11_cheapest_10 fu n) ih fu w v0 v1 v2 v3 v4 v5 x5 hf
  rw [f_X11_cheapest] at hf
  refine J_sub [0, 1] (L1 := [(0, .ref v0), (1, .int v1)]) rfl ?_
  refine J_iconst (pc := 0) C dX11_cheapest_0 (v := -1) (by decide) ?_
  refine J_istore_n (pc := 1) C dX11_cheapest_1 rfl (by decide) hf (fun q => [(2, .int q), (0, .ref v0), (1, .int v1)]) (fun _ => rfl) (fun x1 hf => ?_)
  refine J_iconst (pc := 2) C dX11_cheapest_2 (v := -1) (by decide) ?_
  refine J_istore_n (pc := 3) C dX11_cheapest_3 rfl (by decide) hf (fun q => [(3, .int q), (2, .int x1), (0, .ref v0), (1, .int v1)]) (fun _ => rfl) (fun x2 hf => ?_)
  refine J_iconst (pc := 4) C dX11_cheapest_4 (v := 0) (by decide) ?_
  refine J_istore (pc := 5) C dX11_cheapest_5 (by decide) hf (fun q => [(4, .int q), (3, .int x2), (2, .int x1), (0, .ref v0), (1, .int v1)]) (fun _ => rfl) (fun x3 hf => ?_)
  refine J_iconst (pc := 7) C dX11_cheapest_7 (v := 0) (by decide) ?_
  refine J_istore (pc := 8) C dX11_cheapest_8 (by decide) hf (fun q => [(5, .int q), (4, .int x3), (3, .int x2), (2, .int x1), (0, .ref v0), (1, .int v1)]) (fun _ => rfl) (fun x4 hf => ?_)
  refine J_sub [4, 5, 3, 2, 1, 0] (L1 := [(0, .ref v0), (1, .int v1), (2, .int x1), (3, .int x2), (4, .int x3), (5, .int x4)]) rfl ?_
  exact B10 fu w v0 v1 x1 x2 x3 x4 hf
set_option maxRecDepth 100000 in
set_option maxHeartbeats 4000000 in
theorem c_X11_merged {l : Launch} {D : va_G} {dA : FieldType → ClassId} (fu : Nat) (w : MW) (v0 : Nat) (v1 : Int32) {rr : Int32} (hf : f_X11_merged fu w v0 v1 = some rr) : CT l D dA yX11_merged cX11_merged 6 (some .int) rmX11_merged [.ref v0, .int v1] w (some (.int rr)) w := by
  refine J_met (by decide) rfl (Nat.le_of_ble_eq_true rfl) (fun p e s m args below meth c A E C => ?_)
  have B79 : ∀ (lr8 : Nat → Int32 → Int32 → Option Int32) (lh8 : ∀ (v0 : Nat) (v1 : Int32) (v2 : Int32), lr8 v0 v1 v2 = some rr → JW p l e rmX11_merged s m args below meth c 6 D dA A E (MQ below (Qr D dA E (some (.int rr)) w A) args s 0 0 A) 0 0 8 [(0, .ref v0), (1, .int v1), (2, .int v2)] [] w) (lr16 : Nat → Int32 → Int32 → Int32 → Option Int32) (lh16 : ∀ (v0 : Nat) (v1 : Int32) (v2 : Int32) (v3 : Int32), lr16 v0 v1 v2 v3 = some rr → JW p l e rmX11_merged s m args below meth c 6 D dA A E (MQ below (Qr D dA E (some (.int rr)) w A) args s 0 0 A) 0 0 16 [(0, .ref v0), (1, .int v1), (2, .int v2), (3, .int v3)] [] w) (lr31 : Nat → Int32 → Int32 → Int32 → Int32 → Int32 → Option Int32) (lh31 : ∀ (v0 : Nat) (v1 : Int32) (v2 : Int32) (v3 : Int32) (v4 : Int32) (v5 : Int32), lr31 v0 v1 v2 v3 v4 v5 = some rr → JW p l e rmX11_merged s m args below meth c 6 D dA A E (MQ below (Qr D dA E (some (.int rr)) w A) args s 0 0 A) 0 0 31 [(0, .ref v0), (1, .int v1), (2, .int v2), (3, .int v3), (4, .int v4), (5, .int v5)] [] w) (v0 : Nat) (v1 : Int32) (v2 : Int32) (v3 : Int32) (v5 : Int32) (s0 : Int32) (s1 : Int32) (s2 : Int32), f_X11_merged_79 fu w lr8 lr16 lr31 v0 v1 v2 v3 v5 s0 s1 s2 = some rr → JW p l e rmX11_merged s m args below meth c 6 D dA A E (MQ below (Qr D dA E (some (.int rr)) w A) args s 0 0 A) 0 0 79 [(0, .ref v0), (1, .int v1), (2, .int v2), (3, .int v3), (5, .int v5)] [.int s2, .int s1, .int s0] w := by
    intro lr8 lh8 lr16 lh16 lr31 lh31 v0 v1 v2 v3 v5 s0 s1 s2 hf
    rw [f_X11_merged_79] at hf
    refine J_iadd (pc := 79) C dX11_merged_79 ?_
    refine J_iadd (pc := 80) C dX11_merged_80 ?_
    refine J_istore (pc := 81) C dX11_merged_81 (by decide) hf (fun q => [(4, .int q), (0, .ref v0), (1, .int v1), (2, .int v2), (3, .int v3), (5, .int v5)]) (fun _ => rfl) (fun x19 hf => ?_)
    refine J_iinc (pc := 83) C dX11_merged_83 5 rfl (y := v5 + 1) rfl (by decide) hf (fun q => [(5, .int q), (4, .int x19), (0, .ref v0), (1, .int v1), (2, .int v2), (3, .int v3)]) (fun _ => rfl) (fun x20 hf => ?_)
    refine J_goto (pc := 86) C dX11_merged_86 (tgt := 31) (by decide) ?_
    refine J_sub [2, 3, 4, 5, 1, 0] (L1 := [(0, .ref v0), (1, .int v1), (2, .int v2), (3, .int v3), (4, .int x19), (5, .int x20)]) rfl ?_
    exact lh31 v0 v1 v2 v3 x19 x20 hf
  have B31 : ∀ (lr8 : Nat → Int32 → Int32 → Option Int32) (lh8 : ∀ (v0 : Nat) (v1 : Int32) (v2 : Int32), lr8 v0 v1 v2 = some rr → JW p l e rmX11_merged s m args below meth c 6 D dA A E (MQ below (Qr D dA E (some (.int rr)) w A) args s 0 0 A) 0 0 8 [(0, .ref v0), (1, .int v1), (2, .int v2)] [] w) (lr16 : Nat → Int32 → Int32 → Int32 → Option Int32) (lh16 : ∀ (v0 : Nat) (v1 : Int32) (v2 : Int32) (v3 : Int32), lr16 v0 v1 v2 v3 = some rr → JW p l e rmX11_merged s m args below meth c 6 D dA A E (MQ below (Qr D dA E (some (.int rr)) w A) args s 0 0 A) 0 0 16 [(0, .ref v0), (1, .int v1), (2, .int v2), (3, .int v3)] [] w) (n : Nat) (v0 : Nat) (v1 : Int32) (v2 : Int32) (v3 : Int32) (v4 : Int32) (v5 : Int32), f_X11_merged_31 fu w lr8 lr16 n v0 v1 v2 v3 v4 v5 = some rr → JW p l e rmX11_merged s m args below meth c 6 D dA A E (MQ below (Qr D dA E (some (.int rr)) w A) args s 0 0 A) 0 0 31 [(0, .ref v0), (1, .int v1), (2, .int v2), (3, .int v3), (4, .int v4), (5, .int v5)] [] w := by
    intro lr8 lh8 lr16 lh16 n
    induction n with
    | zero => intro v0 v1 v2 v3 v4 v5 hf; rw [f_X11_merged_31] at hf; cases hf
    | succ n ih =>
      intro v0 v1 v2 v3 v4 v5 hf
      rw [f_X11_merged_31] at hf
      refine J_iload (pc := 31) C dX11_merged_31 5 rfl ?_
      refine J_bipush (pc := 33) C dX11_merged_33 (v := 8) (by decide) ?_
      refine J_icmp_ge (pc := 35) C dX11_merged_35 (tgt := 89) (by decide) hf (fun _ hf => ?_) (fun _ hf => ?_)
      · refine J_iload (pc := 89) C dX11_merged_89 4 rfl ?_
        refine J_iload_n (pc := 91) C dX11_merged_91 rfl 1 rfl ?_
        refine J_icmp_ne (pc := 92) C dX11_merged_92 (tgt := 102) (by decide) hf (fun _ hf => ?_) (fun _ hf => ?_)
        · refine J_iinc (pc := 102) C dX11_merged_102 3 rfl (y := v3 + 1) rfl (by decide) hf (fun q => [(3, .int q), (0, .ref v0), (1, .int v1), (2, .int v2), (4, .int v4), (5, .int v5)]) (fun _ => rfl) (fun x9 hf => ?_)
          refine J_goto (pc := 105) C dX11_merged_105 (tgt := 16) (by decide) ?_
          refine J_sub [1, 2, 3, 0] (L1 := [(0, .ref v0), (1, .int v1), (2, .int v2), (3, .int x9)]) rfl ?_
          exact lh16 v0 v1 v2 x9 hf
        · refine J_aload_n (pc := 95) C dX11_merged_95 rfl 0 rfl ?_
          refine J_iload_n (pc := 96) C dX11_merged_96 rfl 2 rfl ?_
          refine J_iload_n (pc := 97) C dX11_merged_97 rfl 3 rfl ?_
          obtain ⟨q10, h11, hf⟩ := bind_ok hf
          obtain ⟨_, g12, h11⟩ := cl_spec h11
          refine J_cV (S := []) (pc := 98) C dX11_merged_98 (c_X11_keyAt _ _ _ _ h11) k_1115 ys_X11_keyAt ⟨Nat.le_of_ble_eq_true rfl, Nat.le_of_ble_eq_true rfl⟩ ⟨Nat.le_of_ble_eq_true rfl, Nat.le_of_ble_eq_true rfl⟩ g12 rfl rfl (fun _ => Nat.le_of_ble_eq_true rfl) ?_
          exact J_iretP (pc := 101) C  rfl rfl dX11_merged_101 hf
      · refine J_iload (pc := 38) C dX11_merged_38 4 rfl ?_
        refine J_aload_n (pc := 40) C dX11_merged_40 rfl 0 rfl ?_
        refine J_iload (pc := 41) C dX11_merged_41 5 rfl ?_
        refine J_aload_n (pc := 43) C dX11_merged_43 rfl 0 rfl ?_
        refine J_iload_n (pc := 44) C dX11_merged_44 rfl 2 rfl ?_
        refine J_iload_n (pc := 45) C dX11_merged_45 rfl 3 rfl ?_
        obtain ⟨q13, h14, hf⟩ := bind_ok hf
        obtain ⟨_, g15, h14⟩ := cl_spec h14
        refine J_cV (S := [.int v5, .ref v0, .int v4]) (pc := 46) C dX11_merged_46 (c_X11_keyAt _ _ _ _ h14) k_1115 ys_X11_keyAt ⟨Nat.le_of_ble_eq_true rfl, Nat.le_of_ble_eq_true rfl⟩ ⟨Nat.le_of_ble_eq_true rfl, Nat.le_of_ble_eq_true rfl⟩ g15 rfl rfl (fun _ => Nat.le_of_ble_eq_true rfl) ?_
        obtain ⟨q16, h17, hf⟩ := bind_ok hf
        obtain ⟨_, g18, h17⟩ := cl_spec h17
        refine J_cV (S := [.int v4]) (pc := 49) C dX11_merged_49 (c_X11_below _ _ _ _ _ h17) k_1107 ys_X11_below ⟨Nat.le_of_ble_eq_true rfl, Nat.le_of_ble_eq_true rfl⟩ ⟨Nat.le_of_ble_eq_true rfl, Nat.le_of_ble_eq_true rfl⟩ g18 rfl rfl (fun _ => Nat.le_of_ble_eq_true rfl) ?_
        refine J_iload (pc := 52) C dX11_merged_52 5 rfl ?_
        refine J_iload_n (pc := 54) C dX11_merged_54 rfl 2 rfl ?_
        refine J_icmp_ge (pc := 55) C dX11_merged_55 (tgt := 78) (by decide) hf (fun _ hf => ?_) (fun _ hf => ?_)
        · refine J_iconst (pc := 78) C dX11_merged_78 (v := 0) (by decide) ?_
          refine J_sub [0, 1, 2, 3, 5] (L1 := [(0, .ref v0), (1, .int v1), (2, .int v2), (3, .int v3), (5, .int v5)]) rfl ?_
          exact B79 lr8 lh8 lr16 lh16 (f_X11_merged_31 fu w lr8 lr16 n) ih v0 v1 v2 v3 v5 v4 q16 (0 : Int32) hf
        · refine J_aload_n (pc := 58) C dX11_merged_58 rfl 0 rfl ?_
          refine J_iload (pc := 59) C dX11_merged_59 5 rfl ?_
          refine J_aload_n (pc := 61) C dX11_merged_61 rfl 0 rfl ?_
          refine J_iload_n (pc := 62) C dX11_merged_62 rfl 2 rfl ?_
          refine J_iload_n (pc := 63) C dX11_merged_63 rfl 3 rfl ?_
          obtain ⟨q21, h22, hf⟩ := bind_ok hf
          obtain ⟨_, g23, h22⟩ := cl_spec h22
          refine J_cV (S := [.int v5, .ref v0, .int q16, .int v4]) (pc := 64) C dX11_merged_64 (c_X11_keyAt _ _ _ _ h22) k_1115 ys_X11_keyAt ⟨Nat.le_of_ble_eq_true rfl, Nat.le_of_ble_eq_true rfl⟩ ⟨Nat.le_of_ble_eq_true rfl, Nat.le_of_ble_eq_true rfl⟩ g23 rfl rfl (fun _ => Nat.le_of_ble_eq_true rfl) ?_
          obtain ⟨q24, h25, hf⟩ := bind_ok hf
          obtain ⟨_, g26, h25⟩ := cl_spec h25
          refine J_cV (S := [.int q16, .int v4]) (pc := 67) C dX11_merged_67 (c_X11_placeOf _ _ _ _ _ h25) k_1103 ys_X11_placeOf ⟨Nat.le_of_ble_eq_true rfl, Nat.le_of_ble_eq_true rfl⟩ ⟨Nat.le_of_ble_eq_true rfl, Nat.le_of_ble_eq_true rfl⟩ g26 rfl rfl (fun _ => Nat.le_of_ble_eq_true rfl) ?_
          refine J_iconst (pc := 70) C dX11_merged_70 (v := -1) (by decide) ?_
          refine J_icmp_eq (pc := 71) C dX11_merged_71 (tgt := 78) (by decide) hf (fun _ hf => ?_) (fun _ hf => ?_)
          · refine J_iconst (pc := 78) C dX11_merged_78 (v := 0) (by decide) ?_
            refine J_sub [0, 1, 2, 3, 5] (L1 := [(0, .ref v0), (1, .int v1), (2, .int v2), (3, .int v3), (5, .int v5)]) rfl ?_
            exact B79 lr8 lh8 lr16 lh16 (f_X11_merged_31 fu w lr8 lr16 n) ih v0 v1 v2 v3 v5 v4 q16 (0 : Int32) hf
          · refine J_iconst (pc := 74) C dX11_merged_74 (v := 1) (by decide) ?_
            refine J_goto (pc := 75) C dX11_merged_75 (tgt := 79) (by decide) ?_
            refine J_sub [0, 1, 2, 3, 5] (L1 := [(0, .ref v0), (1, .int v1), (2, .int v2), (3, .int v3), (5, .int v5)]) rfl ?_
            exact B79 lr8 lh8 lr16 lh16 (f_X11_merged_31 fu w lr8 lr16 n) ih v0 v1 v2 v3 v5 v4 q16 (1 : Int32) hf
  have B16 : ∀ (lr8 : Nat → Int32 → Int32 → Option Int32) (lh8 : ∀ (v0 : Nat) (v1 : Int32) (v2 : Int32), lr8 v0 v1 v2 = some rr → JW p l e rmX11_merged s m args below meth c 6 D dA A E (MQ below (Qr D dA E (some (.int rr)) w A) args s 0 0 A) 0 0 8 [(0, .ref v0), (1, .int v1), (2, .int v2)] [] w) (n : Nat) (v0 : Nat) (v1 : Int32) (v2 : Int32) (v3 : Int32), f_X11_merged_16 fu w lr8 n v0 v1 v2 v3 = some rr → JW p l e rmX11_merged s m args below meth c 6 D dA A E (MQ below (Qr D dA E (some (.int rr)) w A) args s 0 0 A) 0 0 16 [(0, .ref v0), (1, .int v1), (2, .int v2), (3, .int v3)] [] w := by
    intro lr8 lh8 n
    induction n with
    | zero => intro v0 v1 v2 v3 hf; rw [f_X11_merged_16] at hf; cases hf
    | succ n ih =>
      intro v0 v1 v2 v3 hf
      rw [f_X11_merged_16] at hf
      refine J_iload_n (pc := 16) C dX11_merged_16 rfl 3 rfl ?_
      refine J_aload_n (pc := 17) C dX11_merged_17 rfl 0 rfl ?_
      refine J_iload_n (pc := 18) C dX11_merged_18 rfl 2 rfl ?_
      obtain ⟨q3, h4, hf⟩ := bind_ok hf
      obtain ⟨_, g5, h4⟩ := cl_spec h4
      refine J_cV (S := [.int v3]) (pc := 19) C dX11_merged_19 (c_X11_many _ _ _ h4) k_1111 ys_X11_many ⟨Nat.le_of_ble_eq_true rfl, Nat.le_of_ble_eq_true rfl⟩ ⟨Nat.le_of_ble_eq_true rfl, Nat.le_of_ble_eq_true rfl⟩ g5 rfl rfl (fun _ => Nat.le_of_ble_eq_true rfl) ?_
      refine J_icmp_ge (pc := 22) C dX11_merged_22 (tgt := 108) (by decide) hf (fun _ hf => ?_) (fun _ hf => ?_)
      · refine J_iinc (pc := 108) C dX11_merged_108 2 rfl (y := v2 + 1) rfl (by decide) hf (fun q => [(2, .int q), (0, .ref v0), (1, .int v1), (3, .int v3)]) (fun _ => rfl) (fun x6 hf => ?_)
        refine J_goto (pc := 111) C dX11_merged_111 (tgt := 8) (by decide) ?_
        refine J_sub [1, 2, 0] (L1 := [(0, .ref v0), (1, .int v1), (2, .int x6)]) rfl ?_
        exact lh8 v0 v1 x6 hf
      · refine J_iconst (pc := 25) C dX11_merged_25 (v := 0) (by decide) ?_
        refine J_istore (pc := 26) C dX11_merged_26 (by decide) hf (fun q => [(4, .int q), (0, .ref v0), (1, .int v1), (2, .int v2), (3, .int v3)]) (fun _ => rfl) (fun x7 hf => ?_)
        refine J_iconst (pc := 28) C dX11_merged_28 (v := 0) (by decide) ?_
        refine J_istore (pc := 29) C dX11_merged_29 (by decide) hf (fun q => [(5, .int q), (4, .int x7), (0, .ref v0), (1, .int v1), (2, .int v2), (3, .int v3)]) (fun _ => rfl) (fun x8 hf => ?_)
        refine J_sub [2, 3, 4, 5, 1, 0] (L1 := [(0, .ref v0), (1, .int v1), (2, .int v2), (3, .int v3), (4, .int x7), (5, .int x8)]) rfl ?_
        exact B31 lr8 lh8 (f_X11_merged_16 fu w lr8 n) ih fu v0 v1 v2 v3 x7 x8 hf
  have B8 : ∀ (n : Nat) (v0 : Nat) (v1 : Int32) (v2 : Int32), f_X11_merged_8 fu w n v0 v1 v2 = some rr → JW p l e rmX11_merged s m args below meth c 6 D dA A E (MQ below (Qr D dA E (some (.int rr)) w A) args s 0 0 A) 0 0 8 [(0, .ref v0), (1, .int v1), (2, .int v2)] [] w := by
    intro n
    induction n with
    | zero => intro v0 v1 v2 hf; rw [f_X11_merged_8] at hf; cases hf
    | succ n ih =>
      intro v0 v1 v2 hf
      rw [f_X11_merged_8] at hf
      refine J_iload_n (pc := 8) C dX11_merged_8 rfl 2 rfl ?_
      refine J_bipush (pc := 9) C dX11_merged_9 (v := 8) (by decide) ?_
      refine J_icmp_ge (pc := 11) C dX11_merged_11 (tgt := 114) (by decide) hf (fun _ hf => ?_) (fun _ hf => ?_)
      · refine J_iconst (pc := 114) C dX11_merged_114 (v := -1) (by decide) ?_
        exact J_iretP (pc := 115) C  rfl rfl dX11_merged_115 hf
      · refine J_iconst (pc := 14) C dX11_merged_14 (v := 0) (by decide) ?_
        refine J_istore_n (pc := 15) C dX11_merged_15 rfl (by decide) hf (fun q => [(3, .int q), (0, .ref v0), (1, .int v1), (2, .int v2)]) (fun _ => rfl) (fun x2 hf => ?_)
        refine J_sub [1, 2, 3, 0] (L1 := [(0, .ref v0), (1, .int v1), (2, .int v2), (3, .int x2)]) rfl ?_
        exact B16 (f_X11_merged_8 fu w n) ih fu v0 v1 v2 x2 hf
  rw [f_X11_merged] at hf
  refine J_sub [0, 1] (L1 := [(0, .ref v0), (1, .int v1)]) rfl ?_
  refine J_iload_n (pc := 0) C dX11_merged_0 rfl 1 rfl ?_
  refine J_if_ge (pc := 1) C dX11_merged_1 (tgt := 6) (by decide) hf (fun _ hf => ?_) (fun _ hf => ?_)
  · refine J_iconst (pc := 6) C dX11_merged_6 (v := 0) (by decide) ?_
    refine J_istore_n (pc := 7) C dX11_merged_7 rfl (by decide) hf (fun q => [(2, .int q), (0, .ref v0), (1, .int v1)]) (fun _ => rfl) (fun x1 hf => ?_)
    refine J_sub [1, 2, 0] (L1 := [(0, .ref v0), (1, .int v1), (2, .int x1)]) rfl ?_
    exact B8 fu v0 v1 x1 hf
  · refine J_iconst (pc := 4) C dX11_merged_4 (v := -1) (by decide) ?_
    exact J_iretP (pc := 5) C  rfl rfl dX11_merged_5 hf
set_option maxRecDepth 100000 in
set_option maxHeartbeats 4000000 in
theorem c_X11_would {l : Launch} {D : va_G} {dA : FieldType → ClassId} (fu : Nat) (w : MW) (v0 : Nat) (v1 : Int32) (v2 : Int32) (v3 : Int32) {rr : Int32} {w' : MW} (hf : f_X11_would fu w v0 v1 v2 v3 = some (rr, w')) : CT l D dA yX11_would cX11_would 6 (some .int) rmX11_would [.ref v0, .int v1, .int v2, .int v3] w (some (.int rr)) w' := by
  refine J_met (by decide) rfl (Nat.le_of_ble_eq_true rfl) (fun p e s m args below meth c A E C => ?_)
  have B153 : ∀ (w : MW) (v0 : Nat) (s0 : Nat) (s1 : Int32) (s2 : Int32), f_X11_would_153 fu w v0 s0 s1 s2 = some (rr, w') → JW p l e rmX11_would s m args below meth c 6 D dA A E (MQ below (Qr D dA E (some (.int rr)) w' A) args s 0 0 A) 0 0 153 [(0, .ref v0)] [.int s2, .int s1, .ref s0] w := by
    intro w v0 s0 s1 s2 hf
    rw [f_X11_would_153] at hf
    refine J_iadd (pc := 153) C dX11_would_153 ?_
    refine J_put (pc := 154) C dX11_would_154 (ci := 11) (k0 := 11) rfl iX11 tyX11 tyX11_ok nmX11 (by decide) k_1014 rfl (ty := .int) (by decide +kernel) (fun _ => rfl) (fun _ => rfl) hf (fun w14 hf => ?_)
    refine J_aload_n (pc := 157) C dX11_would_157 rfl 0 rfl ?_
    obtain ⟨q15, h16, hf⟩ := bind_ok hf
    obtain ⟨_, g17, h16⟩ := cl_spec h16
    refine J_cV (S := []) (pc := 158) C dX11_would_158 (c_X11_high _ _ _ h16) k_1280 ys_X11_high ⟨Nat.le_of_ble_eq_true rfl, Nat.le_of_ble_eq_true rfl⟩ ⟨Nat.le_of_ble_eq_true rfl, Nat.le_of_ble_eq_true rfl⟩ g17 rfl rfl (fun _ => Nat.le_of_ble_eq_true rfl) ?_
    exact J_iret (pc := 161) C  rfl rfl dX11_would_161 hf
  have B139 : ∀ (w : MW) (v0 : Nat) (v3 : Int32), f_X11_would_139 fu w v0 v3 = some (rr, w') → JW p l e rmX11_would s m args below meth c 6 D dA A E (MQ below (Qr D dA E (some (.int rr)) w' A) args s 0 0 A) 0 0 139 [(0, .ref v0), (3, .int v3)] [] w := by
    intro w v0 v3 hf
    rw [f_X11_would_139] at hf
    refine J_aload_n (pc := 139) C dX11_would_139 rfl 0 rfl ?_
    refine J_dup (pc := 140) C dX11_would_140 rfl ?_
    refine J_getI (pc := 141) C dX11_would_141 (ci := 11) (k0 := 11) rfl iX11 (by decide) k_1014 hf (fun x13 hf => ?_)
    refine J_iload_n (pc := 144) C dX11_would_144 rfl 1 rfl ?_
    refine J_if_eq (pc := 145) C dX11_would_145 (tgt := 152) (by decide) hf (fun _ hf => ?_) (fun _ hf => ?_)
    · refine J_iconst (pc := 152) C dX11_would_152 (v := 1) (by decide) ?_
      refine J_sub [0] (L1 := [(0, .ref v0)]) rfl ?_
      exact B153 w v0 v0 x13 (1 : Int32) hf
    · refine J_iconst (pc := 148) C dX11_would_148 (v := -1) (by decide) ?_
      refine J_goto (pc := 149) C dX11_would_149 (tgt := 153) (by decide) ?_
      refine J_sub [0] (L1 := [(0, .ref v0)]) rfl ?_
      exact B153 w v0 v0 x13 (-1 : Int32) hf
  have B127 : ∀ (w : MW) (v0 : Nat) (v2 : Int32) (v3 : Int32) (v4 : Int32), f_X11_would_127 fu w v0 v2 v3 v4 = some (rr, w') → JW p l e rmX11_would s m args below meth c 6 D dA A E (MQ below (Qr D dA E (some (.int rr)) w' A) args s 0 0 A) 0 0 127 [(0, .ref v0), (2, .int v2), (3, .int v3), (4, .int v4)] [] w := by
    intro w v0 v2 v3 v4 hf
    rw [f_X11_would_127] at hf
    refine J_iload_n (pc := 127) C dX11_would_127 rfl 2 rfl ?_
    refine J_if_ne (pc := 128) C dX11_would_128 (tgt := 139) (by decide) hf (fun _ hf => ?_) (fun _ hf => ?_)
    · refine J_sub [0, 2] (L1 := [(0, .ref v0), (3, .int v3)]) rfl ?_
      exact B139 w v0 v3 hf
    · refine J_aload_n (pc := 131) C dX11_would_131 rfl 0 rfl ?_
      refine J_getR (pc := 132) C dX11_would_132 (ci := 11) (k0 := 10) rfl iX11 (by decide) k_1013 hf (fun x18 hf => ?_)
      refine J_iload (pc := 135) C dX11_would_135 3 rfl ?_
      refine J_iload_n (pc := 137) C dX11_would_137 rfl 1 rfl ?_
      refine J_iast (pc := 138) C dX11_would_138 hf (fun w19 hf => ?_)
      refine J_sub [0, 2] (L1 := [(0, .ref v0), (3, .int v3)]) rfl ?_
      exact B139 w19 v0 v3 hf
  have B98 : ∀ (n : Nat) (w : MW) (v0 : Nat) (v2 : Int32) (v3 : Int32) (v4 : Int32) (v5 : Int32), f_X11_would_98 fu n w v0 v2 v3 v4 v5 = some (rr, w') → JW p l e rmX11_would s m args below meth c 6 D dA A E (MQ below (Qr D dA E (some (.int rr)) w' A) args s 0 0 A) 0 0 98 [(0, .ref v0), (2, .int v2), (3, .int v3), (4, .int v4), (5, .int v5)] [] w := by
    intro n
    induction n with
    | zero => intro w v0 v2 v3 v4 v5 hf; rw [f_X11_would_98] at hf; cases hf
    | succ n ih =>
      intro w v0 v2 v3 v4 v5 hf
      rw [f_X11_would_98] at hf
      refine J_iload (pc := 98) C dX11_would_98 4 rfl ?_
      refine J_iload (pc := 100) C dX11_would_100 3 rfl ?_
      refine J_icmp_le (pc := 102) C dX11_would_102 (tgt := 127) (by decide) hf (fun _ hf => ?_) (fun _ hf => ?_)
      · refine J_sub [0, 1, 2, 3] (L1 := [(0, .ref v0), (2, .int v2), (3, .int v3), (4, .int v4)]) rfl ?_
        exact B127 w v0 v2 v3 v4 hf
      · refine J_aload_n (pc := 105) C dX11_would_105 rfl 0 rfl ?_
        refine J_getR (pc := 106) C dX11_would_106 (ci := 11) (k0 := 10) rfl iX11 (by decide) k_1013 hf (fun x20 hf => ?_)
        refine J_iload (pc := 109) C dX11_would_109 4 rfl ?_
        refine J_aload_n (pc := 111) C dX11_would_111 rfl 0 rfl ?_
        refine J_getR (pc := 112) C dX11_would_112 (ci := 11) (k0 := 10) rfl iX11 (by decide) k_1013 hf (fun x21 hf => ?_)
        refine J_iload (pc := 115) C dX11_would_115 4 rfl ?_
        refine J_iconst (pc := 117) C dX11_would_117 (v := 1) (by decide) ?_
        refine J_isub (pc := 118) C dX11_would_118 ?_
        refine J_iald (pc := 119) C dX11_would_119 hf (fun x22 hf => ?_)
        refine J_iast (pc := 120) C dX11_would_120 hf (fun w23 hf => ?_)
        refine J_iinc (pc := 121) C dX11_would_121 4 rfl (y := v5 + (-1)) rfl (by decide) hf (fun q => [(5, .int q), (0, .ref v0), (2, .int v2), (3, .int v3), (4, .int v4)]) (fun _ => rfl) (fun x24 hf => ?_)
        refine J_goto (pc := 124) C dX11_would_124 (tgt := 98) (by decide) ?_
        refine J_sub [1, 2, 3, 4, 0] (L1 := [(0, .ref v0), (2, .int v2), (3, .int v3), (4, .int v4), (5, .int x24)]) rfl ?_
        exact ih w23 v0 v2 v3 v4 x24 hf
  have B56 : ∀ (n : Nat) (w : MW) (v0 : Nat) (v2 : Int32) (v3 : Int32) (v4 : Int32) (v5 : Int32), f_X11_would_56 fu n w v0 v2 v3 v4 v5 = some (rr, w') → JW p l e rmX11_would s m args below meth c 6 D dA A E (MQ below (Qr D dA E (some (.int rr)) w' A) args s 0 0 A) 0 0 56 [(0, .ref v0), (2, .int v2), (3, .int v3), (4, .int v4), (5, .int v5)] [] w := by
    intro n
    induction n with
    | zero => intro w v0 v2 v3 v4 v5 hf; rw [f_X11_would_56] at hf; cases hf
    | succ n ih =>
      intro w v0 v2 v3 v4 v5 hf
      rw [f_X11_would_56] at hf
      refine J_iload (pc := 56) C dX11_would_56 4 rfl ?_
      refine J_iconst (pc := 58) C dX11_would_58 (v := 1) (by decide) ?_
      refine J_iadd (pc := 59) C dX11_would_59 ?_
      refine J_aload_n (pc := 60) C dX11_would_60 rfl 0 rfl ?_
      refine J_getI (pc := 61) C dX11_would_61 (ci := 11) (k0 := 11) rfl iX11 (by decide) k_1014 hf (fun x26 hf => ?_)
      refine J_icmp_ge (pc := 64) C dX11_would_64 (tgt := 89) (by decide) hf (fun _ hf => ?_) (fun _ hf => ?_)
      · refine J_goto (pc := 89) C dX11_would_89 (tgt := 127) (by decide) ?_
        refine J_sub [0, 1, 2, 3] (L1 := [(0, .ref v0), (2, .int v2), (3, .int v3), (4, .int v4)]) rfl ?_
        exact B127 w v0 v2 v3 v4 hf
      · refine J_aload_n (pc := 67) C dX11_would_67 rfl 0 rfl ?_
        refine J_getR (pc := 68) C dX11_would_68 (ci := 11) (k0 := 10) rfl iX11 (by decide) k_1013 hf (fun x27 hf => ?_)
        refine J_iload (pc := 71) C dX11_would_71 4 rfl ?_
        refine J_aload_n (pc := 73) C dX11_would_73 rfl 0 rfl ?_
        refine J_getR (pc := 74) C dX11_would_74 (ci := 11) (k0 := 10) rfl iX11 (by decide) k_1013 hf (fun x28 hf => ?_)
        refine J_iload (pc := 77) C dX11_would_77 4 rfl ?_
        refine J_iconst (pc := 79) C dX11_would_79 (v := 1) (by decide) ?_
        refine J_iadd (pc := 80) C dX11_would_80 ?_
        refine J_iald (pc := 81) C dX11_would_81 hf (fun x29 hf => ?_)
        refine J_iast (pc := 82) C dX11_would_82 hf (fun w30 hf => ?_)
        refine J_iinc (pc := 83) C dX11_would_83 4 rfl (y := v5 + 1) rfl (by decide) hf (fun q => [(5, .int q), (0, .ref v0), (2, .int v2), (3, .int v3), (4, .int v4)]) (fun _ => rfl) (fun x31 hf => ?_)
        refine J_goto (pc := 86) C dX11_would_86 (tgt := 56) (by decide) ?_
        refine J_sub [1, 2, 3, 4, 0] (L1 := [(0, .ref v0), (2, .int v2), (3, .int v3), (4, .int v4), (5, .int x31)]) rfl ?_
        exact ih w30 v0 v2 v3 v4 x31 hf
  have B29 : ∀ (w : MW) (v0 : Nat) (v1 : Int32) (v2 : Int32) (v3 : Int32) (s0 : Int32), f_X11_would_29 fu w v0 v1 v2 v3 s0 = some (rr, w') → JW p l e rmX11_would s m args below meth c 6 D dA A E (MQ below (Qr D dA E (some (.int rr)) w' A) args s 0 0 A) 0 0 29 [(0, .ref v0), (1, .int v1), (2, .int v2), (3, .int v3)] [.int s0] w := by
    intro w v0 v1 v2 v3 s0 hf
    rw [f_X11_would_29] at hf
    refine J_iload_n (pc := 29) C dX11_would_29 rfl 3 rfl ?_
    refine J_icmp_eq (pc := 30) C dX11_would_30 (tgt := 35) (by decide) hf (fun _ hf => ?_) (fun _ hf => ?_)
    · refine J_aload_n (pc := 35) C dX11_would_35 rfl 0 rfl ?_
      refine J_iload_n (pc := 36) C dX11_would_36 rfl 1 rfl ?_
      obtain ⟨q4, h5, hf⟩ := bind_ok hf
      obtain ⟨_, g6, h5⟩ := cl_spec h5
      refine J_cV (S := []) (pc := 37) C dX11_would_37 (c_X11_laysRow _ _ _ _ h5) k_1247 ys_X11_laysRow ⟨Nat.le_of_ble_eq_true rfl, Nat.le_of_ble_eq_true rfl⟩ ⟨Nat.le_of_ble_eq_true rfl, Nat.le_of_ble_eq_true rfl⟩ g6 rfl rfl (fun _ => Nat.le_of_ble_eq_true rfl) ?_
      refine J_aload_n (pc := 40) C dX11_would_40 rfl 0 rfl ?_
      refine J_iload_n (pc := 41) C dX11_would_41 rfl 1 rfl ?_
      refine J_iload_n (pc := 42) C dX11_would_42 rfl 2 rfl ?_
      obtain ⟨q7, h8, hf⟩ := bind_ok hf
      obtain ⟨_, g9, h8⟩ := cl_spec h8
      refine J_cV (S := []) (pc := 43) C dX11_would_43 (c_X11_below _ _ _ _ _ h8) k_1107 ys_X11_below ⟨Nat.le_of_ble_eq_true rfl, Nat.le_of_ble_eq_true rfl⟩ ⟨Nat.le_of_ble_eq_true rfl, Nat.le_of_ble_eq_true rfl⟩ g9 rfl rfl (fun _ => Nat.le_of_ble_eq_true rfl) ?_
      refine J_istore (pc := 46) C dX11_would_46 (by decide) hf (fun q => [(4, .int q), (0, .ref v0), (1, .int v1), (2, .int v2), (3, .int v3)]) (fun _ => rfl) (fun x10 hf => ?_)
      refine J_iload_n (pc := 48) C dX11_would_48 rfl 4 rfl ?_
      refine J_if_eq (pc := 49) C dX11_would_49 (tgt := 92) (by decide) hf (fun _ hf => ?_) (fun _ hf => ?_)
      · refine J_aload_n (pc := 92) C dX11_would_92 rfl 1 rfl ?_
        refine J_getI (pc := 93) C dX11_would_93 (ci := 11) (k0 := 11) rfl iX11 (by decide) k_1014 hf (fun x11 hf => ?_)
        refine J_istore (pc := 96) C dX11_would_96 (by decide) hf (fun q => [(5, .int q), (4, .int x10), (0, .ref v0), (1, .int v1), (2, .int v2), (3, .int v3)]) (fun _ => rfl) (fun x12 hf => ?_)
        refine J_sub [2, 4, 5, 1, 0] (L1 := [(0, .ref v0), (2, .int v2), (3, .int v3), (4, .int x10), (5, .int x12)]) rfl ?_
        exact B98 fu q4 v0 v2 v3 x10 x12 hf
      · refine J_iload (pc := 52) C dX11_would_52 0 rfl ?_
        refine J_istore (pc := 54) C dX11_would_54 (by decide) hf (fun q => [(5, .int q), (4, .int x10), (0, .ref v0), (1, .int v1), (2, .int v2), (3, .int v3)]) (fun _ => rfl) (fun x25 hf => ?_)
        refine J_sub [2, 4, 5, 1, 0] (L1 := [(0, .ref v0), (2, .int v2), (3, .int v3), (4, .int x10), (5, .int x25)]) rfl ?_
        exact B56 fu q4 v0 v2 v3 x10 x25 hf
    · refine J_iconst (pc := 33) C dX11_would_33 (v := -1) (by decide) ?_
      exact J_iret (pc := 34) C  rfl rfl dX11_would_34 hf
  rw [f_X11_would] at hf
  refine J_sub [0, 1, 2, 3] (L1 := [(0, .ref v0), (1, .int v1), (2, .int v2), (3, .int v3)]) rfl ?_
  refine J_iload_n (pc := 0) C dX11_would_0 rfl 1 rfl ?_
  refine J_cS (S := []) (pc := 1) C dX11_would_1 (c_X11_isSet _ _ rfl) k_1094 ys_X11_isSet ⟨Nat.le_of_ble_eq_true rfl, Nat.le_of_ble_eq_true rfl⟩ ⟨Nat.le_of_ble_eq_true rfl, Nat.le_of_ble_eq_true rfl⟩ rfl rfl (fun _ => Nat.le_of_ble_eq_true rfl) ?_
  refine J_if_eq (pc := 4) C dX11_would_4 (tgt := 33) (by decide) hf (fun _ hf => ?_) (fun _ hf => ?_)
  · refine J_iconst (pc := 33) C dX11_would_33 (v := -1) (by decide) ?_
    exact J_iret (pc := 34) C  rfl rfl dX11_would_34 hf
  · refine J_iload_n (pc := 7) C dX11_would_7 rfl 2 rfl ?_
    refine J_cS (S := []) (pc := 8) C dX11_would_8 (c_X11_isKey _ _ rfl) k_1100 ys_X11_isKey ⟨Nat.le_of_ble_eq_true rfl, Nat.le_of_ble_eq_true rfl⟩ ⟨Nat.le_of_ble_eq_true rfl, Nat.le_of_ble_eq_true rfl⟩ rfl rfl (fun _ => Nat.le_of_ble_eq_true rfl) ?_
    refine J_if_eq (pc := 11) C dX11_would_11 (tgt := 33) (by decide) hf (fun _ hf => ?_) (fun _ hf => ?_)
    · refine J_iconst (pc := 33) C dX11_would_33 (v := -1) (by decide) ?_
      exact J_iret (pc := 34) C  rfl rfl dX11_would_34 hf
    · refine J_aload_n (pc := 14) C dX11_would_14 rfl 0 rfl ?_
      refine J_iload_n (pc := 15) C dX11_would_15 rfl 1 rfl ?_
      refine J_iload_n (pc := 16) C dX11_would_16 rfl 2 rfl ?_
      obtain ⟨q1, h2, hf⟩ := bind_ok hf
      obtain ⟨_, g3, h2⟩ := cl_spec h2
      refine J_cV (S := []) (pc := 17) C dX11_would_17 (c_X11_placeOf _ _ _ _ _ h2) k_1103 ys_X11_placeOf ⟨Nat.le_of_ble_eq_true rfl, Nat.le_of_ble_eq_true rfl⟩ ⟨Nat.le_of_ble_eq_true rfl, Nat.le_of_ble_eq_true rfl⟩ g3 rfl rfl (fun _ => Nat.le_of_ble_eq_true rfl) ?_
      refine J_iconst (pc := 20) C dX11_would_20 (v := -1) (by decide) ?_
      refine J_icmp_eq (pc := 21) C dX11_would_21 (tgt := 28) (by decide) hf (fun _ hf => ?_) (fun _ hf => ?_)
      · refine J_iconst (pc := 28) C dX11_would_28 (v := 0) (by decide) ?_
        refine J_sub [0, 1, 2, 3] (L1 := [(0, .ref v0), (1, .int v1), (2, .int v2), (3, .int v3)]) rfl ?_
        exact B29 w v0 v1 v2 v3 (0 : Int32) hf
      · refine J_iconst (pc := 24) C dX11_would_24 (v := 1) (by decide) ?_
        refine J_goto (pc := 25) C dX11_would_25 (tgt := 29) (by decide) ?_
        refine J_sub [0, 1, 2, 3] (L1 := [(0, .ref v0), (1, .int v1), (2, .int v2), (3, .int v3)]) rfl ?_
        exact B29 w v0 v1 v2 v3 (1 : Int32) hf
set_option maxRecDepth 100000 in
set_option maxHeartbeats 4000000 in
theorem c_X11_halves {l : Launch} {D : va_G} {dA : FieldType → ClassId} (w : MW) (v0 : Nat) (v1 : Int32) {rr : Int32} (hf : f_X11_halves w v0 v1 = some rr) : CT l D dA yX11_halves cX11_halves 2 (some .int) rmX11_halves [.ref v0, .int v1] w (some (.int rr)) w := by
  refine J_met (by decide) rfl (Nat.le_of_ble_eq_true rfl) (fun p e s m args below meth c A E C => ?_)
  rw [f_X11_halves] at hf
  refine J_sub [0, 1] (L1 := [(0, .ref v0), (1, .int v1)]) rfl ?_
  refine J_iload_n (pc := 0) C dX11_halves_0 rfl 1 rfl ?_
  refine J_cS (S := []) (pc := 1) C dX11_halves_1 (c_X11_isSet _ _ rfl) k_1094 ys_X11_isSet ⟨Nat.le_of_ble_eq_true rfl, Nat.le_of_ble_eq_true rfl⟩ ⟨Nat.le_of_ble_eq_true rfl, Nat.le_of_ble_eq_true rfl⟩ rfl rfl (fun _ => Nat.le_of_ble_eq_true rfl) ?_
  refine J_if_eq (pc := 4) C dX11_halves_4 (tgt := 35) (by decide) hf (fun _ hf => ?_) (fun _ hf => ?_)
  · refine J_iconst (pc := 35) C dX11_halves_35 (v := -1) (by decide) ?_
    exact J_iretP (pc := 36) C  rfl rfl dX11_halves_36 hf
  · refine J_aload_n (pc := 7) C dX11_halves_7 rfl 0 rfl ?_
    refine J_iload_n (pc := 8) C dX11_halves_8 rfl 1 rfl ?_
    obtain ⟨q1, h2, hf⟩ := bind_ok hf
    obtain ⟨_, g3, h2⟩ := cl_spec h2
    refine J_cV (S := []) (pc := 9) C dX11_halves_9 (c_X11_many _ _ _ h2) k_1111 ys_X11_many ⟨Nat.le_of_ble_eq_true rfl, Nat.le_of_ble_eq_true rfl⟩ ⟨Nat.le_of_ble_eq_true rfl, Nat.le_of_ble_eq_true rfl⟩ g3 rfl rfl (fun _ => Nat.le_of_ble_eq_true rfl) ?_
    refine J_iconst (pc := 12) C dX11_halves_12 (v := 1) (by decide) ?_
    refine J_icmp_le (pc := 13) C dX11_halves_13 (tgt := 35) (by decide) hf (fun _ hf => ?_) (fun _ hf => ?_)
    · refine J_iconst (pc := 35) C dX11_halves_35 (v := -1) (by decide) ?_
      exact J_iretP (pc := 36) C  rfl rfl dX11_halves_36 hf
    · refine J_aload_n (pc := 16) C dX11_halves_16 rfl 0 rfl ?_
      refine J_iload_n (pc := 17) C dX11_halves_17 rfl 1 rfl ?_
      refine J_aload_n (pc := 18) C dX11_halves_18 rfl 0 rfl ?_
      refine J_iload_n (pc := 19) C dX11_halves_19 rfl 1 rfl ?_
      obtain ⟨q4, h5, hf⟩ := bind_ok hf
      obtain ⟨_, g6, h5⟩ := cl_spec h5
      refine J_cV (S := [.int v1, .ref v0]) (pc := 20) C dX11_halves_20 (c_X11_many _ _ _ h5) k_1111 ys_X11_many ⟨Nat.le_of_ble_eq_true rfl, Nat.le_of_ble_eq_true rfl⟩ ⟨Nat.le_of_ble_eq_true rfl, Nat.le_of_ble_eq_true rfl⟩ g6 rfl rfl (fun _ => Nat.le_of_ble_eq_true rfl) ?_
      refine J_iconst (pc := 23) C dX11_halves_23 (v := 1) (by decide) ?_
      refine J_iadd (pc := 24) C dX11_halves_24 ?_
      refine J_iconst (pc := 25) C dX11_halves_25 (v := 2) (by decide) ?_
      refine J_idivL (pc := 26) C dX11_halves_26 (by decide) ?_
      refine J_iconst (pc := 27) C dX11_halves_27 (v := 1) (by decide) ?_
      refine J_isub (pc := 28) C dX11_halves_28 ?_
      obtain ⟨q7, h8, hf⟩ := bind_ok hf
      obtain ⟨_, g9, h8⟩ := cl_spec h8
      refine J_cV (S := []) (pc := 29) C dX11_halves_29 (c_X11_keyAt _ _ _ _ h8) k_1115 ys_X11_keyAt ⟨Nat.le_of_ble_eq_true rfl, Nat.le_of_ble_eq_true rfl⟩ ⟨Nat.le_of_ble_eq_true rfl, Nat.le_of_ble_eq_true rfl⟩ g9 rfl rfl (fun _ => Nat.le_of_ble_eq_true rfl) ?_
      refine J_goto (pc := 32) C dX11_halves_32 (tgt := 36) (by decide) ?_
      exact J_iretP (pc := 36) C  rfl rfl dX11_halves_36 hf
set_option maxRecDepth 100000 in
set_option maxHeartbeats 4000000 in
theorem c_X11_tells {l : Launch} {D : va_G} {dA : FieldType → ClassId} (w : MW) (v0 : Nat) (v1 : Int32) {w' : MW} (hf : f_X11_tells w v0 v1 = some w') : CT l D dA yX11_tells cX11_tells 2 none rmX11_tells [.ref v0, .int v1] w none w' := by
  refine J_met (by decide) rfl (Nat.le_of_ble_eq_true rfl) (fun p e s m args below meth c A E C => ?_)
  rw [f_X11_tells] at hf
  refine J_sub [0, 1] (L1 := [(0, .ref v0), (1, .int v1)]) rfl ?_
  refine J_aload_n (pc := 0) C dX11_tells_0 rfl 0 rfl ?_
  refine J_getR (pc := 1) C dX11_tells_1 (ci := 11) (k0 := 2) rfl iX11 (by decide) k_1005 hf (fun x1 hf => ?_)
  refine J_aload_n (pc := 4) C dX11_tells_4 rfl 0 rfl ?_
  refine J_getI (pc := 5) C dX11_tells_5 (ci := 11) (k0 := 5) rfl iX11 (by decide) k_1008 hf (fun x2 hf => ?_)
  refine J_iload_n (pc := 8) C dX11_tells_8 rfl 1 rfl ?_
  refine J_iast (pc := 9) C dX11_tells_9 hf (fun w3 hf => ?_)
  refine J_aload_n (pc := 10) C dX11_tells_10 rfl 0 rfl ?_
  refine J_dup (pc := 11) C dX11_tells_11 rfl ?_
  refine J_getI (pc := 12) C dX11_tells_12 (ci := 11) (k0 := 5) rfl iX11 (by decide) k_1008 hf (fun x4 hf => ?_)
  refine J_iconst (pc := 15) C dX11_tells_15 (v := 1) (by decide) ?_
  refine J_iadd (pc := 16) C dX11_tells_16 ?_
  refine J_put (pc := 17) C dX11_tells_17 (ci := 11) (k0 := 5) rfl iX11 tyX11 tyX11_ok nmX11 (by decide) k_1008 rfl (ty := .int) (by decide +kernel) (fun _ => rfl) (fun _ => rfl) hf (fun w5 hf => ?_)
  exact J_vret (pc := 20) C rfl dX11_tells_20 hf
set_option maxRecDepth 100000 in
set_option maxHeartbeats 4000000 in
theorem c_X11_number {l : Launch} {D : va_G} {dA : FieldType → ClassId} (fu : Nat) (w : MW) (v0 : Nat) (v1 : Int32) {w' : MW} (hf : f_X11_number fu w v0 v1 = some w') : CT l D dA yX11_number cX11_number 3 none rmX11_number [.ref v0, .int v1] w none w' := by
  refine J_met (by decide) rfl (Nat.le_of_ble_eq_true rfl) (fun p e s m args below meth c A E C => ?_)
  have B18 : ∀ (n : Nat) (w : MW) (v0 : Nat) (v1 : Int32) (v2 : Int32), f_X11_number_18 fu n w v0 v1 v2 = some w' → JW p l e rmX11_number s m args below meth c 3 D dA A E (MQ below (Qr D dA E none w' A) args s 0 0 A) 0 0 18 [(0, .ref v0), (1, .int v1), (2, .int v2)] [] w := by
    intro n
    induction n with
    | zero => intro w v0 v1 v2 hf; rw [f_X11_number_18] at hf; cases hf
    | succ n ih =>
      intro w v0 v1 v2 hf
      rw [f_X11_number_18] at hf
      refine J_iload_n (pc := 18) C dX11_number_18 rfl 2 rfl ?_
      refine J_if_le (pc := 19) C dX11_number_19 (tgt := 43) (by decide) hf (fun _ hf => ?_) (fun _ hf => ?_)
      · exact J_vret (pc := 43) C rfl dX11_number_43 hf
      · refine J_aload_n (pc := 22) C dX11_number_22 rfl 0 rfl ?_
        refine J_bipush (pc := 23) C dX11_number_23 (v := 48) (by decide) ?_
        refine J_iload_n (pc := 25) C dX11_number_25 rfl 1 rfl ?_
        refine J_iload_n (pc := 26) C dX11_number_26 rfl 2 rfl ?_
        refine J_idiv (pc := 27) C dX11_number_27 hf (fun x3 hf => ?_)
        refine J_bipush (pc := 28) C dX11_number_28 (v := 10) (by decide) ?_
        refine J_iremL (pc := 30) C dX11_number_30 (by decide) ?_
        refine J_iadd (pc := 31) C dX11_number_31 ?_
        obtain ⟨q4, h5, hf⟩ := bind_ok hf
        obtain ⟨_, g6, h5⟩ := cl_spec h5
        refine J_cV (S := []) (pc := 32) C dX11_number_32 (c_X11_tells _ _ _ h5) k_1353 ys_X11_tells ⟨Nat.le_of_ble_eq_true rfl, Nat.le_of_ble_eq_true rfl⟩ ⟨Nat.le_of_ble_eq_true rfl, Nat.le_of_ble_eq_true rfl⟩ g6 rfl rfl (fun _ => Nat.le_of_ble_eq_true rfl) ?_
        refine J_iload_n (pc := 35) C dX11_number_35 rfl 2 rfl ?_
        refine J_bipush (pc := 36) C dX11_number_36 (v := 10) (by decide) ?_
        refine J_idivL (pc := 38) C dX11_number_38 (by decide) ?_
        refine J_istore_n (pc := 39) C dX11_number_39 rfl (by decide) hf (fun q => [(2, .int q), (0, .ref v0), (1, .int v1)]) (fun _ => rfl) (fun x7 hf => ?_)
        refine J_goto (pc := 40) C dX11_number_40 (tgt := 18) (by decide) ?_
        refine J_sub [1, 2, 0] (L1 := [(0, .ref v0), (1, .int v1), (2, .int x7)]) rfl ?_
        exact ih q4 v0 v1 x7 hf
  have B2 : ∀ (n : Nat) (w : MW) (v0 : Nat) (v1 : Int32) (v2 : Int32), f_X11_number_2 fu n w v0 v1 v2 = some w' → JW p l e rmX11_number s m args below meth c 3 D dA A E (MQ below (Qr D dA E none w' A) args s 0 0 A) 0 0 2 [(0, .ref v0), (1, .int v1), (2, .int v2)] [] w := by
    intro n
    induction n with
    | zero => intro w v0 v1 v2 hf; rw [f_X11_number_2] at hf; cases hf
    | succ n ih =>
      intro w v0 v1 v2 hf
      rw [f_X11_number_2] at hf
      refine J_iload_n (pc := 2) C dX11_number_2 rfl 1 rfl ?_
      refine J_iload_n (pc := 3) C dX11_number_3 rfl 2 rfl ?_
      refine J_idiv (pc := 4) C dX11_number_4 hf (fun x2 hf => ?_)
      refine J_bipush (pc := 5) C dX11_number_5 (v := 9) (by decide) ?_
      refine J_icmp_le (pc := 7) C dX11_number_7 (tgt := 18) (by decide) hf (fun _ hf => ?_) (fun _ hf => ?_)
      · refine J_sub [0, 1, 2] (L1 := [(0, .ref v0), (1, .int v1), (2, .int v2)]) rfl ?_
        exact B18 fu w v0 v1 v2 hf
      · refine J_iload_n (pc := 10) C dX11_number_10 rfl 2 rfl ?_
        refine J_bipush (pc := 11) C dX11_number_11 (v := 10) (by decide) ?_
        refine J_imul (pc := 13) C dX11_number_13 ?_
        refine J_istore_n (pc := 14) C dX11_number_14 rfl (by decide) hf (fun q => [(2, .int q), (0, .ref v0), (1, .int v1)]) (fun _ => rfl) (fun x8 hf => ?_)
        refine J_goto (pc := 15) C dX11_number_15 (tgt := 2) (by decide) ?_
        refine J_sub [1, 2, 0] (L1 := [(0, .ref v0), (1, .int v1), (2, .int x8)]) rfl ?_
        exact ih w v0 v1 x8 hf
  rw [f_X11_number] at hf
  refine J_sub [0, 1] (L1 := [(0, .ref v0), (1, .int v1)]) rfl ?_
  refine J_iconst (pc := 0) C dX11_number_0 (v := 1) (by decide) ?_
  refine J_istore_n (pc := 1) C dX11_number_1 rfl (by decide) hf (fun q => [(2, .int q), (0, .ref v0), (1, .int v1)]) (fun _ => rfl) (fun x1 hf => ?_)
  refine J_sub [1, 2, 0] (L1 := [(0, .ref v0), (1, .int v1), (2, .int x1)]) rfl ?_
  exact B2 fu w v0 v1 x1 hf
set_option maxRecDepth 100000 in
set_option maxHeartbeats 4000000 in
theorem c_X11_tell {l : Launch} {D : va_G} {dA : FieldType → ClassId} (fu : Nat) (w : MW) (v0 : Nat) (v1 : Int32) {rr : Int32} {w' : MW} (hf : f_X11_tell fu w v0 v1 = some (rr, w')) : CT l D dA yX11_tell cX11_tell 4 (some .int) rmX11_tell [.ref v0, .int v1] w (some (.int rr)) w' := by
  refine J_met (by decide) rfl (Nat.le_of_ble_eq_true rfl) (fun p e s m args below meth c A E C => ?_)
  have B146 : ∀ (lr16 : MW → Nat → Int32 → Int32 → Option (Int32 × MW)) (lh16 : ∀ (w : MW) (v0 : Nat) (v1 : Int32) (v2 : Int32), lr16 w v0 v1 v2 = some (rr, w') → JW p l e rmX11_tell s m args below meth c 4 D dA A E (MQ below (Qr D dA E (some (.int rr)) w' A) args s 0 0 A) 0 0 16 [(0, .ref v0), (1, .int v1), (2, .int v2)] [] w) (w : MW) (v0 : Nat) (v1 : Int32) (v3 : Int32), f_X11_tell_146 fu lr16 w v0 v1 v3 = some (rr, w') → JW p l e rmX11_tell s m args below meth c 4 D dA A E (MQ below (Qr D dA E (some (.int rr)) w' A) args s 0 0 A) 0 0 146 [(0, .ref v0), (1, .int v1), (3, .int v3)] [] w := by
    intro lr16 lh16 w v0 v1 v3 hf
    rw [f_X11_tell_146] at hf
    refine J_iload_n (pc := 146) C dX11_tell_146 rfl 2 rfl ?_
    refine J_istore_n (pc := 147) C dX11_tell_147 rfl (by decide) hf (fun q => [(2, .int q), (0, .ref v0), (1, .int v1), (3, .int v3)]) (fun _ => rfl) (fun x20 hf => ?_)
    refine J_iinc (pc := 148) C dX11_tell_148 0 rfl (y := x20 + 1) rfl (by decide) hf (fun q => [(2, .int q), (0, .ref v0), (1, .int v1), (3, .int v3)]) (fun _ => rfl) (fun x21 hf => ?_)
    refine J_goto (pc := 151) C dX11_tell_151 (tgt := 16) (by decide) ?_
    refine J_sub [1, 2, 0] (L1 := [(0, .ref v0), (1, .int v1), (2, .int x21)]) rfl ?_
    exact lh16 w v0 v1 x21 hf
  have B130 : ∀ (lr16 : MW → Nat → Int32 → Int32 → Option (Int32 × MW)) (lh16 : ∀ (w : MW) (v0 : Nat) (v1 : Int32) (v2 : Int32), lr16 w v0 v1 v2 = some (rr, w') → JW p l e rmX11_tell s m args below meth c 4 D dA A E (MQ below (Qr D dA E (some (.int rr)) w' A) args s 0 0 A) 0 0 16 [(0, .ref v0), (1, .int v1), (2, .int v2)] [] w) (w : MW) (v0 : Nat) (v1 : Int32) (v2 : Int32) (v3 : Int32), f_X11_tell_130 fu lr16 w v0 v1 v2 v3 = some (rr, w') → JW p l e rmX11_tell s m args below meth c 4 D dA A E (MQ below (Qr D dA E (some (.int rr)) w' A) args s 0 0 A) 0 0 130 [(0, .ref v0), (1, .int v1), (2, .int v2), (3, .int v3)] [] w := by
    intro lr16 lh16 w v0 v1 v2 v3 hf
    rw [f_X11_tell_130] at hf
    refine J_aload_n (pc := 130) C dX11_tell_130 rfl 0 rfl ?_
    refine J_iload_n (pc := 131) C dX11_tell_131 rfl 1 rfl ?_
    refine J_iload_n (pc := 132) C dX11_tell_132 rfl 2 rfl ?_
    obtain ⟨q17, h18, hf⟩ := bind_ok hf
    obtain ⟨_, g19, h18⟩ := cl_spec h18
    refine J_cV (S := []) (pc := 133) C dX11_tell_133 (c_X11_markAt _ _ _ _ h18) k_1171 ys_X11_markAt ⟨Nat.le_of_ble_eq_true rfl, Nat.le_of_ble_eq_true rfl⟩ ⟨Nat.le_of_ble_eq_true rfl, Nat.le_of_ble_eq_true rfl⟩ g19 rfl rfl (fun _ => Nat.le_of_ble_eq_true rfl) ?_
    refine J_iconst (pc := 136) C dX11_tell_136 (v := 1) (by decide) ?_
    refine J_icmp_ne (pc := 137) C dX11_tell_137 (tgt := 146) (by decide) hf (fun _ hf => ?_) (fun _ hf => ?_)
    · refine J_sub [0, 1, 3] (L1 := [(0, .ref v0), (1, .int v1), (3, .int v3)]) rfl ?_
      exact B146 lr16 lh16 w v0 v1 v3 hf
    · refine J_aload_n (pc := 140) C dX11_tell_140 rfl 0 rfl ?_
      refine J_bipush (pc := 141) C dX11_tell_141 (v := 42) (by decide) ?_
      obtain ⟨q22, h23, hf⟩ := bind_ok hf
      obtain ⟨_, g24, h23⟩ := cl_spec h23
      refine J_cV (S := []) (pc := 143) C dX11_tell_143 (c_X11_tells _ _ _ h23) k_1353 ys_X11_tells ⟨Nat.le_of_ble_eq_true rfl, Nat.le_of_ble_eq_true rfl⟩ ⟨Nat.le_of_ble_eq_true rfl, Nat.le_of_ble_eq_true rfl⟩ g24 rfl rfl (fun _ => Nat.le_of_ble_eq_true rfl) ?_
      refine J_sub [0, 1, 3] (L1 := [(0, .ref v0), (1, .int v1), (3, .int v3)]) rfl ?_
      exact B146 lr16 lh16 q22 v0 v1 v3 hf
  have B99 : ∀ (lr16 : MW → Nat → Int32 → Int32 → Option (Int32 × MW)) (lh16 : ∀ (w : MW) (v0 : Nat) (v1 : Int32) (v2 : Int32), lr16 w v0 v1 v2 = some (rr, w') → JW p l e rmX11_tell s m args below meth c 4 D dA A E (MQ below (Qr D dA E (some (.int rr)) w' A) args s 0 0 A) 0 0 16 [(0, .ref v0), (1, .int v1), (2, .int v2)] [] w) (w : MW) (v0 : Nat) (v1 : Int32) (v2 : Int32) (v3 : Int32), f_X11_tell_99 fu lr16 w v0 v1 v2 v3 = some (rr, w') → JW p l e rmX11_tell s m args below meth c 4 D dA A E (MQ below (Qr D dA E (some (.int rr)) w' A) args s 0 0 A) 0 0 99 [(0, .ref v0), (1, .int v1), (2, .int v2), (3, .int v3)] [] w := by
    intro lr16 lh16 w v0 v1 v2 v3 hf
    rw [f_X11_tell_99] at hf
    refine J_aload_n (pc := 99) C dX11_tell_99 rfl 0 rfl ?_
    refine J_aload_n (pc := 100) C dX11_tell_100 rfl 0 rfl ?_
    refine J_iload_n (pc := 101) C dX11_tell_101 rfl 1 rfl ?_
    refine J_iload_n (pc := 102) C dX11_tell_102 rfl 2 rfl ?_
    obtain ⟨q11, h12, hf⟩ := bind_ok hf
    obtain ⟨_, g13, h12⟩ := cl_spec h12
    refine J_cV (S := [.ref v0]) (pc := 103) C dX11_tell_103 (c_X11_keyAt _ _ _ _ h12) k_1115 ys_X11_keyAt ⟨Nat.le_of_ble_eq_true rfl, Nat.le_of_ble_eq_true rfl⟩ ⟨Nat.le_of_ble_eq_true rfl, Nat.le_of_ble_eq_true rfl⟩ g13 rfl rfl (fun _ => Nat.le_of_ble_eq_true rfl) ?_
    obtain ⟨q14, h15, hf⟩ := bind_ok hf
    obtain ⟨_, g16, h15⟩ := cl_spec h15
    refine J_cV (S := []) (pc := 106) C dX11_tell_106 (c_X11_number _ _ _ _ h15) k_1357 ys_X11_number ⟨Nat.le_of_ble_eq_true rfl, Nat.le_of_ble_eq_true rfl⟩ ⟨Nat.le_of_ble_eq_true rfl, Nat.le_of_ble_eq_true rfl⟩ g16 rfl rfl (fun _ => Nat.le_of_ble_eq_true rfl) ?_
    refine J_iload_n (pc := 109) C dX11_tell_109 rfl 3 rfl ?_
    refine J_iload_n (pc := 110) C dX11_tell_110 rfl 2 rfl ?_
    refine J_icmp_le (pc := 111) C dX11_tell_111 (tgt := 130) (by decide) hf (fun _ hf => ?_) (fun _ hf => ?_)
    · refine J_sub [0, 1, 2, 3] (L1 := [(0, .ref v0), (1, .int v1), (2, .int v2), (3, .int v3)]) rfl ?_
      exact B130 lr16 lh16 q14 v0 v1 v2 v3 hf
    · refine J_aload_n (pc := 114) C dX11_tell_114 rfl 0 rfl ?_
      refine J_bipush (pc := 115) C dX11_tell_115 (v := 45) (by decide) ?_
      obtain ⟨q25, h26, hf⟩ := bind_ok hf
      obtain ⟨_, g27, h26⟩ := cl_spec h26
      refine J_cV (S := []) (pc := 117) C dX11_tell_117 (c_X11_tells _ _ _ h26) k_1353 ys_X11_tells ⟨Nat.le_of_ble_eq_true rfl, Nat.le_of_ble_eq_true rfl⟩ ⟨Nat.le_of_ble_eq_true rfl, Nat.le_of_ble_eq_true rfl⟩ g27 rfl rfl (fun _ => Nat.le_of_ble_eq_true rfl) ?_
      refine J_aload_n (pc := 120) C dX11_tell_120 rfl 0 rfl ?_
      refine J_aload_n (pc := 121) C dX11_tell_121 rfl 0 rfl ?_
      refine J_iload_n (pc := 122) C dX11_tell_122 rfl 1 rfl ?_
      refine J_iload_n (pc := 123) C dX11_tell_123 rfl 3 rfl ?_
      obtain ⟨q28, h29, hf⟩ := bind_ok hf
      obtain ⟨_, g30, h29⟩ := cl_spec h29
      refine J_cV (S := [.ref v0]) (pc := 124) C dX11_tell_124 (c_X11_keyAt _ _ _ _ h29) k_1115 ys_X11_keyAt ⟨Nat.le_of_ble_eq_true rfl, Nat.le_of_ble_eq_true rfl⟩ ⟨Nat.le_of_ble_eq_true rfl, Nat.le_of_ble_eq_true rfl⟩ g30 rfl rfl (fun _ => Nat.le_of_ble_eq_true rfl) ?_
      obtain ⟨q31, h32, hf⟩ := bind_ok hf
      obtain ⟨_, g33, h32⟩ := cl_spec h32
      refine J_cV (S := []) (pc := 127) C dX11_tell_127 (c_X11_number _ _ _ _ h32) k_1357 ys_X11_number ⟨Nat.le_of_ble_eq_true rfl, Nat.le_of_ble_eq_true rfl⟩ ⟨Nat.le_of_ble_eq_true rfl, Nat.le_of_ble_eq_true rfl⟩ g33 rfl rfl (fun _ => Nat.le_of_ble_eq_true rfl) ?_
      refine J_sub [0, 1, 2, 3] (L1 := [(0, .ref v0), (1, .int v1), (2, .int v2), (3, .int v3)]) rfl ?_
      exact B130 lr16 lh16 q31 v0 v1 v2 v3 hf
  have B89 : ∀ (lr16 : MW → Nat → Int32 → Int32 → Option (Int32 × MW)) (lh16 : ∀ (w : MW) (v0 : Nat) (v1 : Int32) (v2 : Int32), lr16 w v0 v1 v2 = some (rr, w') → JW p l e rmX11_tell s m args below meth c 4 D dA A E (MQ below (Qr D dA E (some (.int rr)) w' A) args s 0 0 A) 0 0 16 [(0, .ref v0), (1, .int v1), (2, .int v2)] [] w) (w : MW) (v0 : Nat) (v1 : Int32) (v2 : Int32) (v3 : Int32), f_X11_tell_89 fu lr16 w v0 v1 v2 v3 = some (rr, w') → JW p l e rmX11_tell s m args below meth c 4 D dA A E (MQ below (Qr D dA E (some (.int rr)) w' A) args s 0 0 A) 0 0 89 [(0, .ref v0), (1, .int v1), (2, .int v2), (3, .int v3)] [] w := by
    intro lr16 lh16 w v0 v1 v2 v3 hf
    rw [f_X11_tell_89] at hf
    refine J_iload_n (pc := 89) C dX11_tell_89 rfl 2 rfl ?_
    refine J_if_le (pc := 90) C dX11_tell_90 (tgt := 99) (by decide) hf (fun _ hf => ?_) (fun _ hf => ?_)
    · refine J_sub [0, 1, 2, 3] (L1 := [(0, .ref v0), (1, .int v1), (2, .int v2), (3, .int v3)]) rfl ?_
      exact B99 lr16 lh16 w v0 v1 v2 v3 hf
    · refine J_aload_n (pc := 93) C dX11_tell_93 rfl 0 rfl ?_
      refine J_bipush (pc := 94) C dX11_tell_94 (v := 32) (by decide) ?_
      obtain ⟨q34, h35, hf⟩ := bind_ok hf
      obtain ⟨_, g36, h35⟩ := cl_spec h35
      refine J_cV (S := []) (pc := 96) C dX11_tell_96 (c_X11_tells _ _ _ h35) k_1353 ys_X11_tells ⟨Nat.le_of_ble_eq_true rfl, Nat.le_of_ble_eq_true rfl⟩ ⟨Nat.le_of_ble_eq_true rfl, Nat.le_of_ble_eq_true rfl⟩ g36 rfl rfl (fun _ => Nat.le_of_ble_eq_true rfl) ?_
      refine J_sub [0, 1, 2, 3] (L1 := [(0, .ref v0), (1, .int v1), (2, .int v2), (3, .int v3)]) rfl ?_
      exact B99 lr16 lh16 q34 v0 v1 v2 v3 hf
  have B80 : ∀ (lr16 : MW → Nat → Int32 → Int32 → Option (Int32 × MW)) (lh16 : ∀ (w : MW) (v0 : Nat) (v1 : Int32) (v2 : Int32), lr16 w v0 v1 v2 = some (rr, w') → JW p l e rmX11_tell s m args below meth c 4 D dA A E (MQ below (Qr D dA E (some (.int rr)) w' A) args s 0 0 A) 0 0 16 [(0, .ref v0), (1, .int v1), (2, .int v2)] [] w) (w : MW) (v0 : Nat) (v1 : Int32) (v2 : Int32) (v3 : Int32), f_X11_tell_80 fu lr16 w v0 v1 v2 v3 = some (rr, w') → JW p l e rmX11_tell s m args below meth c 4 D dA A E (MQ below (Qr D dA E (some (.int rr)) w' A) args s 0 0 A) 0 0 80 [(0, .ref v0), (1, .int v1), (2, .int v2), (3, .int v3)] [] w := by
    intro lr16 lh16 w v0 v1 v2 v3 hf
    rw [f_X11_tell_80] at hf
    refine J_iload_n (pc := 80) C dX11_tell_80 rfl 3 rfl ?_
    refine J_iload_n (pc := 81) C dX11_tell_81 rfl 2 rfl ?_
    refine J_isub (pc := 82) C dX11_tell_82 ?_
    refine J_iconst (pc := 83) C dX11_tell_83 (v := 2) (by decide) ?_
    refine J_icmp_ge (pc := 84) C dX11_tell_84 (tgt := 89) (by decide) hf (fun _ hf => ?_) (fun _ hf => ?_)
    · refine J_sub [0, 1, 2, 3] (L1 := [(0, .ref v0), (1, .int v1), (2, .int v2), (3, .int v3)]) rfl ?_
      exact B89 lr16 lh16 w v0 v1 v2 v3 hf
    · refine J_iload_n (pc := 87) C dX11_tell_87 rfl 2 rfl ?_
      refine J_istore_n (pc := 88) C dX11_tell_88 rfl (by decide) hf (fun q => [(3, .int q), (0, .ref v0), (1, .int v1), (2, .int v2)]) (fun _ => rfl) (fun x37 hf => ?_)
      refine J_sub [1, 2, 3, 0] (L1 := [(0, .ref v0), (1, .int v1), (2, .int v2), (3, .int x37)]) rfl ?_
      exact B89 lr16 lh16 w v0 v1 v2 x37 hf
  have B27 : ∀ (lr16 : MW → Nat → Int32 → Int32 → Option (Int32 × MW)) (lh16 : ∀ (w : MW) (v0 : Nat) (v1 : Int32) (v2 : Int32), lr16 w v0 v1 v2 = some (rr, w') → JW p l e rmX11_tell s m args below meth c 4 D dA A E (MQ below (Qr D dA E (some (.int rr)) w' A) args s 0 0 A) 0 0 16 [(0, .ref v0), (1, .int v1), (2, .int v2)] [] w) (n : Nat) (w : MW) (v0 : Nat) (v1 : Int32) (v2 : Int32) (v3 : Int32), f_X11_tell_27 fu lr16 n w v0 v1 v2 v3 = some (rr, w') → JW p l e rmX11_tell s m args below meth c 4 D dA A E (MQ below (Qr D dA E (some (.int rr)) w' A) args s 0 0 A) 0 0 27 [(0, .ref v0), (1, .int v1), (2, .int v2), (3, .int v3)] [] w := by
    intro lr16 lh16 n
    induction n with
    | zero => intro w v0 v1 v2 v3 hf; rw [f_X11_tell_27] at hf; cases hf
    | succ n ih =>
      intro w v0 v1 v2 v3 hf
      rw [f_X11_tell_27] at hf
      refine J_iload_n (pc := 27) C dX11_tell_27 rfl 3 rfl ?_
      refine J_iconst (pc := 28) C dX11_tell_28 (v := 1) (by decide) ?_
      refine J_iadd (pc := 29) C dX11_tell_29 ?_
      refine J_aload_n (pc := 30) C dX11_tell_30 rfl 0 rfl ?_
      refine J_iload_n (pc := 31) C dX11_tell_31 rfl 1 rfl ?_
      obtain ⟨q8, h9, hf⟩ := bind_ok hf
      obtain ⟨_, g10, h9⟩ := cl_spec h9
      refine J_cV (S := [.int (v3 + (1 : Int32))]) (pc := 32) C dX11_tell_32 (c_X11_many _ _ _ h9) k_1111 ys_X11_many ⟨Nat.le_of_ble_eq_true rfl, Nat.le_of_ble_eq_true rfl⟩ ⟨Nat.le_of_ble_eq_true rfl, Nat.le_of_ble_eq_true rfl⟩ g10 rfl rfl (fun _ => Nat.le_of_ble_eq_true rfl) ?_
      refine J_icmp_ge (pc := 35) C dX11_tell_35 (tgt := 80) (by decide) hf (fun _ hf => ?_) (fun _ hf => ?_)
      · refine J_sub [0, 1, 2, 3] (L1 := [(0, .ref v0), (1, .int v1), (2, .int v2), (3, .int v3)]) rfl ?_
        exact B80 lr16 lh16 w v0 v1 v2 v3 hf
      · refine J_aload_n (pc := 38) C dX11_tell_38 rfl 0 rfl ?_
        refine J_iload_n (pc := 39) C dX11_tell_39 rfl 1 rfl ?_
        refine J_iload_n (pc := 40) C dX11_tell_40 rfl 3 rfl ?_
        refine J_iconst (pc := 41) C dX11_tell_41 (v := 1) (by decide) ?_
        refine J_iadd (pc := 42) C dX11_tell_42 ?_
        obtain ⟨q38, h39, hf⟩ := bind_ok hf
        obtain ⟨_, g40, h39⟩ := cl_spec h39
        refine J_cV (S := []) (pc := 43) C dX11_tell_43 (c_X11_keyAt _ _ _ _ h39) k_1115 ys_X11_keyAt ⟨Nat.le_of_ble_eq_true rfl, Nat.le_of_ble_eq_true rfl⟩ ⟨Nat.le_of_ble_eq_true rfl, Nat.le_of_ble_eq_true rfl⟩ g40 rfl rfl (fun _ => Nat.le_of_ble_eq_true rfl) ?_
        refine J_aload_n (pc := 46) C dX11_tell_46 rfl 0 rfl ?_
        refine J_iload_n (pc := 47) C dX11_tell_47 rfl 1 rfl ?_
        refine J_iload_n (pc := 48) C dX11_tell_48 rfl 3 rfl ?_
        obtain ⟨q41, h42, hf⟩ := bind_ok hf
        obtain ⟨_, g43, h42⟩ := cl_spec h42
        refine J_cV (S := [.int q38]) (pc := 49) C dX11_tell_49 (c_X11_keyAt _ _ _ _ h42) k_1115 ys_X11_keyAt ⟨Nat.le_of_ble_eq_true rfl, Nat.le_of_ble_eq_true rfl⟩ ⟨Nat.le_of_ble_eq_true rfl, Nat.le_of_ble_eq_true rfl⟩ g43 rfl rfl (fun _ => Nat.le_of_ble_eq_true rfl) ?_
        refine J_iconst (pc := 52) C dX11_tell_52 (v := 1) (by decide) ?_
        refine J_iadd (pc := 53) C dX11_tell_53 ?_
        refine J_icmp_ne (pc := 54) C dX11_tell_54 (tgt := 80) (by decide) hf (fun _ hf => ?_) (fun _ hf => ?_)
        · refine J_sub [0, 1, 2, 3] (L1 := [(0, .ref v0), (1, .int v1), (2, .int v2), (3, .int v3)]) rfl ?_
          exact B80 lr16 lh16 w v0 v1 v2 v3 hf
        · refine J_aload_n (pc := 57) C dX11_tell_57 rfl 0 rfl ?_
          refine J_iload_n (pc := 58) C dX11_tell_58 rfl 1 rfl ?_
          refine J_iload_n (pc := 59) C dX11_tell_59 rfl 3 rfl ?_
          refine J_iconst (pc := 60) C dX11_tell_60 (v := 1) (by decide) ?_
          refine J_iadd (pc := 61) C dX11_tell_61 ?_
          obtain ⟨q44, h45, hf⟩ := bind_ok hf
          obtain ⟨_, g46, h45⟩ := cl_spec h45
          refine J_cV (S := []) (pc := 62) C dX11_tell_62 (c_X11_markAt _ _ _ _ h45) k_1171 ys_X11_markAt ⟨Nat.le_of_ble_eq_true rfl, Nat.le_of_ble_eq_true rfl⟩ ⟨Nat.le_of_ble_eq_true rfl, Nat.le_of_ble_eq_true rfl⟩ g46 rfl rfl (fun _ => Nat.le_of_ble_eq_true rfl) ?_
          refine J_aload_n (pc := 65) C dX11_tell_65 rfl 0 rfl ?_
          refine J_iload_n (pc := 66) C dX11_tell_66 rfl 1 rfl ?_
          refine J_iload_n (pc := 67) C dX11_tell_67 rfl 2 rfl ?_
          obtain ⟨q47, h48, hf⟩ := bind_ok hf
          obtain ⟨_, g49, h48⟩ := cl_spec h48
          refine J_cV (S := [.int q44]) (pc := 68) C dX11_tell_68 (c_X11_markAt _ _ _ _ h48) k_1171 ys_X11_markAt ⟨Nat.le_of_ble_eq_true rfl, Nat.le_of_ble_eq_true rfl⟩ ⟨Nat.le_of_ble_eq_true rfl, Nat.le_of_ble_eq_true rfl⟩ g49 rfl rfl (fun _ => Nat.le_of_ble_eq_true rfl) ?_
          refine J_icmp_ne (pc := 71) C dX11_tell_71 (tgt := 80) (by decide) hf (fun _ hf => ?_) (fun _ hf => ?_)
          · refine J_sub [0, 1, 2, 3] (L1 := [(0, .ref v0), (1, .int v1), (2, .int v2), (3, .int v3)]) rfl ?_
            exact B80 lr16 lh16 w v0 v1 v2 v3 hf
          · refine J_iinc (pc := 74) C dX11_tell_74 3 rfl (y := v3 + 1) rfl (by decide) hf (fun q => [(3, .int q), (0, .ref v0), (1, .int v1), (2, .int v2)]) (fun _ => rfl) (fun x50 hf => ?_)
            refine J_goto (pc := 77) C dX11_tell_77 (tgt := 27) (by decide) ?_
            refine J_sub [1, 2, 3, 0] (L1 := [(0, .ref v0), (1, .int v1), (2, .int v2), (3, .int x50)]) rfl ?_
            exact ih w v0 v1 v2 x50 hf
  have B16 : ∀ (n : Nat) (w : MW) (v0 : Nat) (v1 : Int32) (v2 : Int32), f_X11_tell_16 fu n w v0 v1 v2 = some (rr, w') → JW p l e rmX11_tell s m args below meth c 4 D dA A E (MQ below (Qr D dA E (some (.int rr)) w' A) args s 0 0 A) 0 0 16 [(0, .ref v0), (1, .int v1), (2, .int v2)] [] w := by
    intro n
    induction n with
    | zero => intro w v0 v1 v2 hf; rw [f_X11_tell_16] at hf; cases hf
    | succ n ih =>
      intro w v0 v1 v2 hf
      rw [f_X11_tell_16] at hf
      refine J_iload_n (pc := 16) C dX11_tell_16 rfl 2 rfl ?_
      refine J_aload_n (pc := 17) C dX11_tell_17 rfl 0 rfl ?_
      refine J_iload_n (pc := 18) C dX11_tell_18 rfl 1 rfl ?_
      obtain ⟨q3, h4, hf⟩ := bind_ok hf
      obtain ⟨_, g5, h4⟩ := cl_spec h4
      refine J_cV (S := [.int v2]) (pc := 19) C dX11_tell_19 (c_X11_many _ _ _ h4) k_1111 ys_X11_many ⟨Nat.le_of_ble_eq_true rfl, Nat.le_of_ble_eq_true rfl⟩ ⟨Nat.le_of_ble_eq_true rfl, Nat.le_of_ble_eq_true rfl⟩ g5 rfl rfl (fun _ => Nat.le_of_ble_eq_true rfl) ?_
      refine J_icmp_ge (pc := 22) C dX11_tell_22 (tgt := 154) (by decide) hf (fun _ hf => ?_) (fun _ hf => ?_)
      · refine J_aload_n (pc := 154) C dX11_tell_154 rfl 0 rfl ?_
        refine J_getI (pc := 155) C dX11_tell_155 (ci := 11) (k0 := 5) rfl iX11 (by decide) k_1008 hf (fun x6 hf => ?_)
        exact J_iret (pc := 158) C  rfl rfl dX11_tell_158 hf
      · refine J_iload_n (pc := 25) C dX11_tell_25 rfl 2 rfl ?_
        refine J_istore_n (pc := 26) C dX11_tell_26 rfl (by decide) hf (fun q => [(3, .int q), (0, .ref v0), (1, .int v1), (2, .int v2)]) (fun _ => rfl) (fun x7 hf => ?_)
        refine J_sub [1, 2, 3, 0] (L1 := [(0, .ref v0), (1, .int v1), (2, .int v2), (3, .int x7)]) rfl ?_
        exact B27 (f_X11_tell_16 fu n) ih fu w v0 v1 v2 x7 hf
  rw [f_X11_tell] at hf
  refine J_sub [0, 1] (L1 := [(0, .ref v0), (1, .int v1)]) rfl ?_
  refine J_iload_n (pc := 0) C dX11_tell_0 rfl 1 rfl ?_
  refine J_cS (S := []) (pc := 1) C dX11_tell_1 (c_X11_isSet _ _ rfl) k_1094 ys_X11_isSet ⟨Nat.le_of_ble_eq_true rfl, Nat.le_of_ble_eq_true rfl⟩ ⟨Nat.le_of_ble_eq_true rfl, Nat.le_of_ble_eq_true rfl⟩ rfl rfl (fun _ => Nat.le_of_ble_eq_true rfl) ?_
  refine J_if_ne (pc := 4) C dX11_tell_4 (tgt := 9) (by decide) hf (fun _ hf => ?_) (fun _ hf => ?_)
  · refine J_aload_n (pc := 9) C dX11_tell_9 rfl 0 rfl ?_
    refine J_iconst (pc := 10) C dX11_tell_10 (v := 0) (by decide) ?_
    refine J_put (pc := 11) C dX11_tell_11 (ci := 11) (k0 := 5) rfl iX11 tyX11 tyX11_ok nmX11 (by decide) k_1008 rfl (ty := .int) (by decide +kernel) (fun _ => rfl) (fun _ => rfl) hf (fun w1 hf => ?_)
    refine J_iconst (pc := 14) C dX11_tell_14 (v := 0) (by decide) ?_
    refine J_istore_n (pc := 15) C dX11_tell_15 rfl (by decide) hf (fun q => [(2, .int q), (0, .ref v0), (1, .int v1)]) (fun _ => rfl) (fun x2 hf => ?_)
    refine J_sub [1, 2, 0] (L1 := [(0, .ref v0), (1, .int v1), (2, .int x2)]) rfl ?_
    exact B16 fu w1 v0 v1 x2 hf
  · refine J_iconst (pc := 7) C dX11_tell_7 (v := -1) (by decide) ?_
    exact J_iret (pc := 8) C  rfl rfl dX11_tell_8 hf
set_option maxRecDepth 100000 in
set_option maxHeartbeats 4000000 in
theorem c_X11_octet {l : Launch} {D : va_G} {dA : FieldType → ClassId} (w : MW) (v0 : Nat) (v1 : Int32) {rr : Int32} (hf : f_X11_octet w v0 v1 = some rr) : CT l D dA yX11_octet cX11_octet 2 (some .int) rmX11_octet [.ref v0, .int v1] w (some (.int rr)) w := by
  refine J_met (by decide) rfl (Nat.le_of_ble_eq_true rfl) (fun p e s m args below meth c A E C => ?_)
  rw [f_X11_octet] at hf
  refine J_sub [0, 1] (L1 := [(0, .ref v0), (1, .int v1)]) rfl ?_
  refine J_iload_n (pc := 0) C dX11_octet_0 rfl 1 rfl ?_
  refine J_iconst (pc := 1) C dX11_octet_1 (v := 0) (by decide) ?_
  refine J_aload_n (pc := 2) C dX11_octet_2 rfl 0 rfl ?_
  refine J_getI (pc := 3) C dX11_octet_3 (ci := 11) (k0 := 5) rfl iX11 (by decide) k_1008 hf (fun x1 hf => ?_)
  refine J_iconst (pc := 6) C dX11_octet_6 (v := 1) (by decide) ?_
  refine J_isub (pc := 7) C dX11_octet_7 ?_
  refine J_cS (S := []) (pc := 8) C dX11_octet_8 (c_X11_isIn _ _ _ _ rfl) k_1097 ys_X11_isIn ⟨Nat.le_of_ble_eq_true rfl, Nat.le_of_ble_eq_true rfl⟩ ⟨Nat.le_of_ble_eq_true rfl, Nat.le_of_ble_eq_true rfl⟩ rfl rfl (fun _ => Nat.le_of_ble_eq_true rfl) ?_
  refine J_if_eq (pc := 11) C dX11_octet_11 (tgt := 23) (by decide) hf (fun _ hf => ?_) (fun _ hf => ?_)
  · refine J_iconst (pc := 23) C dX11_octet_23 (v := -1) (by decide) ?_
    exact J_iretP (pc := 24) C  rfl rfl dX11_octet_24 hf
  · refine J_aload_n (pc := 14) C dX11_octet_14 rfl 0 rfl ?_
    refine J_getR (pc := 15) C dX11_octet_15 (ci := 11) (k0 := 2) rfl iX11 (by decide) k_1005 hf (fun x2 hf => ?_)
    refine J_iload_n (pc := 18) C dX11_octet_18 rfl 1 rfl ?_
    refine J_iald (pc := 19) C dX11_octet_19 hf (fun x3 hf => ?_)
    refine J_goto (pc := 20) C dX11_octet_20 (tgt := 24) (by decide) ?_
    exact J_iretP (pc := 24) C  rfl rfl dX11_octet_24 hf
set_option maxRecDepth 100000 in
set_option maxHeartbeats 4000000 in
theorem c_X11_feed {l : Launch} {D : va_G} {dA : FieldType → ClassId} (fu : Nat) (w : MW) (v0 : Nat) (v1 : Int32) (v2 : Int32) (v3 : Int32) (v4 : Int32) (v5 : Int32) {rr : Int32} {w' : MW} (hf : f_X11_feed fu w v0 v1 v2 v3 v4 v5 = some (rr, w')) : CT l D dA yX11_feed cX11_feed 8 (some .int) rmX11_feed [.ref v0, .int v1, .int v2, .int v3, .int v4, .int v5] w (some (.int rr)) w' := by
  refine J_met (by decide) rfl (Nat.le_of_ble_eq_true rfl) (fun p e s m args below meth c A E C => ?_)
  have B71 : ∀ (lr18 : MW → Nat → Int32 → Int32 → Int32 → Int32 → Int32 → Int32 → Option (Int32 × MW)) (lh18 : ∀ (w : MW) (v0 : Nat) (v1 : Int32) (v2 : Int32) (v3 : Int32) (v4 : Int32) (v5 : Int32) (v6 : Int32), lr18 w v0 v1 v2 v3 v4 v5 v6 = some (rr, w') → JW p l e rmX11_feed s m args below meth c 8 D dA A E (MQ below (Qr D dA E (some (.int rr)) w' A) args s 0 0 A) 0 0 18 [(0, .ref v0), (1, .int v1), (2, .int v2), (3, .int v3), (4, .int v4), (5, .int v5), (6, .int v6)] [] w) (w : MW) (v0 : Nat) (v1 : Int32) (v2 : Int32) (v3 : Int32) (v4 : Int32) (v5 : Int32) (v6 : Int32) (s0 : Int32), f_X11_feed_71 fu lr18 w v0 v1 v2 v3 v4 v5 v6 s0 = some (rr, w') → JW p l e rmX11_feed s m args below meth c 8 D dA A E (MQ below (Qr D dA E (some (.int rr)) w' A) args s 0 0 A) 0 0 71 [(0, .ref v0), (1, .int v1), (2, .int v2), (3, .int v3), (4, .int v4), (5, .int v5), (6, .int v6)] [.int s0] w := by
    intro lr18 lh18 w v0 v1 v2 v3 v4 v5 v6 s0 hf
    rw [f_X11_feed_71] at hf
    refine J_istore (pc := 71) C dX11_feed_71 (by decide) hf (fun q => [(7, .int q), (0, .ref v0), (1, .int v1), (2, .int v2), (3, .int v3), (4, .int v4), (5, .int v5), (6, .int v6)]) (fun _ => rfl) (fun x6 hf => ?_)
    refine J_aload_n (pc := 73) C dX11_feed_73 rfl 1 rfl ?_
    refine J_getR (pc := 74) C dX11_feed_74 (ci := 11) (k0 := 1) rfl iX11 (by decide) k_1004 hf (fun x7 hf => ?_)
    refine J_aload_n (pc := 77) C dX11_feed_77 rfl 1 rfl ?_
    refine J_getI (pc := 78) C dX11_feed_78 (ci := 11) (k0 := 4) rfl iX11 (by decide) k_1007 hf (fun x8 hf => ?_)
    refine J_iload (pc := 81) C dX11_feed_81 7 rfl ?_
    refine J_iadd (pc := 83) C dX11_feed_83 ?_
    refine J_iload (pc := 84) C dX11_feed_84 0 rfl ?_
    refine J_bipush (pc := 86) C dX11_feed_86 (v := 24) (by decide) ?_
    refine J_bipush (pc := 88) C dX11_feed_88 (v := 8) (by decide) ?_
    refine J_iload (pc := 90) C dX11_feed_90 7 rfl ?_
    refine J_iconst (pc := 92) C dX11_feed_92 (v := 3) (by decide) ?_
    refine J_iand (pc := 93) C dX11_feed_93 ?_
    refine J_imul (pc := 94) C dX11_feed_94 ?_
    refine J_isub (pc := 95) C dX11_feed_95 ?_
    refine J_ishr (pc := 96) C dX11_feed_96 ?_
    refine J_sipush (pc := 97) C dX11_feed_97 (v := 255) (by decide) ?_
    refine J_iand (pc := 100) C dX11_feed_100 ?_
    refine J_iast (pc := 101) C dX11_feed_101 hf (fun w9 hf => ?_)
    refine J_iinc (pc := 102) C dX11_feed_102 7 rfl (y := v6 + 1) rfl (by decide) hf (fun q => [(6, .int q), (7, .int x6), (0, .ref v0), (1, .int v1), (2, .int v2), (3, .int v3), (4, .int v4), (5, .int v5)]) (fun _ => rfl) (fun x10 hf => ?_)
    refine J_goto (pc := 105) C dX11_feed_105 (tgt := 18) (by decide) ?_
    refine J_sub [2, 3, 4, 5, 6, 7, 0] (L1 := [(0, .ref v0), (1, .int v1), (2, .int v2), (3, .int v3), (4, .int v4), (5, .int v5), (6, .int x10)]) rfl ?_
    exact lh18 w9 v0 v1 v2 v3 v4 v5 x10 hf
  have B18 : ∀ (n : Nat) (w : MW) (v0 : Nat) (v1 : Int32) (v2 : Int32) (v3 : Int32) (v4 : Int32) (v5 : Int32) (v6 : Int32), f_X11_feed_18 fu n w v0 v1 v2 v3 v4 v5 v6 = some (rr, w') → JW p l e rmX11_feed s m args below meth c 8 D dA A E (MQ below (Qr D dA E (some (.int rr)) w' A) args s 0 0 A) 0 0 18 [(0, .ref v0), (1, .int v1), (2, .int v2), (3, .int v3), (4, .int v4), (5, .int v5), (6, .int v6)] [] w := by
    intro n
    induction n with
    | zero => intro w v0 v1 v2 v3 v4 v5 v6 hf; rw [f_X11_feed_18] at hf; cases hf
    | succ n ih =>
      intro w v0 v1 v2 v3 v4 v5 v6 hf
      rw [f_X11_feed_18] at hf
      refine J_iload (pc := 18) C dX11_feed_18 6 rfl ?_
      refine J_bipush (pc := 20) C dX11_feed_20 (v := 20) (by decide) ?_
      refine J_icmp_ge (pc := 22) C dX11_feed_22 (tgt := 108) (by decide) hf (fun _ hf => ?_) (fun _ hf => ?_)
      · refine J_aload_n (pc := 108) C dX11_feed_108 rfl 0 rfl ?_
        refine J_dup (pc := 109) C dX11_feed_109 rfl ?_
        refine J_getI (pc := 110) C dX11_feed_110 (ci := 11) (k0 := 4) rfl iX11 (by decide) k_1007 hf (fun x3 hf => ?_)
        refine J_bipush (pc := 113) C dX11_feed_113 (v := 20) (by decide) ?_
        refine J_iadd (pc := 115) C dX11_feed_115 ?_
        refine J_put (pc := 116) C dX11_feed_116 (ci := 11) (k0 := 4) rfl iX11 tyX11 tyX11_ok nmX11 (by decide) k_1007 rfl (ty := .int) (by decide +kernel) (fun _ => rfl) (fun _ => rfl) hf (fun w4 hf => ?_)
        refine J_aload_n (pc := 119) C dX11_feed_119 rfl 0 rfl ?_
        refine J_getI (pc := 120) C dX11_feed_120 (ci := 11) (k0 := 4) rfl iX11 (by decide) k_1007 hf (fun x5 hf => ?_)
        exact J_iret (pc := 123) C  rfl rfl dX11_feed_123 hf
      · refine J_iload (pc := 25) C dX11_feed_25 6 rfl ?_
        refine J_iconst (pc := 27) C dX11_feed_27 (v := 4) (by decide) ?_
        refine J_icmp_ge (pc := 28) C dX11_feed_28 (tgt := 35) (by decide) hf (fun _ hf => ?_) (fun _ hf => ?_)
        · refine J_iload (pc := 35) C dX11_feed_35 6 rfl ?_
          refine J_bipush (pc := 37) C dX11_feed_37 (v := 8) (by decide) ?_
          refine J_icmp_ge (pc := 39) C dX11_feed_39 (tgt := 46) (by decide) hf (fun _ hf => ?_) (fun _ hf => ?_)
          · refine J_iload (pc := 46) C dX11_feed_46 6 rfl ?_
            refine J_bipush (pc := 48) C dX11_feed_48 (v := 12) (by decide) ?_
            refine J_icmp_ge (pc := 50) C dX11_feed_50 (tgt := 57) (by decide) hf (fun _ hf => ?_) (fun _ hf => ?_)
            · refine J_iload (pc := 57) C dX11_feed_57 6 rfl ?_
              refine J_bipush (pc := 59) C dX11_feed_59 (v := 16) (by decide) ?_
              refine J_icmp_ge (pc := 61) C dX11_feed_61 (tgt := 69) (by decide) hf (fun _ hf => ?_) (fun _ hf => ?_)
              · refine J_iload (pc := 69) C dX11_feed_69 5 rfl ?_
                refine J_sub [0, 1, 2, 3, 4, 5, 6] (L1 := [(0, .ref v0), (1, .int v1), (2, .int v2), (3, .int v3), (4, .int v4), (5, .int v5), (6, .int v6)]) rfl ?_
                exact B71 (f_X11_feed_18 fu n) ih w v0 v1 v2 v3 v4 v5 v6 v5 hf
              · refine J_iload (pc := 64) C dX11_feed_64 4 rfl ?_
                refine J_goto (pc := 66) C dX11_feed_66 (tgt := 71) (by decide) ?_
                refine J_sub [0, 1, 2, 3, 4, 5, 6] (L1 := [(0, .ref v0), (1, .int v1), (2, .int v2), (3, .int v3), (4, .int v4), (5, .int v5), (6, .int v6)]) rfl ?_
                exact B71 (f_X11_feed_18 fu n) ih w v0 v1 v2 v3 v4 v5 v6 v4 hf
            · refine J_iload_n (pc := 53) C dX11_feed_53 rfl 3 rfl ?_
              refine J_goto (pc := 54) C dX11_feed_54 (tgt := 71) (by decide) ?_
              refine J_sub [0, 1, 2, 3, 4, 5, 6] (L1 := [(0, .ref v0), (1, .int v1), (2, .int v2), (3, .int v3), (4, .int v4), (5, .int v5), (6, .int v6)]) rfl ?_
              exact B71 (f_X11_feed_18 fu n) ih w v0 v1 v2 v3 v4 v5 v6 v3 hf
          · refine J_iload_n (pc := 42) C dX11_feed_42 rfl 2 rfl ?_
            refine J_goto (pc := 43) C dX11_feed_43 (tgt := 71) (by decide) ?_
            refine J_sub [0, 1, 2, 3, 4, 5, 6] (L1 := [(0, .ref v0), (1, .int v1), (2, .int v2), (3, .int v3), (4, .int v4), (5, .int v5), (6, .int v6)]) rfl ?_
            exact B71 (f_X11_feed_18 fu n) ih w v0 v1 v2 v3 v4 v5 v6 v2 hf
        · refine J_iload_n (pc := 31) C dX11_feed_31 rfl 1 rfl ?_
          refine J_goto (pc := 32) C dX11_feed_32 (tgt := 71) (by decide) ?_
          refine J_sub [0, 1, 2, 3, 4, 5, 6] (L1 := [(0, .ref v0), (1, .int v1), (2, .int v2), (3, .int v3), (4, .int v4), (5, .int v5), (6, .int v6)]) rfl ?_
          exact B71 (f_X11_feed_18 fu n) ih w v0 v1 v2 v3 v4 v5 v6 v1 hf
  rw [f_X11_feed] at hf
  refine J_sub [0, 1, 2, 3, 4, 5] (L1 := [(0, .ref v0), (1, .int v1), (2, .int v2), (3, .int v3), (4, .int v4), (5, .int v5)]) rfl ?_
  refine J_aload_n (pc := 0) C dX11_feed_0 rfl 0 rfl ?_
  refine J_getI (pc := 1) C dX11_feed_1 (ci := 11) (k0 := 4) rfl iX11 (by decide) k_1007 hf (fun x1 hf => ?_)
  refine J_bipush (pc := 4) C dX11_feed_4 (v := 20) (by decide) ?_
  refine J_iadd (pc := 6) C dX11_feed_6 ?_
  refine J_sipush (pc := 7) C dX11_feed_7 (v := 800) (by decide) ?_
  refine J_icmp_le (pc := 10) C dX11_feed_10 (tgt := 15) (by decide) hf (fun _ hf => ?_) (fun _ hf => ?_)
  · refine J_iconst (pc := 15) C dX11_feed_15 (v := 0) (by decide) ?_
    refine J_istore (pc := 16) C dX11_feed_16 (by decide) hf (fun q => [(6, .int q), (0, .ref v0), (1, .int v1), (2, .int v2), (3, .int v3), (4, .int v4), (5, .int v5)]) (fun _ => rfl) (fun x2 hf => ?_)
    refine J_sub [1, 2, 3, 4, 5, 6, 0] (L1 := [(0, .ref v0), (1, .int v1), (2, .int v2), (3, .int v3), (4, .int v4), (5, .int v5), (6, .int x2)]) rfl ?_
    exact B18 fu w v0 v1 v2 v3 v4 v5 x2 hf
  · refine J_iconst (pc := 13) C dX11_feed_13 (v := -1) (by decide) ?_
    exact J_iret (pc := 14) C  rfl rfl dX11_feed_14 hf
set_option maxRecDepth 100000 in
set_option maxHeartbeats 4000000 in
theorem c_X11_end {l : Launch} {D : va_G} {dA : FieldType → ClassId} (w : MW) (v0 : Nat) (v1 : Int32) {rr : Int32} {w' : MW} (hf : f_X11_end w v0 v1 = some (rr, w')) : CT l D dA yX11_end cX11_end 2 (some .int) rmX11_end [.ref v0, .int v1] w (some (.int rr)) w' := by
  refine J_met (by decide) rfl (Nat.le_of_ble_eq_true rfl) (fun p e s m args below meth c A E C => ?_)
  rw [f_X11_end] at hf
  refine J_sub [0, 1] (L1 := [(0, .ref v0), (1, .int v1)]) rfl ?_
  refine J_iload_n (pc := 0) C dX11_end_0 rfl 1 rfl ?_
  refine J_iconst (pc := 1) C dX11_end_1 (v := 0) (by decide) ?_
  refine J_aload_n (pc := 2) C dX11_end_2 rfl 0 rfl ?_
  refine J_getI (pc := 3) C dX11_end_3 (ci := 11) (k0 := 4) rfl iX11 (by decide) k_1007 hf (fun x1 hf => ?_)
  refine J_cS (S := []) (pc := 6) C dX11_end_6 (c_X11_isIn _ _ _ _ rfl) k_1097 ys_X11_isIn ⟨Nat.le_of_ble_eq_true rfl, Nat.le_of_ble_eq_true rfl⟩ ⟨Nat.le_of_ble_eq_true rfl, Nat.le_of_ble_eq_true rfl⟩ rfl rfl (fun _ => Nat.le_of_ble_eq_true rfl) ?_
  refine J_if_ne (pc := 9) C dX11_end_9 (tgt := 14) (by decide) hf (fun _ hf => ?_) (fun _ hf => ?_)
  · refine J_aload_n (pc := 14) C dX11_end_14 rfl 0 rfl ?_
    refine J_iload_n (pc := 15) C dX11_end_15 rfl 1 rfl ?_
    refine J_put (pc := 16) C dX11_end_16 (ci := 11) (k0 := 4) rfl iX11 tyX11 tyX11_ok nmX11 (by decide) k_1007 rfl (ty := .int) (by decide +kernel) (fun _ => rfl) (fun _ => rfl) hf (fun w2 hf => ?_)
    refine J_iload_n (pc := 19) C dX11_end_19 rfl 1 rfl ?_
    exact J_iret (pc := 20) C  rfl rfl dX11_end_20 hf
  · refine J_iconst (pc := 12) C dX11_end_12 (v := -1) (by decide) ?_
    exact J_iret (pc := 13) C  rfl rfl dX11_end_13 hf
set_option maxRecDepth 100000 in
set_option maxHeartbeats 4000000 in
theorem c_X11_fault {l : Launch} {D : va_G} {dA : FieldType → ClassId} (w : MW) (v0 : Nat) (v1 : Int32) {rr : Int32} (hf : f_X11_fault w v0 v1 = some rr) : CT l D dA yX11_fault cX11_fault 2 (some .int) rmX11_fault [.ref v0, .int v1] w (some (.int rr)) w := by
  refine J_met (by decide) rfl (Nat.le_of_ble_eq_true rfl) (fun p e s m args below meth c A E C => ?_)
  rw [f_X11_fault] at hf
  refine J_sub [0, 1] (L1 := [(0, .ref v0), (1, .int v1)]) rfl ?_
  refine J_iload_n (pc := 0) C dX11_fault_0 rfl 1 rfl ?_
  refine J_if_ne (pc := 1) C dX11_fault_1 (tgt := 11) (by decide) hf (fun _ hf => ?_) (fun _ hf => ?_)
  · refine J_iload_n (pc := 11) C dX11_fault_11 rfl 1 rfl ?_
    refine J_iconst (pc := 12) C dX11_fault_12 (v := 1) (by decide) ?_
    refine J_icmp_ne (pc := 13) C dX11_fault_13 (tgt := 23) (by decide) hf (fun _ hf => ?_) (fun _ hf => ?_)
    · refine J_iconst (pc := 23) C dX11_fault_23 (v := -1) (by decide) ?_
      exact J_iretP (pc := 24) C  rfl rfl dX11_fault_24 hf
    · refine J_aload_n (pc := 16) C dX11_fault_16 rfl 0 rfl ?_
      refine J_getI (pc := 17) C dX11_fault_17 (ci := 11) (k0 := 7) rfl iX11 (by decide) k_1010 hf (fun x1 hf => ?_)
      refine J_goto (pc := 20) C dX11_fault_20 (tgt := 24) (by decide) ?_
      exact J_iretP (pc := 24) C  rfl rfl dX11_fault_24 hf
  · refine J_aload_n (pc := 4) C dX11_fault_4 rfl 0 rfl ?_
    refine J_getI (pc := 5) C dX11_fault_5 (ci := 11) (k0 := 6) rfl iX11 (by decide) k_1009 hf (fun x2 hf => ?_)
    refine J_goto (pc := 8) C dX11_fault_8 (tgt := 24) (by decide) ?_
    exact J_iretP (pc := 24) C  rfl rfl dX11_fault_24 hf
set_option maxRecDepth 100000 in
set_option maxHeartbeats 4000000 in
theorem c_X11_byteAt {l : Launch} {D : va_G} {dA : FieldType → ClassId} (w : MW) (v0 : Nat) (v1 : Int32) {rr : Int32} (hf : f_X11_byteAt w v0 v1 = some rr) : CT l D dA yX11_byteAt cX11_byteAt 2 (some .int) rmX11_byteAt [.ref v0, .int v1] w (some (.int rr)) w := by
  refine J_met (by decide) rfl (Nat.le_of_ble_eq_true rfl) (fun p e s m args below meth c A E C => ?_)
  rw [f_X11_byteAt] at hf
  refine J_sub [0, 1] (L1 := [(0, .ref v0), (1, .int v1)]) rfl ?_
  refine J_iload_n (pc := 0) C dX11_byteAt_0 rfl 1 rfl ?_
  refine J_aload_n (pc := 1) C dX11_byteAt_1 rfl 0 rfl ?_
  refine J_getI (pc := 2) C dX11_byteAt_2 (ci := 11) (k0 := 22) rfl iX11 (by decide) k_1025 hf (fun x1 hf => ?_)
  refine J_icmp_ge (pc := 5) C dX11_byteAt_5 (tgt := 17) (by decide) hf (fun _ hf => ?_) (fun _ hf => ?_)
  · refine J_iconst (pc := 17) C dX11_byteAt_17 (v := -1) (by decide) ?_
    exact J_iretP (pc := 18) C  rfl rfl dX11_byteAt_18 hf
  · refine J_aload_n (pc := 8) C dX11_byteAt_8 rfl 0 rfl ?_
    refine J_getR (pc := 9) C dX11_byteAt_9 (ci := 11) (k0 := 1) rfl iX11 (by decide) k_1004 hf (fun x2 hf => ?_)
    refine J_iload_n (pc := 12) C dX11_byteAt_12 rfl 1 rfl ?_
    refine J_iald (pc := 13) C dX11_byteAt_13 hf (fun x3 hf => ?_)
    refine J_goto (pc := 14) C dX11_byteAt_14 (tgt := 18) (by decide) ?_
    exact J_iretP (pc := 18) C  rfl rfl dX11_byteAt_18 hf
