set_option maxRecDepth 100000 in
set_option maxHeartbeats 4000000 in
theorem c_X7_lightest {l : Launch} {D : va_G} {dA : FieldType → ClassId} (fu : Nat) (w : MW) (v0 : Nat) (v1 : Int32) {rr : Int32} (hf : f_X7_lightest fu w v0 v1 = some rr) : CT l D dA yX7_lightest cX7_lightest 4 (some .int) rmX7_lightest [.ref v0, .int v1] w (some (.int rr)) w := by
  refine J_met (by decide) rfl (Nat.le_of_ble_eq_true rfl) (fun p e s m args below meth c A E C => ?_)
  have B46 : ∀ (lr4 : Nat → Int32 → Int32 → Int32 → Option Int32) (lh4 : ∀ (v0 : Nat) (v1 : Int32) (v2 : Int32) (v3 : Int32), lr4 v0 v1 v2 v3 = some rr → JW p l e rmX7_lightest s m args below meth c 4 D dA A E (MQ below (Qr D dA E (some (.int rr)) w A) args s 0 0 A) 0 0 4 [(0, .ref v0), (1, .int v1), (2, .int v2), (3, .int v3)] [] w) (v0 : Nat) (v1 : Int32) (v2 : Int32) (v3 : Int32), f_X7_lightest_46 fu w lr4 v0 v1 v2 v3 = some rr → JW p l e rmX7_lightest s m args below meth c 4 D dA A E (MQ below (Qr D dA E (some (.int rr)) w A) args s 0 0 A) 0 0 46 [(0, .ref v0), (1, .int v1), (2, .int v2), (3, .int v3)] [] w := by
    intro lr4 lh4 v0 v1 v2 v3 hf
    rw [f_X7_lightest_46] at hf
    refine J_iinc (pc := 46) C dX7_lightest_46 3 rfl (y := v3 + 1) rfl (by decide) hf (fun q => [(3, .int q), (0, .ref v0), (1, .int v1), (2, .int v2)]) (fun _ => rfl) (fun x3 hf => ?_)
    refine J_goto (pc := 49) C dX7_lightest_49 (tgt := 4) (by decide) ?_
    refine J_sub [1, 2, 3, 0] (L1 := [(0, .ref v0), (1, .int v1), (2, .int v2), (3, .int x3)]) rfl ?_
    exact lh4 v0 v1 v2 x3 hf
  have B4 : ∀ (n : Nat) (v0 : Nat) (v1 : Int32) (v2 : Int32) (v3 : Int32), f_X7_lightest_4 fu w n v0 v1 v2 v3 = some rr → JW p l e rmX7_lightest s m args below meth c 4 D dA A E (MQ below (Qr D dA E (some (.int rr)) w A) args s 0 0 A) 0 0 4 [(0, .ref v0), (1, .int v1), (2, .int v2), (3, .int v3)] [] w := by
    intro n
    induction n with
    | zero => intro v0 v1 v2 v3 hf; rw [f_X7_lightest_4] at hf; cases hf
    | succ n ih =>
      intro v0 v1 v2 v3 hf
      rw [f_X7_lightest_4] at hf
      refine J_iload_n (pc := 4) C dX7_lightest_4 rfl 3 rfl ?_
      refine J_bipush (pc := 5) C dX7_lightest_5 (v := 8) (by decide) ?_
      refine J_icmp_ge (pc := 7) C dX7_lightest_7 (tgt := 52) (by decide) hf (fun _ hf => ?_) (fun _ hf => ?_)
      · refine J_iload_n (pc := 52) C dX7_lightest_52 rfl 2 rfl ?_
        exact J_iretP (pc := 53) C  rfl rfl dX7_lightest_53 hf
      · refine J_iload_n (pc := 10) C dX7_lightest_10 rfl 3 rfl ?_
        refine J_iload_n (pc := 11) C dX7_lightest_11 rfl 1 rfl ?_
        refine J_icmp_eq (pc := 12) C dX7_lightest_12 (tgt := 46) (by decide) hf (fun _ hf => ?_) (fun _ hf => ?_)
        · refine J_sub [0, 1, 2, 3] (L1 := [(0, .ref v0), (1, .int v1), (2, .int v2), (3, .int v3)]) rfl ?_
          exact B46 (f_X7_lightest_4 fu w n) ih v0 v1 v2 v3 hf
        · refine J_aload_n (pc := 15) C dX7_lightest_15 rfl 0 rfl ?_
          refine J_getR (pc := 16) C dX7_lightest_16 (ci := 7) (k0 := 4) rfl iX7 (by decide) k_220 hf (fun x4 hf => ?_)
          refine J_iload_n (pc := 19) C dX7_lightest_19 rfl 3 rfl ?_
          refine J_iald (pc := 20) C dX7_lightest_20 hf (fun x5 hf => ?_)
          refine J_if_le (pc := 21) C dX7_lightest_21 (tgt := 46) (by decide) hf (fun _ hf => ?_) (fun _ hf => ?_)
          · refine J_sub [0, 1, 2, 3] (L1 := [(0, .ref v0), (1, .int v1), (2, .int v2), (3, .int v3)]) rfl ?_
            exact B46 (f_X7_lightest_4 fu w n) ih v0 v1 v2 v3 hf
          · refine J_iload_n (pc := 24) C dX7_lightest_24 rfl 2 rfl ?_
            refine J_iconst (pc := 25) C dX7_lightest_25 (v := -1) (by decide) ?_
            refine J_icmp_eq (pc := 26) C dX7_lightest_26 (tgt := 44) (by decide) hf (fun _ hf => ?_) (fun _ hf => ?_)
            · refine J_iload_n (pc := 44) C dX7_lightest_44 rfl 3 rfl ?_
              refine J_istore_n (pc := 45) C dX7_lightest_45 rfl (by decide) hf (fun q => [(2, .int q), (0, .ref v0), (1, .int v1), (3, .int v3)]) (fun _ => rfl) (fun x6 hf => ?_)
              refine J_sub [1, 2, 0, 3] (L1 := [(0, .ref v0), (1, .int v1), (2, .int x6), (3, .int v3)]) rfl ?_
              exact B46 (f_X7_lightest_4 fu w n) ih v0 v1 x6 v3 hf
            · refine J_aload_n (pc := 29) C dX7_lightest_29 rfl 0 rfl ?_
              refine J_getR (pc := 30) C dX7_lightest_30 (ci := 7) (k0 := 4) rfl iX7 (by decide) k_220 hf (fun x7 hf => ?_)
              refine J_iload_n (pc := 33) C dX7_lightest_33 rfl 3 rfl ?_
              refine J_iald (pc := 34) C dX7_lightest_34 hf (fun x8 hf => ?_)
              refine J_aload_n (pc := 35) C dX7_lightest_35 rfl 0 rfl ?_
              refine J_getR (pc := 36) C dX7_lightest_36 (ci := 7) (k0 := 4) rfl iX7 (by decide) k_220 hf (fun x9 hf => ?_)
              refine J_iload_n (pc := 39) C dX7_lightest_39 rfl 2 rfl ?_
              refine J_iald (pc := 40) C dX7_lightest_40 hf (fun x10 hf => ?_)
              refine J_icmp_ge (pc := 41) C dX7_lightest_41 (tgt := 46) (by decide) hf (fun _ hf => ?_) (fun _ hf => ?_)
              · refine J_sub [0, 1, 2, 3] (L1 := [(0, .ref v0), (1, .int v1), (2, .int v2), (3, .int v3)]) rfl ?_
                exact B46 (f_X7_lightest_4 fu w n) ih v0 v1 v2 v3 hf
              · refine J_iload_n (pc := 44) C dX7_lightest_44 rfl 3 rfl ?_
                refine J_istore_n (pc := 45) C dX7_lightest_45 rfl (by decide) hf (fun q => [(2, .int q), (0, .ref v0), (1, .int v1), (3, .int v3)]) (fun _ => rfl) (fun x11 hf => ?_)
                refine J_sub [1, 2, 0, 3] (L1 := [(0, .ref v0), (1, .int v1), (2, .int x11), (3, .int v3)]) rfl ?_
                exact B46 (f_X7_lightest_4 fu w n) ih v0 v1 x11 v3 hf
  rw [f_X7_lightest] at hf
  refine J_sub [0, 1] (L1 := [(0, .ref v0), (1, .int v1)]) rfl ?_
  refine J_iconst (pc := 0) C dX7_lightest_0 (v := -1) (by decide) ?_
  refine J_istore_n (pc := 1) C dX7_lightest_1 rfl (by decide) hf (fun q => [(2, .int q), (0, .ref v0), (1, .int v1)]) (fun _ => rfl) (fun x1 hf => ?_)
  refine J_iconst (pc := 2) C dX7_lightest_2 (v := 0) (by decide) ?_
  refine J_istore_n (pc := 3) C dX7_lightest_3 rfl (by decide) hf (fun q => [(3, .int q), (2, .int x1), (0, .ref v0), (1, .int v1)]) (fun _ => rfl) (fun x2 hf => ?_)
  refine J_sub [2, 3, 1, 0] (L1 := [(0, .ref v0), (1, .int v1), (2, .int x1), (3, .int x2)]) rfl ?_
  exact B4 fu v0 v1 x1 x2 hf
set_option maxRecDepth 100000 in
set_option maxHeartbeats 4000000 in
theorem c_X7_huffman {l : Launch} {D : va_G} {dA : FieldType → ClassId} (fu : Nat) (w : MW) (v0 : Nat) {rr : Int32} {w' : MW} (hf : f_X7_huffman fu w v0 = some (rr, w')) : CT l D dA yX7_huffman cX7_huffman 6 (some .int) rmX7_huffman [.ref v0] w (some (.int rr)) w' := by
  refine J_met (by decide) rfl (Nat.le_of_ble_eq_true rfl) (fun p e s m args below meth c A E C => ?_)
  have B36 : ∀ (n : Nat) (w : MW) (v0 : Nat) (v1 : Int32) (v2 : Int32), f_X7_huffman_36 fu n w v0 v1 v2 = some (rr, w') → JW p l e rmX7_huffman s m args below meth c 6 D dA A E (MQ below (Qr D dA E (some (.int rr)) w' A) args s 0 0 A) 0 0 36 [(0, .ref v0), (1, .int v1), (2, .int v2)] [] w := by
    intro n
    induction n with
    | zero => intro w v0 v1 v2 hf; rw [f_X7_huffman_36] at hf; cases hf
    | succ n ih =>
      intro w v0 v1 v2 hf
      rw [f_X7_huffman_36] at hf
      refine J_iload_n (pc := 36) C dX7_huffman_36 rfl 2 rfl ?_
      refine J_iconst (pc := 37) C dX7_huffman_37 (v := 1) (by decide) ?_
      refine J_icmp_le (pc := 38) C dX7_huffman_38 (tgt := 120) (by decide) hf (fun _ hf => ?_) (fun _ hf => ?_)
      · refine J_iload_n (pc := 120) C dX7_huffman_120 rfl 1 rfl ?_
        exact J_iret (pc := 121) C  rfl rfl dX7_huffman_121 hf
      · refine J_aload_n (pc := 41) C dX7_huffman_41 rfl 0 rfl ?_
        refine J_iconst (pc := 42) C dX7_huffman_42 (v := -1) (by decide) ?_
        obtain ⟨q7, h8, hf⟩ := bind_ok hf
        obtain ⟨_, g9, h8⟩ := cl_spec h8
        refine J_cV (S := []) (pc := 43) C dX7_huffman_43 (c_X7_lightest _ _ _ _ h8) k_917 ys_X7_lightest ⟨Nat.le_of_ble_eq_true rfl, Nat.le_of_ble_eq_true rfl⟩ ⟨Nat.le_of_ble_eq_true rfl, Nat.le_of_ble_eq_true rfl⟩ g9 rfl rfl (fun _ => Nat.le_of_ble_eq_true rfl) ?_
        refine J_istore_n (pc := 46) C dX7_huffman_46 rfl (by decide) hf (fun q => [(3, .int q), (0, .ref v0), (1, .int v1), (2, .int v2)]) (fun _ => rfl) (fun x10 hf => ?_)
        refine J_aload_n (pc := 47) C dX7_huffman_47 rfl 1 rfl ?_
        refine J_iload_n (pc := 48) C dX7_huffman_48 rfl 0 rfl ?_
        obtain ⟨q11, h12, hf⟩ := bind_ok hf
        obtain ⟨_, g13, h12⟩ := cl_spec h12
        refine J_cV (S := []) (pc := 49) C dX7_huffman_49 (c_X7_lightest _ _ _ _ h12) k_917 ys_X7_lightest ⟨Nat.le_of_ble_eq_true rfl, Nat.le_of_ble_eq_true rfl⟩ ⟨Nat.le_of_ble_eq_true rfl, Nat.le_of_ble_eq_true rfl⟩ g13 rfl rfl (fun _ => Nat.le_of_ble_eq_true rfl) ?_
        refine J_istore (pc := 52) C dX7_huffman_52 (by decide) hf (fun q => [(4, .int q), (3, .int x10), (0, .ref v0), (1, .int v1), (2, .int v2)]) (fun _ => rfl) (fun x14 hf => ?_)
        refine J_iload_n (pc := 54) C dX7_huffman_54 rfl 1 rfl ?_
        refine J_iconst (pc := 55) C dX7_huffman_55 (v := -1) (by decide) ?_
        refine J_icmp_eq (pc := 56) C dX7_huffman_56 (tgt := 120) (by decide) hf (fun _ hf => ?_) (fun _ hf => ?_)
        · refine J_iload_n (pc := 120) C dX7_huffman_120 rfl 3 rfl ?_
          exact J_iret (pc := 121) C  rfl rfl dX7_huffman_121 hf
        · refine J_iload (pc := 59) C dX7_huffman_59 0 rfl ?_
          refine J_iconst (pc := 61) C dX7_huffman_61 (v := -1) (by decide) ?_
          refine J_icmp_ne (pc := 62) C dX7_huffman_62 (tgt := 68) (by decide) hf (fun _ hf => ?_) (fun _ hf => ?_)
          · refine J_aload_n (pc := 68) C dX7_huffman_68 rfl 2 rfl ?_
            refine J_getR (pc := 69) C dX7_huffman_69 (ci := 7) (k0 := 4) rfl iX7 (by decide) k_220 hf (fun x15 hf => ?_)
            refine J_iload_n (pc := 72) C dX7_huffman_72 rfl 1 rfl ?_
            refine J_iald (pc := 73) C dX7_huffman_73 hf (fun x16 hf => ?_)
            refine J_aload_n (pc := 74) C dX7_huffman_74 rfl 2 rfl ?_
            refine J_getR (pc := 75) C dX7_huffman_75 (ci := 7) (k0 := 4) rfl iX7 (by decide) k_220 hf (fun x17 hf => ?_)
            refine J_iload (pc := 78) C dX7_huffman_78 0 rfl ?_
            refine J_iald (pc := 80) C dX7_huffman_80 hf (fun x18 hf => ?_)
            refine J_iadd (pc := 81) C dX7_huffman_81 ?_
            refine J_istore (pc := 82) C dX7_huffman_82 (by decide) hf (fun q => [(5, .int q), (4, .int x14), (3, .int x10), (0, .ref v0), (1, .int v1), (2, .int v2)]) (fun _ => rfl) (fun x19 hf => ?_)
            refine J_aload_n (pc := 84) C dX7_huffman_84 rfl 3 rfl ?_
            refine J_getR (pc := 85) C dX7_huffman_85 (ci := 7) (k0 := 4) rfl iX7 (by decide) k_220 hf (fun x20 hf => ?_)
            refine J_iload_n (pc := 88) C dX7_huffman_88 rfl 2 rfl ?_
            refine J_iload (pc := 89) C dX7_huffman_89 1 rfl ?_
            refine J_max (pc := 91) C dX7_huffman_91 k_752 k_645 k_88 k_646 (Nat.le_of_ble_eq_true rfl) (fun _ => Nat.le_of_ble_eq_true rfl) ⟨Nat.le_of_ble_eq_true rfl, Nat.le_of_ble_eq_true rfl⟩ ?_
            refine J_iconst (pc := 94) C dX7_huffman_94 (v := 0) (by decide) ?_
            refine J_iast (pc := 95) C dX7_huffman_95 hf (fun w21 hf => ?_)
            refine J_aload_n (pc := 96) C dX7_huffman_96 rfl 3 rfl ?_
            refine J_getR (pc := 97) C dX7_huffman_97 (ci := 7) (k0 := 4) rfl iX7 (by decide) k_220 hf (fun x22 hf => ?_)
            refine J_iload_n (pc := 100) C dX7_huffman_100 rfl 2 rfl ?_
            refine J_iload (pc := 101) C dX7_huffman_101 1 rfl ?_
            refine J_min (pc := 103) C dX7_huffman_103 k_921 k_421 k_88 k_422 (Nat.le_of_ble_eq_true rfl) (fun _ => Nat.le_of_ble_eq_true rfl) ⟨Nat.le_of_ble_eq_true rfl, Nat.le_of_ble_eq_true rfl⟩ ?_
            refine J_iload (pc := 106) C dX7_huffman_106 0 rfl ?_
            refine J_iast (pc := 108) C dX7_huffman_108 hf (fun w23 hf => ?_)
            refine J_iload_n (pc := 109) C dX7_huffman_109 rfl 4 rfl ?_
            refine J_iload (pc := 110) C dX7_huffman_110 0 rfl ?_
            refine J_iadd (pc := 112) C dX7_huffman_112 ?_
            refine J_istore_n (pc := 113) C dX7_huffman_113 rfl (by decide) hf (fun q => [(1, .int q), (5, .int x19), (4, .int x14), (3, .int x10), (0, .ref v0), (2, .int v2)]) (fun _ => rfl) (fun x24 hf => ?_)
            refine J_iinc (pc := 114) C dX7_huffman_114 5 rfl (y := v2 + (-1)) rfl (by decide) hf (fun q => [(2, .int q), (1, .int x24), (5, .int x19), (4, .int x14), (3, .int x10), (0, .ref v0)]) (fun _ => rfl) (fun x25 hf => ?_)
            refine J_goto (pc := 117) C dX7_huffman_117 (tgt := 36) (by decide) ?_
            refine J_sub [5, 1, 0] (L1 := [(0, .ref v0), (1, .int x24), (2, .int x25)]) rfl ?_
            exact ih w23 v0 x24 x25 hf
          · refine J_goto (pc := 65) C dX7_huffman_65 (tgt := 120) (by decide) ?_
            refine J_iload_n (pc := 120) C dX7_huffman_120 rfl 3 rfl ?_
            exact J_iret (pc := 121) C  rfl rfl dX7_huffman_121 hf
  have B2 : ∀ (n : Nat) (w : MW) (v0 : Nat) (v1 : Int32), f_X7_huffman_2 fu n w v0 v1 = some (rr, w') → JW p l e rmX7_huffman s m args below meth c 6 D dA A E (MQ below (Qr D dA E (some (.int rr)) w' A) args s 0 0 A) 0 0 2 [(0, .ref v0), (1, .int v1)] [] w := by
    intro n
    induction n with
    | zero => intro w v0 v1 hf; rw [f_X7_huffman_2] at hf; cases hf
    | succ n ih =>
      intro w v0 v1 hf
      rw [f_X7_huffman_2] at hf
      refine J_iload_n (pc := 2) C dX7_huffman_2 rfl 1 rfl ?_
      refine J_bipush (pc := 3) C dX7_huffman_3 (v := 8) (by decide) ?_
      refine J_icmp_ge (pc := 5) C dX7_huffman_5 (tgt := 29) (by decide) hf (fun _ hf => ?_) (fun _ hf => ?_)
      · refine J_iconst (pc := 29) C dX7_huffman_29 (v := 0) (by decide) ?_
        refine J_istore_n (pc := 30) C dX7_huffman_30 rfl (by decide) hf (fun q => [(1, .int q), (0, .ref v0)]) (fun _ => rfl) (fun x2 hf => ?_)
        refine J_aload_n (pc := 31) C dX7_huffman_31 rfl 1 rfl ?_
        obtain ⟨q3, h4, hf⟩ := bind_ok hf
        obtain ⟨_, g5, h4⟩ := cl_spec h4
        refine J_cV (S := []) (pc := 32) C dX7_huffman_32 (c_X7_notEmpty _ _ _ h4) k_916 ys_X7_notEmpty ⟨Nat.le_of_ble_eq_true rfl, Nat.le_of_ble_eq_true rfl⟩ ⟨Nat.le_of_ble_eq_true rfl, Nat.le_of_ble_eq_true rfl⟩ g5 rfl rfl (fun _ => Nat.le_of_ble_eq_true rfl) ?_
        refine J_istore_n (pc := 35) C dX7_huffman_35 rfl (by decide) hf (fun q => [(2, .int q), (1, .int x2), (0, .ref v0)]) (fun _ => rfl) (fun x6 hf => ?_)
        refine J_sub [2, 1, 0] (L1 := [(0, .ref v0), (1, .int x2), (2, .int x6)]) rfl ?_
        exact B36 fu w v0 x2 x6 hf
      · refine J_aload_n (pc := 8) C dX7_huffman_8 rfl 0 rfl ?_
        refine J_getR (pc := 9) C dX7_huffman_9 (ci := 7) (k0 := 4) rfl iX7 (by decide) k_220 hf (fun x26 hf => ?_)
        refine J_iload_n (pc := 12) C dX7_huffman_12 rfl 1 rfl ?_
        refine J_aload_n (pc := 13) C dX7_huffman_13 rfl 0 rfl ?_
        refine J_getR (pc := 14) C dX7_huffman_14 (ci := 7) (k0 := 0) rfl iX7 (by decide) k_212 hf (fun x27 hf => ?_)
        refine J_iload_n (pc := 17) C dX7_huffman_17 rfl 1 rfl ?_
        refine J_aald (Cn := RX0) (pc := 18) C 3 (fun _ => rfl) dX7_huffman_18 hf (fun x28 hf => ?_)
        refine J_getIN (pc := 19) C dX7_huffman_19 (ci := 0) (k0 := 1) rfl iX0 (by decide) n_186 hf (fun x29 hf => ?_)
        refine J_iast (pc := 22) C dX7_huffman_22 hf (fun w30 hf => ?_)
        refine J_iinc (pc := 23) C dX7_huffman_23 1 rfl (y := v1 + 1) rfl (by decide) hf (fun q => [(1, .int q), (0, .ref v0)]) (fun _ => rfl) (fun x31 hf => ?_)
        refine J_goto (pc := 26) C dX7_huffman_26 (tgt := 2) (by decide) ?_
        refine J_sub [1, 0] (L1 := [(0, .ref v0), (1, .int x31)]) rfl ?_
        exact ih w30 v0 x31 hf
  rw [f_X7_huffman] at hf
  refine J_sub [0] (L1 := [(0, .ref v0)]) rfl ?_
  refine J_iconst (pc := 0) C dX7_huffman_0 (v := 0) (by decide) ?_
  refine J_istore_n (pc := 1) C dX7_huffman_1 rfl (by decide) hf (fun q => [(1, .int q), (0, .ref v0)]) (fun _ => rfl) (fun x1 hf => ?_)
  refine J_sub [1, 0] (L1 := [(0, .ref v0), (1, .int x1)]) rfl ?_
  exact B2 fu w v0 x1 hf
set_option maxRecDepth 100000 in
set_option maxHeartbeats 4000000 in
theorem c_X7_takeIfCheaper {l : Launch} {D : va_G} {dA : FieldType → ClassId} (w : MW) (v0 : Nat) (v1 : Int32) (v2 : Int32) {w' : MW} (hf : f_X7_takeIfCheaper w v0 v1 v2 = some w') : CT l D dA yX7_takeIfCheaper cX7_takeIfCheaper 4 none rmX7_takeIfCheaper [.ref v0, .int v1, .int v2] w none w' := by
  refine J_met (by decide) rfl (Nat.le_of_ble_eq_true rfl) (fun p e s m args below meth c A E C => ?_)
  have B27 : ∀ (w : MW) (v0 : Nat) (v1 : Int32) (v2 : Int32) (s0 : Int32), f_X7_takeIfCheaper_27 w v0 v1 v2 s0 = some w' → JW p l e rmX7_takeIfCheaper s m args below meth c 4 D dA A E (MQ below (Qr D dA E none w' A) args s 0 0 A) 0 0 27 [(0, .ref v0), (1, .int v1), (2, .int v2)] [.int s0] w := by
    intro w v0 v1 v2 s0 hf
    rw [f_X7_takeIfCheaper_27] at hf
    refine J_istore_n (pc := 27) C dX7_takeIfCheaper_27 rfl (by decide) hf (fun q => [(3, .int q), (0, .ref v0), (1, .int v1), (2, .int v2)]) (fun _ => rfl) (fun x2 hf => ?_)
    refine J_iload_n (pc := 28) C dX7_takeIfCheaper_28 rfl 0 rfl ?_
    refine J_if_eq (pc := 29) C dX7_takeIfCheaper_29 (tgt := 70) (by decide) hf (fun _ hf => ?_) (fun _ hf => ?_)
    · exact J_vret (pc := 70) C rfl dX7_takeIfCheaper_70 hf
    · refine J_aload_n (pc := 32) C dX7_takeIfCheaper_32 rfl 1 rfl ?_
      refine J_aload_n (pc := 33) C dX7_takeIfCheaper_33 rfl 1 rfl ?_
      refine J_getR (pc := 34) C dX7_takeIfCheaper_34 (ci := 7) (k0 := 0) rfl iX7 (by decide) k_212 hf (fun x3 hf => ?_)
      refine J_iload_n (pc := 37) C dX7_takeIfCheaper_37 rfl 3 rfl ?_
      refine J_aald (Cn := RX0) (pc := 38) C 3 (fun _ => rfl) dX7_takeIfCheaper_38 hf (fun x4 hf => ?_)
      refine J_aload_n (pc := 39) C dX7_takeIfCheaper_39 rfl 1 rfl ?_
      refine J_getR (pc := 40) C dX7_takeIfCheaper_40 (ci := 7) (k0 := 2) rfl iX7 (by decide) k_217 hf (fun x5 hf => ?_)
      obtain ⟨q6, h7, hf⟩ := bind_ok hf
      obtain ⟨_, g8, h7⟩ := cl_spec h7
      refine J_cV (S := []) (pc := 43) C dX7_takeIfCheaper_43 (c_X7_whyNotMelt _ _ _ _ h7) k_647 ys_X7_whyNotMelt ⟨Nat.le_of_ble_eq_true rfl, Nat.le_of_ble_eq_true rfl⟩ ⟨Nat.le_of_ble_eq_true rfl, Nat.le_of_ble_eq_true rfl⟩ g8 rfl rfl (fun _ => Nat.le_of_ble_eq_true rfl) ?_
      refine J_if_ne (pc := 46) C dX7_takeIfCheaper_46 (tgt := 70) (by decide) hf (fun _ hf => ?_) (fun _ hf => ?_)
      · exact J_vret (pc := 70) C rfl dX7_takeIfCheaper_70 hf
      · refine J_aload_n (pc := 49) C dX7_takeIfCheaper_49 rfl 1 rfl ?_
        refine J_iload_n (pc := 50) C dX7_takeIfCheaper_50 rfl 2 rfl ?_
        refine J_put (pc := 51) C dX7_takeIfCheaper_51 (ci := 7) (k0 := 5) rfl iX7 tyX7 tyX7_ok nmX7 (by decide) k_221 rfl (ty := .int) (by decide +kernel) (fun _ => rfl) (fun _ => rfl) hf (fun w9 hf => ?_)
        refine J_aload_n (pc := 54) C dX7_takeIfCheaper_54 rfl 1 rfl ?_
        refine J_iload_n (pc := 55) C dX7_takeIfCheaper_55 rfl 3 rfl ?_
        refine J_put (pc := 56) C dX7_takeIfCheaper_56 (ci := 7) (k0 := 6) rfl iX7 tyX7 tyX7_ok nmX7 (by decide) k_223 rfl (ty := .int) (by decide +kernel) (fun _ => rfl) (fun _ => rfl) hf (fun w10 hf => ?_)
        refine J_aload_n (pc := 59) C dX7_takeIfCheaper_59 rfl 1 rfl ?_
        refine J_aload_n (pc := 60) C dX7_takeIfCheaper_60 rfl 1 rfl ?_
        refine J_getR (pc := 61) C dX7_takeIfCheaper_61 (ci := 7) (k0 := 2) rfl iX7 (by decide) k_217 hf (fun x11 hf => ?_)
        refine J_getIN (pc := 64) C dX7_takeIfCheaper_64 (ci := 9) (k0 := 2) rfl iX9 (by decide) n_157 hf (fun x12 hf => ?_)
        refine J_put (pc := 67) C dX7_takeIfCheaper_67 (ci := 7) (k0 := 7) rfl iX7 tyX7 tyX7_ok nmX7 (by decide) k_225 rfl (ty := .int) (by decide +kernel) (fun _ => rfl) (fun _ => rfl) hf (fun w13 hf => ?_)
        exact J_vret (pc := 70) C rfl dX7_takeIfCheaper_70 hf
  rw [f_X7_takeIfCheaper] at hf
  refine J_sub [0, 1, 2] (L1 := [(0, .ref v0), (1, .int v1), (2, .int v2)]) rfl ?_
  refine J_aload_n (pc := 0) C dX7_takeIfCheaper_0 rfl 0 rfl ?_
  refine J_getI (pc := 1) C dX7_takeIfCheaper_1 (ci := 7) (k0 := 7) rfl iX7 (by decide) k_225 hf (fun x1 hf => ?_)
  refine J_iconst (pc := 4) C dX7_takeIfCheaper_4 (v := -1) (by decide) ?_
  refine J_icmp_eq (pc := 5) C dX7_takeIfCheaper_5 (tgt := 22) (by decide) hf (fun _ hf => ?_) (fun _ hf => ?_)
  · refine J_iconst (pc := 22) C dX7_takeIfCheaper_22 (v := 1) (by decide) ?_
    refine J_goto (pc := 23) C dX7_takeIfCheaper_23 (tgt := 27) (by decide) ?_
    refine J_sub [0, 1, 2] (L1 := [(0, .ref v0), (1, .int v1), (2, .int v2)]) rfl ?_
    exact B27 w v0 v1 v2 (1 : Int32) hf
  · refine J_aload_n (pc := 8) C dX7_takeIfCheaper_8 rfl 0 rfl ?_
    refine J_getR (pc := 9) C dX7_takeIfCheaper_9 (ci := 7) (k0 := 2) rfl iX7 (by decide) k_217 hf (fun x14 hf => ?_)
    refine J_getIN (pc := 12) C dX7_takeIfCheaper_12 (ci := 9) (k0 := 2) rfl iX9 (by decide) n_157 hf (fun x15 hf => ?_)
    refine J_aload_n (pc := 15) C dX7_takeIfCheaper_15 rfl 0 rfl ?_
    refine J_getI (pc := 16) C dX7_takeIfCheaper_16 (ci := 7) (k0 := 7) rfl iX7 (by decide) k_225 hf (fun x16 hf => ?_)
    refine J_icmp_ge (pc := 19) C dX7_takeIfCheaper_19 (tgt := 26) (by decide) hf (fun _ hf => ?_) (fun _ hf => ?_)
    · refine J_iconst (pc := 26) C dX7_takeIfCheaper_26 (v := 0) (by decide) ?_
      refine J_sub [0, 1, 2] (L1 := [(0, .ref v0), (1, .int v1), (2, .int v2)]) rfl ?_
      exact B27 w v0 v1 v2 (0 : Int32) hf
    · refine J_iconst (pc := 22) C dX7_takeIfCheaper_22 (v := 1) (by decide) ?_
      refine J_goto (pc := 23) C dX7_takeIfCheaper_23 (tgt := 27) (by decide) ?_
      refine J_sub [0, 1, 2] (L1 := [(0, .ref v0), (1, .int v1), (2, .int v2)]) rfl ?_
      exact B27 w v0 v1 v2 (1 : Int32) hf
set_option maxRecDepth 100000 in
set_option maxHeartbeats 4000000 in
theorem c_X7_findCheapest {l : Launch} {D : va_G} {dA : FieldType → ClassId} (fu : Nat) (w : MW) (v0 : Nat) {w' : MW} (hf : f_X7_findCheapest fu w v0 = some w') : CT l D dA yX7_findCheapest cX7_findCheapest 3 none rmX7_findCheapest [.ref v0] w none w' := by
  refine J_met (by decide) rfl (Nat.le_of_ble_eq_true rfl) (fun p e s m args below meth c A E C => ?_)
  have B82 : ∀ (lr17 : MW → Nat → Int32 → Option MW) (lh17 : ∀ (w : MW) (v0 : Nat) (v1 : Int32), lr17 w v0 v1 = some w' → JW p l e rmX7_findCheapest s m args below meth c 3 D dA A E (MQ below (Qr D dA E none w' A) args s 0 0 A) 0 0 17 [(0, .ref v0), (1, .int v1)] [] w) (lr27 : MW → Nat → Int32 → Int32 → Option MW) (lh27 : ∀ (w : MW) (v0 : Nat) (v1 : Int32) (v2 : Int32), lr27 w v0 v1 v2 = some w' → JW p l e rmX7_findCheapest s m args below meth c 3 D dA A E (MQ below (Qr D dA E none w' A) args s 0 0 A) 0 0 27 [(0, .ref v0), (1, .int v1), (2, .int v2)] [] w) (w : MW) (v0 : Nat) (v1 : Int32) (v2 : Int32), f_X7_findCheapest_82 fu lr17 lr27 w v0 v1 v2 = some w' → JW p l e rmX7_findCheapest s m args below meth c 3 D dA A E (MQ below (Qr D dA E none w' A) args s 0 0 A) 0 0 82 [(0, .ref v0), (1, .int v1), (2, .int v2)] [] w := by
    intro lr17 lh17 lr27 lh27 w v0 v1 v2 hf
    rw [f_X7_findCheapest_82] at hf
    refine J_iinc (pc := 82) C dX7_findCheapest_82 2 rfl (y := v2 + 1) rfl (by decide) hf (fun q => [(2, .int q), (0, .ref v0), (1, .int v1)]) (fun _ => rfl) (fun x10 hf => ?_)
    refine J_goto (pc := 85) C dX7_findCheapest_85 (tgt := 27) (by decide) ?_
    refine J_sub [1, 2, 0] (L1 := [(0, .ref v0), (1, .int v1), (2, .int x10)]) rfl ?_
    exact lh27 w v0 v1 x10 hf
  have B27 : ∀ (lr17 : MW → Nat → Int32 → Option MW) (lh17 : ∀ (w : MW) (v0 : Nat) (v1 : Int32), lr17 w v0 v1 = some w' → JW p l e rmX7_findCheapest s m args below meth c 3 D dA A E (MQ below (Qr D dA E none w' A) args s 0 0 A) 0 0 17 [(0, .ref v0), (1, .int v1)] [] w) (n : Nat) (w : MW) (v0 : Nat) (v1 : Int32) (v2 : Int32), f_X7_findCheapest_27 fu lr17 n w v0 v1 v2 = some w' → JW p l e rmX7_findCheapest s m args below meth c 3 D dA A E (MQ below (Qr D dA E none w' A) args s 0 0 A) 0 0 27 [(0, .ref v0), (1, .int v1), (2, .int v2)] [] w := by
    intro lr17 lh17 n
    induction n with
    | zero => intro w v0 v1 v2 hf; rw [f_X7_findCheapest_27] at hf; cases hf
    | succ n ih =>
      intro w v0 v1 v2 hf
      rw [f_X7_findCheapest_27] at hf
      refine J_iload_n (pc := 27) C dX7_findCheapest_27 rfl 2 rfl ?_
      refine J_bipush (pc := 28) C dX7_findCheapest_28 (v := 8) (by decide) ?_
      refine J_icmp_ge (pc := 30) C dX7_findCheapest_30 (tgt := 88) (by decide) hf (fun _ hf => ?_) (fun _ hf => ?_)
      · refine J_iinc (pc := 88) C dX7_findCheapest_88 1 rfl (y := v1 + 1) rfl (by decide) hf (fun q => [(1, .int q), (0, .ref v0), (2, .int v2)]) (fun _ => rfl) (fun x6 hf => ?_)
        refine J_goto (pc := 91) C dX7_findCheapest_91 (tgt := 17) (by decide) ?_
        refine J_sub [1, 0] (L1 := [(0, .ref v0), (1, .int x6)]) rfl ?_
        exact lh17 w v0 x6 hf
      · refine J_aload_n (pc := 33) C dX7_findCheapest_33 rfl 0 rfl ?_
        refine J_getR (pc := 34) C dX7_findCheapest_34 (ci := 7) (k0 := 0) rfl iX7 (by decide) k_212 hf (fun x7 hf => ?_)
        refine J_iload_n (pc := 37) C dX7_findCheapest_37 rfl 1 rfl ?_
        refine J_aald (Cn := RX0) (pc := 38) C 3 (fun _ => rfl) dX7_findCheapest_38 hf (fun x8 hf => ?_)
        refine J_getIN (pc := 39) C dX7_findCheapest_39 (ci := 0) (k0 := 1) rfl iX0 (by decide) n_186 hf (fun x9 hf => ?_)
        refine J_if_le (pc := 42) C dX7_findCheapest_42 (tgt := 82) (by decide) hf (fun _ hf => ?_) (fun _ hf => ?_)
        · refine J_sub [0, 1, 2] (L1 := [(0, .ref v0), (1, .int v1), (2, .int v2)]) rfl ?_
          exact B82 lr17 lh17 (f_X7_findCheapest_27 fu lr17 n) ih w v0 v1 v2 hf
        · refine J_aload_n (pc := 45) C dX7_findCheapest_45 rfl 0 rfl ?_
          refine J_getR (pc := 46) C dX7_findCheapest_46 (ci := 7) (k0 := 0) rfl iX7 (by decide) k_212 hf (fun x11 hf => ?_)
          refine J_iload_n (pc := 49) C dX7_findCheapest_49 rfl 2 rfl ?_
          refine J_aald (Cn := RX0) (pc := 50) C 3 (fun _ => rfl) dX7_findCheapest_50 hf (fun x12 hf => ?_)
          refine J_getIN (pc := 51) C dX7_findCheapest_51 (ci := 0) (k0 := 1) rfl iX0 (by decide) n_186 hf (fun x13 hf => ?_)
          refine J_if_le (pc := 54) C dX7_findCheapest_54 (tgt := 82) (by decide) hf (fun _ hf => ?_) (fun _ hf => ?_)
          · refine J_sub [0, 1, 2] (L1 := [(0, .ref v0), (1, .int v1), (2, .int v2)]) rfl ?_
            exact B82 lr17 lh17 (f_X7_findCheapest_27 fu lr17 n) ih w v0 v1 v2 hf
          · refine J_aload_n (pc := 57) C dX7_findCheapest_57 rfl 0 rfl ?_
            refine J_getR (pc := 58) C dX7_findCheapest_58 (ci := 7) (k0 := 2) rfl iX7 (by decide) k_217 hf (fun x14 hf => ?_)
            refine J_aload_n (pc := 61) C dX7_findCheapest_61 rfl 0 rfl ?_
            refine J_getR (pc := 62) C dX7_findCheapest_62 (ci := 7) (k0 := 0) rfl iX7 (by decide) k_212 hf (fun x15 hf => ?_)
            refine J_iload_n (pc := 65) C dX7_findCheapest_65 rfl 1 rfl ?_
            refine J_aald (Cn := RX0) (pc := 66) C 3 (fun _ => rfl) dX7_findCheapest_66 hf (fun x16 hf => ?_)
            refine J_aload_n (pc := 67) C dX7_findCheapest_67 rfl 0 rfl ?_
            refine J_getR (pc := 68) C dX7_findCheapest_68 (ci := 7) (k0 := 0) rfl iX7 (by decide) k_212 hf (fun x17 hf => ?_)
            refine J_iload_n (pc := 71) C dX7_findCheapest_71 rfl 2 rfl ?_
            refine J_aald (Cn := RX0) (pc := 72) C 3 (fun _ => rfl) dX7_findCheapest_72 hf (fun x18 hf => ?_)
            obtain ⟨q19, h20, hf⟩ := bind_ok hf
            obtain ⟨_, g21, h20⟩ := cl_spec h20
            refine J_cV (S := []) (pc := 73) C dX7_findCheapest_73 (c_X9_weave _ _ _ _ _ h20) k_632 ys_X9_weave ⟨Nat.le_of_ble_eq_true rfl, Nat.le_of_ble_eq_true rfl⟩ ⟨Nat.le_of_ble_eq_true rfl, Nat.le_of_ble_eq_true rfl⟩ g21 rfl rfl (fun _ => Nat.le_of_ble_eq_true rfl) ?_
            refine J_aload_n (pc := 76) C dX7_findCheapest_76 rfl 0 rfl ?_
            refine J_iload_n (pc := 77) C dX7_findCheapest_77 rfl 1 rfl ?_
            refine J_iload_n (pc := 78) C dX7_findCheapest_78 rfl 2 rfl ?_
            obtain ⟨q22, h23, hf⟩ := bind_ok hf
            obtain ⟨_, g24, h23⟩ := cl_spec h23
            refine J_cV (S := []) (pc := 79) C dX7_findCheapest_79 (c_X7_takeIfCheaper _ _ _ _ h23) k_940 ys_X7_takeIfCheaper ⟨Nat.le_of_ble_eq_true rfl, Nat.le_of_ble_eq_true rfl⟩ ⟨Nat.le_of_ble_eq_true rfl, Nat.le_of_ble_eq_true rfl⟩ g24 rfl rfl (fun _ => Nat.le_of_ble_eq_true rfl) ?_
            refine J_sub [0, 1, 2] (L1 := [(0, .ref v0), (1, .int v1), (2, .int v2)]) rfl ?_
            exact B82 lr17 lh17 (f_X7_findCheapest_27 fu lr17 n) ih q22 v0 v1 v2 hf
  have B17 : ∀ (n : Nat) (w : MW) (v0 : Nat) (v1 : Int32), f_X7_findCheapest_17 fu n w v0 v1 = some w' → JW p l e rmX7_findCheapest s m args below meth c 3 D dA A E (MQ below (Qr D dA E none w' A) args s 0 0 A) 0 0 17 [(0, .ref v0), (1, .int v1)] [] w := by
    intro n
    induction n with
    | zero => intro w v0 v1 hf; rw [f_X7_findCheapest_17] at hf; cases hf
    | succ n ih =>
      intro w v0 v1 hf
      rw [f_X7_findCheapest_17] at hf
      refine J_iload_n (pc := 17) C dX7_findCheapest_17 rfl 1 rfl ?_
      refine J_bipush (pc := 18) C dX7_findCheapest_18 (v := 8) (by decide) ?_
      refine J_icmp_ge (pc := 20) C dX7_findCheapest_20 (tgt := 94) (by decide) hf (fun _ hf => ?_) (fun _ hf => ?_)
      · exact J_vret (pc := 94) C rfl dX7_findCheapest_94 hf
      · refine J_iload_n (pc := 23) C dX7_findCheapest_23 rfl 1 rfl ?_
        refine J_iconst (pc := 24) C dX7_findCheapest_24 (v := 1) (by decide) ?_
        refine J_iadd (pc := 25) C dX7_findCheapest_25 ?_
        refine J_istore_n (pc := 26) C dX7_findCheapest_26 rfl (by decide) hf (fun q => [(2, .int q), (0, .ref v0), (1, .int v1)]) (fun _ => rfl) (fun x5 hf => ?_)
        refine J_sub [1, 2, 0] (L1 := [(0, .ref v0), (1, .int v1), (2, .int x5)]) rfl ?_
        exact B27 (f_X7_findCheapest_17 fu n) ih fu w v0 v1 x5 hf
  rw [f_X7_findCheapest] at hf
  refine J_sub [0] (L1 := [(0, .ref v0)]) rfl ?_
  refine J_aload_n (pc := 0) C dX7_findCheapest_0 rfl 0 rfl ?_
  refine J_iconst (pc := 1) C dX7_findCheapest_1 (v := -1) (by decide) ?_
  refine J_put (pc := 2) C dX7_findCheapest_2 (ci := 7) (k0 := 5) rfl iX7 tyX7 tyX7_ok nmX7 (by decide) k_221 rfl (ty := .int) (by decide +kernel) (fun _ => rfl) (fun _ => rfl) hf (fun w1 hf => ?_)
  refine J_aload_n (pc := 5) C dX7_findCheapest_5 rfl 0 rfl ?_
  refine J_iconst (pc := 6) C dX7_findCheapest_6 (v := -1) (by decide) ?_
  refine J_put (pc := 7) C dX7_findCheapest_7 (ci := 7) (k0 := 6) rfl iX7 tyX7 tyX7_ok nmX7 (by decide) k_223 rfl (ty := .int) (by decide +kernel) (fun _ => rfl) (fun _ => rfl) hf (fun w2 hf => ?_)
  refine J_aload_n (pc := 10) C dX7_findCheapest_10 rfl 0 rfl ?_
  refine J_iconst (pc := 11) C dX7_findCheapest_11 (v := -1) (by decide) ?_
  refine J_put (pc := 12) C dX7_findCheapest_12 (ci := 7) (k0 := 7) rfl iX7 tyX7 tyX7_ok nmX7 (by decide) k_225 rfl (ty := .int) (by decide +kernel) (fun _ => rfl) (fun _ => rfl) hf (fun w3 hf => ?_)
  refine J_iconst (pc := 15) C dX7_findCheapest_15 (v := 0) (by decide) ?_
  refine J_istore_n (pc := 16) C dX7_findCheapest_16 rfl (by decide) hf (fun q => [(1, .int q), (0, .ref v0)]) (fun _ => rfl) (fun x4 hf => ?_)
  refine J_sub [1, 0] (L1 := [(0, .ref v0), (1, .int x4)]) rfl ?_
  exact B17 fu w3 v0 x4 hf
set_option maxRecDepth 100000 in
set_option maxHeartbeats 4000000 in
theorem c_X8_keyOf {l : Launch} {D : va_G} {dA : FieldType → ClassId} (w : MW) (v0 : Nat) (v1 : Int32) {rr : Int32} (hf : f_X8_keyOf w v0 v1 = some rr) : CT l D dA yX8_keyOf cX8_keyOf 2 (some .int) rmX8_keyOf [.ref v0, .int v1] w (some (.int rr)) w := by
  refine J_met (by decide) rfl (Nat.le_of_ble_eq_true rfl) (fun p e s m args below meth c A E C => ?_)
  rw [f_X8_keyOf] at hf
  refine J_sub [0, 1] (L1 := [(0, .ref v0), (1, .int v1)]) rfl ?_
  refine J_aload_n (pc := 0) C dX8_keyOf_0 rfl 0 rfl ?_
  refine J_iload_n (pc := 1) C dX8_keyOf_1 rfl 1 rfl ?_
  obtain ⟨q1, h2, hf⟩ := bind_ok hf
  obtain ⟨_, g3, h2⟩ := cl_spec h2
  refine J_cV (S := []) (pc := 2) C dX8_keyOf_2 (c_X8_isNode _ _ _ h2) k_783 ys_X8_isNode ⟨Nat.le_of_ble_eq_true rfl, Nat.le_of_ble_eq_true rfl⟩ ⟨Nat.le_of_ble_eq_true rfl, Nat.le_of_ble_eq_true rfl⟩ g3 rfl rfl (fun _ => Nat.le_of_ble_eq_true rfl) ?_
  refine J_if_eq (pc := 5) C dX8_keyOf_5 (tgt := 17) (by decide) hf (fun _ hf => ?_) (fun _ hf => ?_)
  · refine J_iconst (pc := 17) C dX8_keyOf_17 (v := -1) (by decide) ?_
    exact J_iretP (pc := 18) C  rfl rfl dX8_keyOf_18 hf
  · refine J_aload_n (pc := 8) C dX8_keyOf_8 rfl 0 rfl ?_
    refine J_getR (pc := 9) C dX8_keyOf_9 (ci := 8) (k0 := 0) rfl iX8 (by decide) k_117 hf (fun x4 hf => ?_)
    refine J_iload_n (pc := 12) C dX8_keyOf_12 rfl 1 rfl ?_
    refine J_iald (pc := 13) C dX8_keyOf_13 hf (fun x5 hf => ?_)
    refine J_goto (pc := 14) C dX8_keyOf_14 (tgt := 18) (by decide) ?_
    exact J_iretP (pc := 18) C  rfl rfl dX8_keyOf_18 hf
set_option maxRecDepth 100000 in
set_option maxHeartbeats 4000000 in
theorem c_X8_rootKey {l : Launch} {D : va_G} {dA : FieldType → ClassId} (w : MW) (v0 : Nat) {rr : Int32} (hf : f_X8_rootKey w v0 = some rr) : CT l D dA yX8_rootKey cX8_rootKey 1 (some .int) rmX8_rootKey [.ref v0] w (some (.int rr)) w := by
  refine J_met (by decide) rfl (Nat.le_of_ble_eq_true rfl) (fun p e s m args below meth c A E C => ?_)
  rw [f_X8_rootKey] at hf
  refine J_sub [0] (L1 := [(0, .ref v0)]) rfl ?_
  refine J_aload_n (pc := 0) C dX8_rootKey_0 rfl 0 rfl ?_
  refine J_aload_n (pc := 1) C dX8_rootKey_1 rfl 0 rfl ?_
  refine J_getI (pc := 2) C dX8_rootKey_2 (ci := 8) (k0 := 8) rfl iX8 (by decide) k_125 hf (fun x1 hf => ?_)
  obtain ⟨q2, h3, hf⟩ := bind_ok hf
  obtain ⟨_, g4, h3⟩ := cl_spec h3
  refine J_cV (S := []) (pc := 5) C dX8_rootKey_5 (c_X8_keyOf _ _ _ h3) k_817 ys_X8_keyOf ⟨Nat.le_of_ble_eq_true rfl, Nat.le_of_ble_eq_true rfl⟩ ⟨Nat.le_of_ble_eq_true rfl, Nat.le_of_ble_eq_true rfl⟩ g4 rfl rfl (fun _ => Nat.le_of_ble_eq_true rfl) ?_
  exact J_iretP (pc := 8) C  rfl rfl dX8_rootKey_8 hf
set_option maxRecDepth 100000 in
set_option maxHeartbeats 4000000 in
theorem c_X8_depthAt {l : Launch} {D : va_G} {dA : FieldType → ClassId} (w : MW) (v0 : Nat) (v1 : Int32) {rr : Int32} (hf : f_X8_depthAt w v0 v1 = some rr) : CT l D dA yX8_depthAt cX8_depthAt 2 (some .int) rmX8_depthAt [.ref v0, .int v1] w (some (.int rr)) w := by
  refine J_met (by decide) rfl (Nat.le_of_ble_eq_true rfl) (fun p e s m args below meth c A E C => ?_)
  rw [f_X8_depthAt] at hf
  refine J_sub [0, 1] (L1 := [(0, .ref v0), (1, .int v1)]) rfl ?_
  refine J_aload_n (pc := 0) C dX8_depthAt_0 rfl 0 rfl ?_
  refine J_iload_n (pc := 1) C dX8_depthAt_1 rfl 1 rfl ?_
  obtain ⟨q1, h2, hf⟩ := bind_ok hf
  obtain ⟨_, g3, h2⟩ := cl_spec h2
  refine J_cV (S := []) (pc := 2) C dX8_depthAt_2 (c_X8_isNode _ _ _ h2) k_783 ys_X8_isNode ⟨Nat.le_of_ble_eq_true rfl, Nat.le_of_ble_eq_true rfl⟩ ⟨Nat.le_of_ble_eq_true rfl, Nat.le_of_ble_eq_true rfl⟩ g3 rfl rfl (fun _ => Nat.le_of_ble_eq_true rfl) ?_
  refine J_if_eq (pc := 5) C dX8_depthAt_5 (tgt := 17) (by decide) hf (fun _ hf => ?_) (fun _ hf => ?_)
  · refine J_iconst (pc := 17) C dX8_depthAt_17 (v := -1) (by decide) ?_
    exact J_iretP (pc := 18) C  rfl rfl dX8_depthAt_18 hf
  · refine J_aload_n (pc := 8) C dX8_depthAt_8 rfl 0 rfl ?_
    refine J_getR (pc := 9) C dX8_depthAt_9 (ci := 8) (k0 := 4) rfl iX8 (by decide) k_121 hf (fun x4 hf => ?_)
    refine J_iload_n (pc := 12) C dX8_depthAt_12 rfl 1 rfl ?_
    refine J_iald (pc := 13) C dX8_depthAt_13 hf (fun x5 hf => ?_)
    refine J_goto (pc := 14) C dX8_depthAt_14 (tgt := 18) (by decide) ?_
    exact J_iretP (pc := 18) C  rfl rfl dX8_depthAt_18 hf
set_option maxRecDepth 100000 in
set_option maxHeartbeats 4000000 in
theorem c_X8_keyAbove {l : Launch} {D : va_G} {dA : FieldType → ClassId} (w : MW) (v0 : Nat) (v1 : Int32) {rr : Int32} (hf : f_X8_keyAbove w v0 v1 = some rr) : CT l D dA yX8_keyAbove cX8_keyAbove 2 (some .int) rmX8_keyAbove [.ref v0, .int v1] w (some (.int rr)) w := by
  refine J_met (by decide) rfl (Nat.le_of_ble_eq_true rfl) (fun p e s m args below meth c A E C => ?_)
  rw [f_X8_keyAbove] at hf
  refine J_sub [0, 1] (L1 := [(0, .ref v0), (1, .int v1)]) rfl ?_
  refine J_aload_n (pc := 0) C dX8_keyAbove_0 rfl 0 rfl ?_
  refine J_iload_n (pc := 1) C dX8_keyAbove_1 rfl 1 rfl ?_
  obtain ⟨q1, h2, hf⟩ := bind_ok hf
  obtain ⟨_, g3, h2⟩ := cl_spec h2
  refine J_cV (S := []) (pc := 2) C dX8_keyAbove_2 (c_X8_isNode _ _ _ h2) k_783 ys_X8_isNode ⟨Nat.le_of_ble_eq_true rfl, Nat.le_of_ble_eq_true rfl⟩ ⟨Nat.le_of_ble_eq_true rfl, Nat.le_of_ble_eq_true rfl⟩ g3 rfl rfl (fun _ => Nat.le_of_ble_eq_true rfl) ?_
  refine J_if_eq (pc := 5) C dX8_keyAbove_5 (tgt := 21) (by decide) hf (fun _ hf => ?_) (fun _ hf => ?_)
  · refine J_iconst (pc := 21) C dX8_keyAbove_21 (v := -1) (by decide) ?_
    exact J_iretP (pc := 22) C  rfl rfl dX8_keyAbove_22 hf
  · refine J_aload_n (pc := 8) C dX8_keyAbove_8 rfl 0 rfl ?_
    refine J_aload_n (pc := 9) C dX8_keyAbove_9 rfl 0 rfl ?_
    refine J_getR (pc := 10) C dX8_keyAbove_10 (ci := 8) (k0 := 1) rfl iX8 (by decide) k_118 hf (fun x4 hf => ?_)
    refine J_iload_n (pc := 13) C dX8_keyAbove_13 rfl 1 rfl ?_
    refine J_iald (pc := 14) C dX8_keyAbove_14 hf (fun x5 hf => ?_)
    obtain ⟨q6, h7, hf⟩ := bind_ok hf
    obtain ⟨_, g8, h7⟩ := cl_spec h7
    refine J_cV (S := []) (pc := 15) C dX8_keyAbove_15 (c_X8_keyOf _ _ _ h7) k_817 ys_X8_keyOf ⟨Nat.le_of_ble_eq_true rfl, Nat.le_of_ble_eq_true rfl⟩ ⟨Nat.le_of_ble_eq_true rfl, Nat.le_of_ble_eq_true rfl⟩ g8 rfl rfl (fun _ => Nat.le_of_ble_eq_true rfl) ?_
    refine J_goto (pc := 18) C dX8_keyAbove_18 (tgt := 22) (by decide) ?_
    exact J_iretP (pc := 22) C  rfl rfl dX8_keyAbove_22 hf
set_option maxRecDepth 100000 in
set_option maxHeartbeats 4000000 in
theorem c_X8_keyAtLeft {l : Launch} {D : va_G} {dA : FieldType → ClassId} (w : MW) (v0 : Nat) (v1 : Int32) {rr : Int32} (hf : f_X8_keyAtLeft w v0 v1 = some rr) : CT l D dA yX8_keyAtLeft cX8_keyAtLeft 2 (some .int) rmX8_keyAtLeft [.ref v0, .int v1] w (some (.int rr)) w := by
  refine J_met (by decide) rfl (Nat.le_of_ble_eq_true rfl) (fun p e s m args below meth c A E C => ?_)
  rw [f_X8_keyAtLeft] at hf
  refine J_sub [0, 1] (L1 := [(0, .ref v0), (1, .int v1)]) rfl ?_
  refine J_aload_n (pc := 0) C dX8_keyAtLeft_0 rfl 0 rfl ?_
  refine J_iload_n (pc := 1) C dX8_keyAtLeft_1 rfl 1 rfl ?_
  obtain ⟨q1, h2, hf⟩ := bind_ok hf
  obtain ⟨_, g3, h2⟩ := cl_spec h2
  refine J_cV (S := []) (pc := 2) C dX8_keyAtLeft_2 (c_X8_isNode _ _ _ h2) k_783 ys_X8_isNode ⟨Nat.le_of_ble_eq_true rfl, Nat.le_of_ble_eq_true rfl⟩ ⟨Nat.le_of_ble_eq_true rfl, Nat.le_of_ble_eq_true rfl⟩ g3 rfl rfl (fun _ => Nat.le_of_ble_eq_true rfl) ?_
  refine J_if_eq (pc := 5) C dX8_keyAtLeft_5 (tgt := 21) (by decide) hf (fun _ hf => ?_) (fun _ hf => ?_)
  · refine J_iconst (pc := 21) C dX8_keyAtLeft_21 (v := -1) (by decide) ?_
    exact J_iretP (pc := 22) C  rfl rfl dX8_keyAtLeft_22 hf
  · refine J_aload_n (pc := 8) C dX8_keyAtLeft_8 rfl 0 rfl ?_
    refine J_aload_n (pc := 9) C dX8_keyAtLeft_9 rfl 0 rfl ?_
    refine J_getR (pc := 10) C dX8_keyAtLeft_10 (ci := 8) (k0 := 2) rfl iX8 (by decide) k_119 hf (fun x4 hf => ?_)
    refine J_iload_n (pc := 13) C dX8_keyAtLeft_13 rfl 1 rfl ?_
    refine J_iald (pc := 14) C dX8_keyAtLeft_14 hf (fun x5 hf => ?_)
    obtain ⟨q6, h7, hf⟩ := bind_ok hf
    obtain ⟨_, g8, h7⟩ := cl_spec h7
    refine J_cV (S := []) (pc := 15) C dX8_keyAtLeft_15 (c_X8_keyOf _ _ _ h7) k_817 ys_X8_keyOf ⟨Nat.le_of_ble_eq_true rfl, Nat.le_of_ble_eq_true rfl⟩ ⟨Nat.le_of_ble_eq_true rfl, Nat.le_of_ble_eq_true rfl⟩ g8 rfl rfl (fun _ => Nat.le_of_ble_eq_true rfl) ?_
    refine J_goto (pc := 18) C dX8_keyAtLeft_18 (tgt := 22) (by decide) ?_
    exact J_iretP (pc := 22) C  rfl rfl dX8_keyAtLeft_22 hf
set_option maxRecDepth 100000 in
set_option maxHeartbeats 4000000 in
theorem c_X8_keyAtRight {l : Launch} {D : va_G} {dA : FieldType → ClassId} (w : MW) (v0 : Nat) (v1 : Int32) {rr : Int32} (hf : f_X8_keyAtRight w v0 v1 = some rr) : CT l D dA yX8_keyAtRight cX8_keyAtRight 2 (some .int) rmX8_keyAtRight [.ref v0, .int v1] w (some (.int rr)) w := by
  refine J_met (by decide) rfl (Nat.le_of_ble_eq_true rfl) (fun p e s m args below meth c A E C => ?_)
  rw [f_X8_keyAtRight] at hf
  refine J_sub [0, 1] (L1 := [(0, .ref v0), (1, .int v1)]) rfl ?_
  refine J_aload_n (pc := 0) C dX8_keyAtRight_0 rfl 0 rfl ?_
  refine J_iload_n (pc := 1) C dX8_keyAtRight_1 rfl 1 rfl ?_
  obtain ⟨q1, h2, hf⟩ := bind_ok hf
  obtain ⟨_, g3, h2⟩ := cl_spec h2
  refine J_cV (S := []) (pc := 2) C dX8_keyAtRight_2 (c_X8_isNode _ _ _ h2) k_783 ys_X8_isNode ⟨Nat.le_of_ble_eq_true rfl, Nat.le_of_ble_eq_true rfl⟩ ⟨Nat.le_of_ble_eq_true rfl, Nat.le_of_ble_eq_true rfl⟩ g3 rfl rfl (fun _ => Nat.le_of_ble_eq_true rfl) ?_
  refine J_if_eq (pc := 5) C dX8_keyAtRight_5 (tgt := 21) (by decide) hf (fun _ hf => ?_) (fun _ hf => ?_)
  · refine J_iconst (pc := 21) C dX8_keyAtRight_21 (v := -1) (by decide) ?_
    exact J_iretP (pc := 22) C  rfl rfl dX8_keyAtRight_22 hf
  · refine J_aload_n (pc := 8) C dX8_keyAtRight_8 rfl 0 rfl ?_
    refine J_aload_n (pc := 9) C dX8_keyAtRight_9 rfl 0 rfl ?_
    refine J_getR (pc := 10) C dX8_keyAtRight_10 (ci := 8) (k0 := 3) rfl iX8 (by decide) k_120 hf (fun x4 hf => ?_)
    refine J_iload_n (pc := 13) C dX8_keyAtRight_13 rfl 1 rfl ?_
    refine J_iald (pc := 14) C dX8_keyAtRight_14 hf (fun x5 hf => ?_)
    obtain ⟨q6, h7, hf⟩ := bind_ok hf
    obtain ⟨_, g8, h7⟩ := cl_spec h7
    refine J_cV (S := []) (pc := 15) C dX8_keyAtRight_15 (c_X8_keyOf _ _ _ h7) k_817 ys_X8_keyOf ⟨Nat.le_of_ble_eq_true rfl, Nat.le_of_ble_eq_true rfl⟩ ⟨Nat.le_of_ble_eq_true rfl, Nat.le_of_ble_eq_true rfl⟩ g8 rfl rfl (fun _ => Nat.le_of_ble_eq_true rfl) ?_
    refine J_goto (pc := 18) C dX8_keyAtRight_18 (tgt := 22) (by decide) ?_
    exact J_iretP (pc := 22) C  rfl rfl dX8_keyAtRight_22 hf
set_option maxRecDepth 100000 in
set_option maxHeartbeats 4000000 in
theorem c_X8_howManyBelow {l : Launch} {D : va_G} {dA : FieldType → ClassId} (w : MW) (v0 : Nat) (v1 : Int32) {rr : Int32} (hf : f_X8_howManyBelow w v0 v1 = some rr) : CT l D dA yX8_howManyBelow cX8_howManyBelow 2 (some .int) rmX8_howManyBelow [.ref v0, .int v1] w (some (.int rr)) w := by
  refine J_met (by decide) rfl (Nat.le_of_ble_eq_true rfl) (fun p e s m args below meth c A E C => ?_)
  rw [f_X8_howManyBelow] at hf
  refine J_sub [0, 1] (L1 := [(0, .ref v0), (1, .int v1)]) rfl ?_
  refine J_aload_n (pc := 0) C dX8_howManyBelow_0 rfl 0 rfl ?_
  refine J_iload_n (pc := 1) C dX8_howManyBelow_1 rfl 1 rfl ?_
  obtain ⟨q1, h2, hf⟩ := bind_ok hf
  obtain ⟨_, g3, h2⟩ := cl_spec h2
  refine J_cV (S := []) (pc := 2) C dX8_howManyBelow_2 (c_X8_isNode _ _ _ h2) k_783 ys_X8_isNode ⟨Nat.le_of_ble_eq_true rfl, Nat.le_of_ble_eq_true rfl⟩ ⟨Nat.le_of_ble_eq_true rfl, Nat.le_of_ble_eq_true rfl⟩ g3 rfl rfl (fun _ => Nat.le_of_ble_eq_true rfl) ?_
  refine J_if_eq (pc := 5) C dX8_howManyBelow_5 (tgt := 17) (by decide) hf (fun _ hf => ?_) (fun _ hf => ?_)
  · refine J_iconst (pc := 17) C dX8_howManyBelow_17 (v := -1) (by decide) ?_
    exact J_iretP (pc := 18) C  rfl rfl dX8_howManyBelow_18 hf
  · refine J_aload_n (pc := 8) C dX8_howManyBelow_8 rfl 0 rfl ?_
    refine J_getR (pc := 9) C dX8_howManyBelow_9 (ci := 8) (k0 := 5) rfl iX8 (by decide) k_122 hf (fun x4 hf => ?_)
    refine J_iload_n (pc := 12) C dX8_howManyBelow_12 rfl 1 rfl ?_
    refine J_iald (pc := 13) C dX8_howManyBelow_13 hf (fun x5 hf => ?_)
    refine J_goto (pc := 14) C dX8_howManyBelow_14 (tgt := 18) (by decide) ?_
    exact J_iretP (pc := 18) C  rfl rfl dX8_howManyBelow_18 hf
set_option maxRecDepth 100000 in
set_option maxHeartbeats 4000000 in
theorem c_X8_high {l : Launch} {D : va_G} {dA : FieldType → ClassId} (fu : Nat) (w : MW) (v0 : Nat) {rr : Int32} (hf : f_X8_high fu w v0 = some rr) : CT l D dA yX8_high cX8_high 3 (some .int) rmX8_high [.ref v0] w (some (.int rr)) w := by
  refine J_met (by decide) rfl (Nat.le_of_ble_eq_true rfl) (fun p e s m args below meth c A E C => ?_)
  have B4 : ∀ (n : Nat) (v0 : Nat) (v1 : Int32) (v2 : Int32), f_X8_high_4 fu w n v0 v1 v2 = some rr → JW p l e rmX8_high s m args below meth c 3 D dA A E (MQ below (Qr D dA E (some (.int rr)) w A) args s 0 0 A) 0 0 4 [(0, .ref v0), (1, .int v1), (2, .int v2)] [] w := by
    intro n
    induction n with
    | zero => intro v0 v1 v2 hf; rw [f_X8_high_4] at hf; cases hf
    | succ n ih =>
      intro v0 v1 v2 hf
      rw [f_X8_high_4] at hf
      refine J_iload_n (pc := 4) C dX8_high_4 rfl 2 rfl ?_
      refine J_aload_n (pc := 5) C dX8_high_5 rfl 0 rfl ?_
      refine J_getI (pc := 6) C dX8_high_6 (ci := 8) (k0 := 7) rfl iX8 (by decide) k_124 hf (fun x3 hf => ?_)
      refine J_icmp_ge (pc := 9) C dX8_high_9 (tgt := 31) (by decide) hf (fun _ hf => ?_) (fun _ hf => ?_)
      · refine J_iload_n (pc := 31) C dX8_high_31 rfl 1 rfl ?_
        exact J_iretP (pc := 32) C  rfl rfl dX8_high_32 hf
      · refine J_iload_n (pc := 12) C dX8_high_12 rfl 1 rfl ?_
        refine J_aload_n (pc := 13) C dX8_high_13 rfl 0 rfl ?_
        refine J_getR (pc := 14) C dX8_high_14 (ci := 8) (k0 := 4) rfl iX8 (by decide) k_121 hf (fun x4 hf => ?_)
        refine J_iload_n (pc := 17) C dX8_high_17 rfl 2 rfl ?_
        refine J_iald (pc := 18) C dX8_high_18 hf (fun x5 hf => ?_)
        refine J_iconst (pc := 19) C dX8_high_19 (v := 1) (by decide) ?_
        refine J_iadd (pc := 20) C dX8_high_20 ?_
        refine J_max (pc := 21) C dX8_high_21 k_787 k_645 k_88 k_646 (Nat.le_of_ble_eq_true rfl) (fun _ => Nat.le_of_ble_eq_true rfl) ⟨Nat.le_of_ble_eq_true rfl, Nat.le_of_ble_eq_true rfl⟩ ?_
        refine J_istore_n (pc := 24) C dX8_high_24 rfl (by decide) hf (fun q => [(1, .int q), (0, .ref v0), (2, .int v2)]) (fun _ => rfl) (fun x6 hf => ?_)
        refine J_iinc (pc := 25) C dX8_high_25 2 rfl (y := v2 + 1) rfl (by decide) hf (fun q => [(2, .int q), (1, .int x6), (0, .ref v0)]) (fun _ => rfl) (fun x7 hf => ?_)
        refine J_goto (pc := 28) C dX8_high_28 (tgt := 4) (by decide) ?_
        refine J_sub [2, 1, 0] (L1 := [(0, .ref v0), (1, .int x6), (2, .int x7)]) rfl ?_
        exact ih v0 x6 x7 hf
  rw [f_X8_high] at hf
  refine J_sub [0] (L1 := [(0, .ref v0)]) rfl ?_
  refine J_iconst (pc := 0) C dX8_high_0 (v := 0) (by decide) ?_
  refine J_istore_n (pc := 1) C dX8_high_1 rfl (by decide) hf (fun q => [(1, .int q), (0, .ref v0)]) (fun _ => rfl) (fun x1 hf => ?_)
  refine J_iconst (pc := 2) C dX8_high_2 (v := 0) (by decide) ?_
  refine J_istore_n (pc := 3) C dX8_high_3 rfl (by decide) hf (fun q => [(2, .int q), (1, .int x1), (0, .ref v0)]) (fun _ => rfl) (fun x2 hf => ?_)
  refine J_sub [2, 1, 0] (L1 := [(0, .ref v0), (1, .int x1), (2, .int x2)]) rfl ?_
  exact B4 fu v0 x1 x2 hf
set_option maxRecDepth 100000 in
set_option maxHeartbeats 4000000 in
theorem c_X8_allDepths {l : Launch} {D : va_G} {dA : FieldType → ClassId} (fu : Nat) (w : MW) (v0 : Nat) {rr : Int32} (hf : f_X8_allDepths fu w v0 = some rr) : CT l D dA yX8_allDepths cX8_allDepths 3 (some .int) rmX8_allDepths [.ref v0] w (some (.int rr)) w := by
  refine J_met (by decide) rfl (Nat.le_of_ble_eq_true rfl) (fun p e s m args below meth c A E C => ?_)
  have B4 : ∀ (n : Nat) (v0 : Nat) (v1 : Int32) (v2 : Int32), f_X8_allDepths_4 fu w n v0 v1 v2 = some rr → JW p l e rmX8_allDepths s m args below meth c 3 D dA A E (MQ below (Qr D dA E (some (.int rr)) w A) args s 0 0 A) 0 0 4 [(0, .ref v0), (1, .int v1), (2, .int v2)] [] w := by
    intro n
    induction n with
    | zero => intro v0 v1 v2 hf; rw [f_X8_allDepths_4] at hf; cases hf
    | succ n ih =>
      intro v0 v1 v2 hf
      rw [f_X8_allDepths_4] at hf
      refine J_iload_n (pc := 4) C dX8_allDepths_4 rfl 2 rfl ?_
      refine J_aload_n (pc := 5) C dX8_allDepths_5 rfl 0 rfl ?_
      refine J_getI (pc := 6) C dX8_allDepths_6 (ci := 8) (k0 := 7) rfl iX8 (by decide) k_124 hf (fun x3 hf => ?_)
      refine J_icmp_ge (pc := 9) C dX8_allDepths_9 (tgt := 27) (by decide) hf (fun _ hf => ?_) (fun _ hf => ?_)
      · refine J_iload_n (pc := 27) C dX8_allDepths_27 rfl 1 rfl ?_
        exact J_iretP (pc := 28) C  rfl rfl dX8_allDepths_28 hf
      · refine J_iload_n (pc := 12) C dX8_allDepths_12 rfl 1 rfl ?_
        refine J_aload_n (pc := 13) C dX8_allDepths_13 rfl 0 rfl ?_
        refine J_getR (pc := 14) C dX8_allDepths_14 (ci := 8) (k0 := 4) rfl iX8 (by decide) k_121 hf (fun x4 hf => ?_)
        refine J_iload_n (pc := 17) C dX8_allDepths_17 rfl 2 rfl ?_
        refine J_iald (pc := 18) C dX8_allDepths_18 hf (fun x5 hf => ?_)
        refine J_iadd (pc := 19) C dX8_allDepths_19 ?_
        refine J_istore_n (pc := 20) C dX8_allDepths_20 rfl (by decide) hf (fun q => [(1, .int q), (0, .ref v0), (2, .int v2)]) (fun _ => rfl) (fun x6 hf => ?_)
        refine J_iinc (pc := 21) C dX8_allDepths_21 2 rfl (y := v2 + 1) rfl (by decide) hf (fun q => [(2, .int q), (1, .int x6), (0, .ref v0)]) (fun _ => rfl) (fun x7 hf => ?_)
        refine J_goto (pc := 24) C dX8_allDepths_24 (tgt := 4) (by decide) ?_
        refine J_sub [2, 1, 0] (L1 := [(0, .ref v0), (1, .int x6), (2, .int x7)]) rfl ?_
        exact ih v0 x6 x7 hf
  rw [f_X8_allDepths] at hf
  refine J_sub [0] (L1 := [(0, .ref v0)]) rfl ?_
  refine J_iconst (pc := 0) C dX8_allDepths_0 (v := 0) (by decide) ?_
  refine J_istore_n (pc := 1) C dX8_allDepths_1 rfl (by decide) hf (fun q => [(1, .int q), (0, .ref v0)]) (fun _ => rfl) (fun x1 hf => ?_)
  refine J_iconst (pc := 2) C dX8_allDepths_2 (v := 0) (by decide) ?_
  refine J_istore_n (pc := 3) C dX8_allDepths_3 rfl (by decide) hf (fun q => [(2, .int q), (1, .int x1), (0, .ref v0)]) (fun _ => rfl) (fun x2 hf => ?_)
  refine J_sub [2, 1, 0] (L1 := [(0, .ref v0), (1, .int x1), (2, .int x2)]) rfl ?_
  exact B4 fu v0 x1 x2 hf
set_option maxRecDepth 100000 in
set_option maxHeartbeats 4000000 in
theorem c_X10_init {l : Launch} {D : va_G} {dA : FieldType → ClassId} (w0 : MW) (v0 : Nat) {w' : MW} (hf : f_X10_init w0 v0 = some w') : CA l D dA yX10_init cX10_init 2 none rmX10_init 122 10088 [.ref v0] w0 none w' := by
  refine J_metA (by decide) rfl (Nat.le_of_ble_eq_true rfl) (fun p e s m args below meth c A E C hini hEE => ?_)
  rw [f_X10_init] at hf
  refine J_sub [0] (L1 := [(0, .ref v0)]) rfl ?_
  refine J_aload_n (pc := 0) C dX10_init_0 rfl 0 rfl ?_
  refine J_objInit (pc := 1) C dX10_init_1 k_100 k_101 k_102 (Nat.le_of_ble_eq_true rfl) (fun _ => Nat.le_of_ble_eq_true rfl) ?_
  refine J_aload_n (pc := 4) C dX10_init_4 rfl 0 rfl ?_
  refine J_new (pc := 5) C dX10_init_5 (ci := 7) (fs := [.null, .null, .null, .null, .null, .int 0, .int 0, .int 0]) rfl iX7 tyX7 tyX7_ok k_103 k_104 k_77 (by decide +kernel) (fun _ => rfl) ⟨Nat.le_of_ble_eq_true rfl, Nat.le_of_ble_eq_true rfl⟩ hEE [.ref v0, .ref v0] rfl hf (fun w1 hf => ?_)
  refine J_dup (pc := 8) C dX10_init_8 rfl ?_
  obtain ⟨q2, h3, hf⟩ := bind_ok hf
  obtain ⟨g41, g42, _, g4, h3⟩ := clA_spec h3
  refine J_cIA (S := [.ref w0.length, .ref v0]) (pc := 9) C dX10_init_9 (c_X7_init _ _ h3) k_105 ys_X7_init ⟨Nat.le_of_ble_eq_true rfl, Nat.le_of_ble_eq_true rfl⟩ ⟨Nat.le_of_ble_eq_true rfl, Nat.le_of_ble_eq_true rfl⟩ g4 rfl rfl (fun _ => Nat.le_of_ble_eq_true rfl) hEE g41 [.ref v0, .ref w0.length, .ref v0] rfl g42 ?_
  refine J_putF (pc := 12) C dX10_init_12 (ci := 10) (k0 := 0) rfl iX10 tyX10 tyX10_ok nmX10 (by decide) k_368 hini rfl rfl (ty := (.object "MeltingHeaps$Store")) (by decide +kernel) (fun _ => rfl) (fun _ => rfl) hf (fun w5 hf => ?_)
  refine J_aload_n (pc := 15) C dX10_init_15 rfl 0 rfl ?_
  refine J_new (pc := 16) C dX10_init_16 (ci := 3) (fs := [.null, .int 0, .int 0]) rfl iX3 tyX3 tyX3_ok k_244 k_245 k_82 (by decide +kernel) (fun _ => rfl) ⟨Nat.le_of_ble_eq_true rfl, Nat.le_of_ble_eq_true rfl⟩ hEE [.ref v0, .ref v0] rfl hf (fun w6 hf => ?_)
  refine J_dup (pc := 19) C dX10_init_19 rfl ?_
  obtain ⟨q7, h8, hf⟩ := bind_ok hf
  obtain ⟨g91, g92, _, g9, h8⟩ := clA_spec h8
  refine J_cIA (S := [.ref w5.length, .ref v0]) (pc := 20) C dX10_init_20 (c_X3_init _ _ h8) k_246 ys_X3_init ⟨Nat.le_of_ble_eq_true rfl, Nat.le_of_ble_eq_true rfl⟩ ⟨Nat.le_of_ble_eq_true rfl, Nat.le_of_ble_eq_true rfl⟩ g9 rfl rfl (fun _ => Nat.le_of_ble_eq_true rfl) hEE g91 [.ref v0, .ref w5.length, .ref v0] rfl g92 ?_
  refine J_putF (pc := 23) C dX10_init_23 (ci := 10) (k0 := 1) rfl iX10 tyX10 tyX10_ok nmX10 (by decide) k_369 hini rfl rfl (ty := (.object "MeltingHeaps$Past")) (by decide +kernel) (fun _ => rfl) (fun _ => rfl) hf (fun w10 hf => ?_)
  refine J_aload_n (pc := 26) C dX10_init_26 rfl 0 rfl ?_
  refine J_new (pc := 27) C dX10_init_27 (ci := 4) (fs := [.null, .int 0]) rfl iX4 tyX4 tyX4_ok k_278 k_279 k_84 (by decide +kernel) (fun _ => rfl) ⟨Nat.le_of_ble_eq_true rfl, Nat.le_of_ble_eq_true rfl⟩ hEE [.ref v0, .ref v0] rfl hf (fun w11 hf => ?_)
  refine J_dup (pc := 30) C dX10_init_30 rfl ?_
  refine J_sipush (pc := 31) C dX10_init_31 (v := 800) (by decide) ?_
  refine J_newa (aty := .byte) (ty := .byte) (N := 800) (pc := 34) C 1 (fun _ => rfl) dX10_init_34 rfl k_293 (fun _ => rfl) (fun _ _ h => h) (by decide) (by decide) (Nat.le_of_ble_eq_true rfl) ⟨Nat.le_of_ble_eq_true rfl, Nat.le_of_ble_eq_true rfl⟩ hEE [.ref v0, .ref w10.length, .ref w10.length, .ref v0] rfl hf (fun w12 hf => ?_)
  obtain ⟨q13, h14, hf⟩ := bind_ok hf
  obtain ⟨_, g15, h14⟩ := cl_spec h14
  refine J_cI (S := [.ref w10.length, .ref v0]) (pc := 36) C dX10_init_36 (c_X4_init _ _ _ h14) k_280 ys_X4_init ⟨Nat.le_of_ble_eq_true rfl, Nat.le_of_ble_eq_true rfl⟩ ⟨Nat.le_of_ble_eq_true rfl, Nat.le_of_ble_eq_true rfl⟩ g15 rfl rfl (fun _ => Nat.le_of_ble_eq_true rfl) ?_
  refine J_putF (pc := 39) C dX10_init_39 (ci := 10) (k0 := 2) rfl iX10 tyX10 tyX10_ok nmX10 (by decide) k_370 hini rfl rfl (ty := (.object "MeltingHeaps$Row")) (by decide +kernel) (fun _ => rfl) (fun _ => rfl) hf (fun w16 hf => ?_)
  refine J_aload_n (pc := 42) C dX10_init_42 rfl 0 rfl ?_
  refine J_new (pc := 43) C dX10_init_43 (ci := 4) (fs := [.null, .int 0]) rfl iX4 tyX4 tyX4_ok k_278 k_279 k_84 (by decide +kernel) (fun _ => rfl) ⟨Nat.le_of_ble_eq_true rfl, Nat.le_of_ble_eq_true rfl⟩ hEE [.ref v0, .ref v0] rfl hf (fun w17 hf => ?_)
  refine J_dup (pc := 46) C dX10_init_46 rfl ?_
  refine J_sipush (pc := 47) C dX10_init_47 (v := 360) (by decide) ?_
  refine J_newa (aty := .byte) (ty := .byte) (N := 360) (pc := 50) C 1 (fun _ => rfl) dX10_init_50 rfl k_293 (fun _ => rfl) (fun _ _ h => h) (by decide) (by decide) (Nat.le_of_ble_eq_true rfl) ⟨Nat.le_of_ble_eq_true rfl, Nat.le_of_ble_eq_true rfl⟩ hEE [.ref v0, .ref w16.length, .ref w16.length, .ref v0] rfl hf (fun w18 hf => ?_)
  obtain ⟨q19, h20, hf⟩ := bind_ok hf
  obtain ⟨_, g21, h20⟩ := cl_spec h20
  refine J_cI (S := [.ref w16.length, .ref v0]) (pc := 52) C dX10_init_52 (c_X4_init _ _ _ h20) k_280 ys_X4_init ⟨Nat.le_of_ble_eq_true rfl, Nat.le_of_ble_eq_true rfl⟩ ⟨Nat.le_of_ble_eq_true rfl, Nat.le_of_ble_eq_true rfl⟩ g21 rfl rfl (fun _ => Nat.le_of_ble_eq_true rfl) ?_
  refine J_putF (pc := 55) C dX10_init_55 (ci := 10) (k0 := 3) rfl iX10 tyX10 tyX10_ok nmX10 (by decide) k_371 hini rfl rfl (ty := (.object "MeltingHeaps$Row")) (by decide +kernel) (fun _ => rfl) (fun _ => rfl) hf (fun w22 hf => ?_)
  refine J_aload_n (pc := 58) C dX10_init_58 rfl 0 rfl ?_
  refine J_new (pc := 59) C dX10_init_59 (ci := 5) (fs := [.null, .null, .null, .int 0, .int 0, .int 0, .int 0, .int 0, .int 0]) rfl iX5 tyX5 tyX5_ok k_294 k_295 k_85 (by decide +kernel) (fun _ => rfl) ⟨Nat.le_of_ble_eq_true rfl, Nat.le_of_ble_eq_true rfl⟩ hEE [.ref v0, .ref v0] rfl hf (fun w23 hf => ?_)
  refine J_dup (pc := 62) C dX10_init_62 rfl ?_
  refine J_aload_n (pc := 63) C dX10_init_63 rfl 0 rfl ?_
  refine J_getR (pc := 64) C dX10_init_64 (ci := 10) (k0 := 2) rfl iX10 (by decide) k_370 hf (fun x24 hf => ?_)
  refine J_aload_n (pc := 67) C dX10_init_67 rfl 0 rfl ?_
  refine J_getR (pc := 68) C dX10_init_68 (ci := 10) (k0 := 0) rfl iX10 (by decide) k_368 hf (fun x25 hf => ?_)
  obtain ⟨q26, h27, hf⟩ := bind_ok hf
  obtain ⟨g281, g282, _, g28, h27⟩ := clA_spec h27
  refine J_cIA (S := [.ref w22.length, .ref v0]) (pc := 71) C dX10_init_71 (c_X5_init _ _ _ _ h27) k_296 ys_X5_init ⟨Nat.le_of_ble_eq_true rfl, Nat.le_of_ble_eq_true rfl⟩ ⟨Nat.le_of_ble_eq_true rfl, Nat.le_of_ble_eq_true rfl⟩ g28 rfl rfl (fun _ => Nat.le_of_ble_eq_true rfl) hEE g281 [.ref v0, .ref w22.length, .ref v0] rfl g282 ?_
  refine J_putF (pc := 74) C dX10_init_74 (ci := 10) (k0 := 4) rfl iX10 tyX10 tyX10_ok nmX10 (by decide) k_372 hini rfl rfl (ty := (.object "MeltingHeaps$Script")) (by decide +kernel) (fun _ => rfl) (fun _ => rfl) hf (fun w29 hf => ?_)
  refine J_aload_n (pc := 77) C dX10_init_77 rfl 0 rfl ?_
  refine J_new (pc := 78) C dX10_init_78 (ci := 6) (fs := [.null, .null, .null]) rfl iX6 tyX6 tyX6_ok k_330 k_252 k_83 (by decide +kernel) (fun _ => rfl) ⟨Nat.le_of_ble_eq_true rfl, Nat.le_of_ble_eq_true rfl⟩ hEE [.ref v0, .ref v0] rfl hf (fun w30 hf => ?_)
  refine J_dup (pc := 81) C dX10_init_81 rfl ?_
  obtain ⟨q31, h32, hf⟩ := bind_ok hf
  obtain ⟨g331, g332, _, g33, h32⟩ := clA_spec h32
  refine J_cINA (S := [.ref w29.length, .ref v0]) (pc := 82) C dX10_init_82 (c_X6_init _ _ h32) n_331 ys_X6_init ⟨Nat.le_of_ble_eq_true rfl, Nat.le_of_ble_eq_true rfl⟩ ⟨Nat.le_of_ble_eq_true rfl, Nat.le_of_ble_eq_true rfl⟩ g33 rfl rfl (fun _ => Nat.le_of_ble_eq_true rfl) hEE g331 [.ref v0, .ref w29.length, .ref v0] rfl g332 ?_
  refine J_putF (pc := 85) C dX10_init_85 (ci := 10) (k0 := 5) rfl iX10 tyX10 tyX10_ok nmX10 (by decide) k_373 hini rfl rfl (ty := (.object "MeltingHeaps$Snapshot")) (by decide +kernel) (fun _ => rfl) (fun _ => rfl) hf (fun w34 hf => ?_)
  refine J_aload_n (pc := 88) C dX10_init_88 rfl 0 rfl ?_
  refine J_iconst (pc := 89) C dX10_init_89 (v := 3) (by decide) ?_
  refine J_newq (Cn := RX1) (N := 3) (pc := 90) C 5 (fun _ => rfl) (by decide) dX10_init_90 k_332 (by decide) (by decide) (Nat.le_of_ble_eq_true rfl) ⟨Nat.le_of_ble_eq_true rfl, Nat.le_of_ble_eq_true rfl⟩ hEE [.ref v0, .ref v0] rfl hf (fun w35 hf => ?_)
  refine J_putF (pc := 93) C dX10_init_93 (ci := 10) (k0 := 6) rfl iX10 tyX10 tyX10_ok nmX10 (by decide) k_374 hini rfl rfl (ty := (.array (.object "MeltingHeaps$Image"))) (by decide +kernel) (fun _ => rfl) (fun _ => rfl) hf (fun w36 hf => ?_)
  refine J_iconst (pc := 96) C dX10_init_96 (v := 0) (by decide) ?_
  refine J_storeL (v := (0 : Int32)) (pc := 97) C dX10_init_97 rfl (by decide) ([(1, .int (0 : Int32)), (0, .ref v0)]) rfl ?_
  refine J_iload_n (pc := 98) C dX10_init_98 rfl 0 rfl ?_
  refine J_iconst (pc := 99) C dX10_init_99 (v := 3) (by decide) ?_
  refine J_icmp_ge (ρ := Unit) (T := ()) (F := ()) (r := ()) (pc := 100) C dX10_init_100 (tgt := 122) (by decide) (by simp) (fun h _ => absurd h (by decide)) (fun _ _ => ?_)
  refine J_aload_n (pc := 103) C dX10_init_103 rfl 1 rfl ?_
  refine J_getR (pc := 104) C dX10_init_104 (ci := 10) (k0 := 6) rfl iX10 (by decide) k_374 hf (fun x37 hf => ?_)
  refine J_iload_n (pc := 107) C dX10_init_107 rfl 0 rfl ?_
  refine J_new (pc := 108) C dX10_init_108 (ci := 1) (fs := [.null, .null, .null, .int 0, .int 0, .int 0]) rfl iX1 tyX1 tyX1_ok k_332 k_334 k_86 (by decide +kernel) (fun _ => rfl) ⟨Nat.le_of_ble_eq_true rfl, Nat.le_of_ble_eq_true rfl⟩ hEE [.int (0 : Int32), .ref v0, .int (0 : Int32), .ref x37] rfl hf (fun w38 hf => ?_)
  refine J_dup (pc := 111) C dX10_init_111 rfl ?_
  obtain ⟨q39, h40, hf⟩ := bind_ok hf
  obtain ⟨g411, g412, _, g41, h40⟩ := clA_spec h40
  refine J_cINA (S := [.ref w36.length, .int (0 : Int32), .ref x37]) (pc := 112) C dX10_init_112 (c_X1_init _ _ h40) n_335 ys_X1_init ⟨Nat.le_of_ble_eq_true rfl, Nat.le_of_ble_eq_true rfl⟩ ⟨Nat.le_of_ble_eq_true rfl, Nat.le_of_ble_eq_true rfl⟩ g41 rfl rfl (fun _ => Nat.le_of_ble_eq_true rfl) hEE g411 [.int (0 : Int32), .ref v0, .ref w36.length, .int (0 : Int32), .ref x37] rfl g412 ?_
  refine J_aast (Cn := RX1) (pc := 115) C 5 1 (fun _ => rfl) rfl dX10_init_115 hf (fun w42 hf => ?_)
  refine J_iincL (pc := 116) C dX10_init_116 0 rfl (v := (1 : Int32)) (by decide) (by decide) [(1, .int (1 : Int32)), (0, .ref v0)] rfl ?_
  refine J_goto (pc := 119) C dX10_init_119 (tgt := 98) (by decide) ?_
  refine J_iload_n (pc := 98) C dX10_init_98 rfl 0 rfl ?_
  refine J_iconst (pc := 99) C dX10_init_99 (v := 3) (by decide) ?_
  refine J_icmp_ge (ρ := Unit) (T := ()) (F := ()) (r := ()) (pc := 100) C dX10_init_100 (tgt := 122) (by decide) (by simp) (fun h _ => absurd h (by decide)) (fun _ _ => ?_)
  refine J_aload_n (pc := 103) C dX10_init_103 rfl 1 rfl ?_
  refine J_getR (pc := 104) C dX10_init_104 (ci := 10) (k0 := 6) rfl iX10 (by decide) k_374 hf (fun x43 hf => ?_)
  refine J_iload_n (pc := 107) C dX10_init_107 rfl 0 rfl ?_
  refine J_new (pc := 108) C dX10_init_108 (ci := 1) (fs := [.null, .null, .null, .int 0, .int 0, .int 0]) rfl iX1 tyX1 tyX1_ok k_332 k_334 k_86 (by decide +kernel) (fun _ => rfl) ⟨Nat.le_of_ble_eq_true rfl, Nat.le_of_ble_eq_true rfl⟩ hEE [.int (1 : Int32), .ref v0, .int (1 : Int32), .ref x43] rfl hf (fun w44 hf => ?_)
  refine J_dup (pc := 111) C dX10_init_111 rfl ?_
  obtain ⟨q45, h46, hf⟩ := bind_ok hf
  obtain ⟨g471, g472, _, g47, h46⟩ := clA_spec h46
  refine J_cINA (S := [.ref w42.length, .int (1 : Int32), .ref x43]) (pc := 112) C dX10_init_112 (c_X1_init _ _ h46) n_335 ys_X1_init ⟨Nat.le_of_ble_eq_true rfl, Nat.le_of_ble_eq_true rfl⟩ ⟨Nat.le_of_ble_eq_true rfl, Nat.le_of_ble_eq_true rfl⟩ g47 rfl rfl (fun _ => Nat.le_of_ble_eq_true rfl) hEE g471 [.int (1 : Int32), .ref v0, .ref w42.length, .int (1 : Int32), .ref x43] rfl g472 ?_
  refine J_aast (Cn := RX1) (pc := 115) C 5 1 (fun _ => rfl) rfl dX10_init_115 hf (fun w48 hf => ?_)
  refine J_iincL (pc := 116) C dX10_init_116 0 rfl (v := (2 : Int32)) (by decide) (by decide) [(1, .int (2 : Int32)), (0, .ref v0)] rfl ?_
  refine J_goto (pc := 119) C dX10_init_119 (tgt := 98) (by decide) ?_
  refine J_iload_n (pc := 98) C dX10_init_98 rfl 0 rfl ?_
  refine J_iconst (pc := 99) C dX10_init_99 (v := 3) (by decide) ?_
  refine J_icmp_ge (ρ := Unit) (T := ()) (F := ()) (r := ()) (pc := 100) C dX10_init_100 (tgt := 122) (by decide) (by simp) (fun h _ => absurd h (by decide)) (fun _ _ => ?_)
  refine J_aload_n (pc := 103) C dX10_init_103 rfl 1 rfl ?_
  refine J_getR (pc := 104) C dX10_init_104 (ci := 10) (k0 := 6) rfl iX10 (by decide) k_374 hf (fun x49 hf => ?_)
  refine J_iload_n (pc := 107) C dX10_init_107 rfl 0 rfl ?_
  refine J_new (pc := 108) C dX10_init_108 (ci := 1) (fs := [.null, .null, .null, .int 0, .int 0, .int 0]) rfl iX1 tyX1 tyX1_ok k_332 k_334 k_86 (by decide +kernel) (fun _ => rfl) ⟨Nat.le_of_ble_eq_true rfl, Nat.le_of_ble_eq_true rfl⟩ hEE [.int (2 : Int32), .ref v0, .int (2 : Int32), .ref x49] rfl hf (fun w50 hf => ?_)
  refine J_dup (pc := 111) C dX10_init_111 rfl ?_
  obtain ⟨q51, h52, hf⟩ := bind_ok hf
  obtain ⟨g531, g532, _, g53, h52⟩ := clA_spec h52
  refine J_cINA (S := [.ref w48.length, .int (2 : Int32), .ref x49]) (pc := 112) C dX10_init_112 (c_X1_init _ _ h52) n_335 ys_X1_init ⟨Nat.le_of_ble_eq_true rfl, Nat.le_of_ble_eq_true rfl⟩ ⟨Nat.le_of_ble_eq_true rfl, Nat.le_of_ble_eq_true rfl⟩ g53 rfl rfl (fun _ => Nat.le_of_ble_eq_true rfl) hEE g531 [.int (2 : Int32), .ref v0, .ref w48.length, .int (2 : Int32), .ref x49] rfl g532 ?_
  refine J_aast (Cn := RX1) (pc := 115) C 5 1 (fun _ => rfl) rfl dX10_init_115 hf (fun w54 hf => ?_)
  refine J_iincL (pc := 116) C dX10_init_116 0 rfl (v := (3 : Int32)) (by decide) (by decide) [(1, .int (3 : Int32)), (0, .ref v0)] rfl ?_
  refine J_goto (pc := 119) C dX10_init_119 (tgt := 98) (by decide) ?_
  refine J_iload_n (pc := 98) C dX10_init_98 rfl 0 rfl ?_
  refine J_iconst (pc := 99) C dX10_init_99 (v := 3) (by decide) ?_
  refine J_icmp_ge (ρ := Unit) (T := ()) (F := ()) (r := ()) (pc := 100) C dX10_init_100 (tgt := 122) (by decide) (by simp) (fun _ _ => ?_) (fun h _ => absurd h (by decide))
  refine J_aload_n (pc := 122) C dX10_init_122 rfl 1 rfl ?_
  refine J_iconst (pc := 123) C dX10_init_123 (v := 0) (by decide) ?_
  refine J_put (pc := 124) C dX10_init_124 (ci := 10) (k0 := 7) rfl iX10 tyX10 tyX10_ok nmX10 (by decide) k_375 rfl (ty := .int) (by decide +kernel) (fun _ => rfl) (fun _ => rfl) hf (fun w55 hf => ?_)
  refine J_aload_n (pc := 127) C dX10_init_127 rfl 1 rfl ?_
  refine J_iconst (pc := 128) C dX10_init_128 (v := -1) (by decide) ?_
  refine J_put (pc := 129) C dX10_init_129 (ci := 10) (k0 := 8) rfl iX10 tyX10 tyX10_ok nmX10 (by decide) k_376 rfl (ty := .int) (by decide +kernel) (fun _ => rfl) (fun _ => rfl) hf (fun w56 hf => ?_)
  refine J_widen (k := 122) (n := 10088) (Nat.le_of_ble_eq_true rfl) (Nat.le_of_ble_eq_true rfl) ?_
  exact J_vret (pc := 132) C rfl dX10_init_132 hf
set_option maxRecDepth 100000 in
set_option maxHeartbeats 4000000 in
theorem c_X10_feed {l : Launch} {D : va_G} {dA : FieldType → ClassId} (w : MW) (v0 : Nat) (v1 : Int32) (v2 : Int32) (v3 : Int32) (v4 : Int32) (v5 : Int32) {rr : Int32} {w' : MW} (hf : f_X10_feed w v0 v1 v2 v3 v4 v5 = some (rr, w')) : CT l D dA yX10_feed cX10_feed 6 (some .int) rmX10_feed [.ref v0, .int v1, .int v2, .int v3, .int v4, .int v5] w (some (.int rr)) w' := by
  refine J_met (by decide) rfl (Nat.le_of_ble_eq_true rfl) (fun p e s m args below meth c A E C => ?_)
  rw [f_X10_feed] at hf
  refine J_sub [0, 1, 2, 3, 4, 5] (L1 := [(0, .ref v0), (1, .int v1), (2, .int v2), (3, .int v3), (4, .int v4), (5, .int v5)]) rfl ?_
  refine J_aload_n (pc := 0) C dX10_feed_0 rfl 0 rfl ?_
  refine J_getR (pc := 1) C dX10_feed_1 (ci := 10) (k0 := 2) rfl iX10 (by decide) k_370 hf (fun x1 hf => ?_)
  refine J_getIN (pc := 4) C dX10_feed_4 (ci := 4) (k0 := 1) rfl iX4 (by decide) n_286 hf (fun x2 hf => ?_)
  refine J_sipush (pc := 7) C dX10_feed_7 (v := 780) (by decide) ?_
  refine J_icmp_le (pc := 10) C dX10_feed_10 (tgt := 15) (by decide) hf (fun _ hf => ?_) (fun _ hf => ?_)
  · refine J_aload_n (pc := 15) C dX10_feed_15 rfl 0 rfl ?_
    refine J_getR (pc := 16) C dX10_feed_16 (ci := 10) (k0 := 2) rfl iX10 (by decide) k_370 hf (fun x3 hf => ?_)
    refine J_iload_n (pc := 19) C dX10_feed_19 rfl 1 rfl ?_
    obtain ⟨q4, h5, hf⟩ := bind_ok hf
    obtain ⟨_, g6, h5⟩ := cl_spec h5
    refine J_cV (S := []) (pc := 20) C dX10_feed_20 (c_X4_addFour _ _ _ h5) k_400 ys_X4_addFour ⟨Nat.le_of_ble_eq_true rfl, Nat.le_of_ble_eq_true rfl⟩ ⟨Nat.le_of_ble_eq_true rfl, Nat.le_of_ble_eq_true rfl⟩ g6 rfl rfl (fun _ => Nat.le_of_ble_eq_true rfl) ?_
    refine J_aload_n (pc := 23) C dX10_feed_23 rfl 0 rfl ?_
    refine J_getR (pc := 24) C dX10_feed_24 (ci := 10) (k0 := 2) rfl iX10 (by decide) k_370 hf (fun x7 hf => ?_)
    refine J_iload_n (pc := 27) C dX10_feed_27 rfl 2 rfl ?_
    obtain ⟨q8, h9, hf⟩ := bind_ok hf
    obtain ⟨_, g10, h9⟩ := cl_spec h9
    refine J_cV (S := []) (pc := 28) C dX10_feed_28 (c_X4_addFour _ _ _ h9) k_400 ys_X4_addFour ⟨Nat.le_of_ble_eq_true rfl, Nat.le_of_ble_eq_true rfl⟩ ⟨Nat.le_of_ble_eq_true rfl, Nat.le_of_ble_eq_true rfl⟩ g10 rfl rfl (fun _ => Nat.le_of_ble_eq_true rfl) ?_
    refine J_aload_n (pc := 31) C dX10_feed_31 rfl 0 rfl ?_
    refine J_getR (pc := 32) C dX10_feed_32 (ci := 10) (k0 := 2) rfl iX10 (by decide) k_370 hf (fun x11 hf => ?_)
    refine J_iload_n (pc := 35) C dX10_feed_35 rfl 3 rfl ?_
    obtain ⟨q12, h13, hf⟩ := bind_ok hf
    obtain ⟨_, g14, h13⟩ := cl_spec h13
    refine J_cV (S := []) (pc := 36) C dX10_feed_36 (c_X4_addFour _ _ _ h13) k_400 ys_X4_addFour ⟨Nat.le_of_ble_eq_true rfl, Nat.le_of_ble_eq_true rfl⟩ ⟨Nat.le_of_ble_eq_true rfl, Nat.le_of_ble_eq_true rfl⟩ g14 rfl rfl (fun _ => Nat.le_of_ble_eq_true rfl) ?_
    refine J_aload_n (pc := 39) C dX10_feed_39 rfl 0 rfl ?_
    refine J_getR (pc := 40) C dX10_feed_40 (ci := 10) (k0 := 2) rfl iX10 (by decide) k_370 hf (fun x15 hf => ?_)
    refine J_iload (pc := 43) C dX10_feed_43 4 rfl ?_
    obtain ⟨q16, h17, hf⟩ := bind_ok hf
    obtain ⟨_, g18, h17⟩ := cl_spec h17
    refine J_cV (S := []) (pc := 45) C dX10_feed_45 (c_X4_addFour _ _ _ h17) k_400 ys_X4_addFour ⟨Nat.le_of_ble_eq_true rfl, Nat.le_of_ble_eq_true rfl⟩ ⟨Nat.le_of_ble_eq_true rfl, Nat.le_of_ble_eq_true rfl⟩ g18 rfl rfl (fun _ => Nat.le_of_ble_eq_true rfl) ?_
    refine J_aload_n (pc := 48) C dX10_feed_48 rfl 0 rfl ?_
    refine J_getR (pc := 49) C dX10_feed_49 (ci := 10) (k0 := 2) rfl iX10 (by decide) k_370 hf (fun x19 hf => ?_)
    refine J_iload (pc := 52) C dX10_feed_52 5 rfl ?_
    obtain ⟨q20, h21, hf⟩ := bind_ok hf
    obtain ⟨_, g22, h21⟩ := cl_spec h21
    refine J_cV (S := []) (pc := 54) C dX10_feed_54 (c_X4_addFour _ _ _ h21) k_400 ys_X4_addFour ⟨Nat.le_of_ble_eq_true rfl, Nat.le_of_ble_eq_true rfl⟩ ⟨Nat.le_of_ble_eq_true rfl, Nat.le_of_ble_eq_true rfl⟩ g22 rfl rfl (fun _ => Nat.le_of_ble_eq_true rfl) ?_
    refine J_aload_n (pc := 57) C dX10_feed_57 rfl 0 rfl ?_
    refine J_getR (pc := 58) C dX10_feed_58 (ci := 10) (k0 := 2) rfl iX10 (by decide) k_370 hf (fun x23 hf => ?_)
    refine J_getIN (pc := 61) C dX10_feed_61 (ci := 4) (k0 := 1) rfl iX4 (by decide) n_286 hf (fun x24 hf => ?_)
    exact J_iret (pc := 64) C  rfl rfl dX10_feed_64 hf
  · refine J_iconst (pc := 13) C dX10_feed_13 (v := -1) (by decide) ?_
    exact J_iret (pc := 14) C  rfl rfl dX10_feed_14 hf
set_option maxRecDepth 100000 in
set_option maxHeartbeats 4000000 in
theorem c_X10_end {l : Launch} {D : va_G} {dA : FieldType → ClassId} (w : MW) (v0 : Nat) (v1 : Int32) {rr : Int32} {w' : MW} (hf : f_X10_end w v0 v1 = some (rr, w')) : CT l D dA yX10_end cX10_end 2 (some .int) rmX10_end [.ref v0, .int v1] w (some (.int rr)) w' := by
  refine J_met (by decide) rfl (Nat.le_of_ble_eq_true rfl) (fun p e s m args below meth c A E C => ?_)
  rw [f_X10_end] at hf
  refine J_sub [0, 1] (L1 := [(0, .ref v0), (1, .int v1)]) rfl ?_
  refine J_iload_n (pc := 0) C dX10_end_0 rfl 1 rfl ?_
  refine J_if_lt (pc := 1) C dX10_end_1 (tgt := 15) (by decide) hf (fun _ hf => ?_) (fun _ hf => ?_)
  · refine J_iconst (pc := 15) C dX10_end_15 (v := -1) (by decide) ?_
    exact J_iret (pc := 16) C  rfl rfl dX10_end_16 hf
  · refine J_iload_n (pc := 4) C dX10_end_4 rfl 1 rfl ?_
    refine J_aload_n (pc := 5) C dX10_end_5 rfl 0 rfl ?_
    refine J_getR (pc := 6) C dX10_end_6 (ci := 10) (k0 := 2) rfl iX10 (by decide) k_370 hf (fun x1 hf => ?_)
    refine J_getIN (pc := 9) C dX10_end_9 (ci := 4) (k0 := 1) rfl iX4 (by decide) n_286 hf (fun x2 hf => ?_)
    refine J_icmp_le (pc := 12) C dX10_end_12 (tgt := 17) (by decide) hf (fun _ hf => ?_) (fun _ hf => ?_)
    · refine J_aload_n (pc := 17) C dX10_end_17 rfl 0 rfl ?_
      refine J_getR (pc := 18) C dX10_end_18 (ci := 10) (k0 := 2) rfl iX10 (by decide) k_370 hf (fun x3 hf => ?_)
      refine J_iload_n (pc := 21) C dX10_end_21 rfl 1 rfl ?_
      refine J_putN (pc := 22) C dX10_end_22 (ci := 4) (k0 := 1) rfl iX4 tyX4 tyX4_ok nmX4 (by decide) n_286 rfl (ty := .int) (by decide +kernel) (fun _ => rfl) (fun _ => rfl) hf (fun w4 hf => ?_)
      refine J_iload_n (pc := 25) C dX10_end_25 rfl 1 rfl ?_
      exact J_iret (pc := 26) C  rfl rfl dX10_end_26 hf
    · refine J_iconst (pc := 15) C dX10_end_15 (v := -1) (by decide) ?_
      exact J_iret (pc := 16) C  rfl rfl dX10_end_16 hf
set_option maxRecDepth 100000 in
set_option maxHeartbeats 4000000 in
theorem c_X10_text {l : Launch} {D : va_G} {dA : FieldType → ClassId} (fu : Nat) (w : MW) (v0 : Nat) {rr : Int32} {w' : MW} (hf : f_X10_text fu w v0 = some (rr, w')) : CT l D dA yX10_text cX10_text 1 (some .int) rmX10_text [.ref v0] w (some (.int rr)) w' := by
  refine J_met (by decide) rfl (Nat.le_of_ble_eq_true rfl) (fun p e s m args below meth c A E C => ?_)
  rw [f_X10_text] at hf
  refine J_sub [0] (L1 := [(0, .ref v0)]) rfl ?_
  refine J_aload_n (pc := 0) C dX10_text_0 rfl 0 rfl ?_
  refine J_getR (pc := 1) C dX10_text_1 (ci := 10) (k0 := 5) rfl iX10 (by decide) k_373 hf (fun x1 hf => ?_)
  refine J_aload_n (pc := 4) C dX10_text_4 rfl 0 rfl ?_
  refine J_getR (pc := 5) C dX10_text_5 (ci := 10) (k0 := 0) rfl iX10 (by decide) k_368 hf (fun x2 hf => ?_)
  obtain ⟨q3, h4, hf⟩ := bind_ok hf
  obtain ⟨_, g5, h4⟩ := cl_spec h4
  refine J_cV (S := []) (pc := 8) C dX10_text_8 (c_X6_take _ _ _ _ h4) k_416 ys_X6_take ⟨Nat.le_of_ble_eq_true rfl, Nat.le_of_ble_eq_true rfl⟩ ⟨Nat.le_of_ble_eq_true rfl, Nat.le_of_ble_eq_true rfl⟩ g5 rfl rfl (fun _ => Nat.le_of_ble_eq_true rfl) ?_
  refine J_aload_n (pc := 11) C dX10_text_11 rfl 0 rfl ?_
  refine J_getR (pc := 12) C dX10_text_12 (ci := 10) (k0 := 0) rfl iX10 (by decide) k_368 hf (fun x6 hf => ?_)
  obtain ⟨q7, h8, hf⟩ := bind_ok hf
  obtain ⟨_, g9, h8⟩ := cl_spec h8
  refine J_cV (S := []) (pc := 15) C dX10_text_15 (c_X7_empty _ _ _ h8) k_426 ys_X7_empty ⟨Nat.le_of_ble_eq_true rfl, Nat.le_of_ble_eq_true rfl⟩ ⟨Nat.le_of_ble_eq_true rfl, Nat.le_of_ble_eq_true rfl⟩ g9 rfl rfl (fun _ => Nat.le_of_ble_eq_true rfl) ?_
  refine J_aload_n (pc := 18) C dX10_text_18 rfl 0 rfl ?_
  refine J_getR (pc := 19) C dX10_text_19 (ci := 10) (k0 := 4) rfl iX10 (by decide) k_372 hf (fun x10 hf => ?_)
  obtain ⟨q11, h12, hf⟩ := bind_ok hf
  obtain ⟨_, g13, h12⟩ := cl_spec h12
  refine J_cV (S := []) (pc := 22) C dX10_text_22 (c_X5_perform _ _ _ h12) k_434 ys_X5_perform ⟨Nat.le_of_ble_eq_true rfl, Nat.le_of_ble_eq_true rfl⟩ ⟨Nat.le_of_ble_eq_true rfl, Nat.le_of_ble_eq_true rfl⟩ g13 rfl rfl (fun _ => Nat.le_of_ble_eq_true rfl) ?_
  refine J_aload_n (pc := 25) C dX10_text_25 rfl 0 rfl ?_
  refine J_getR (pc := 26) C dX10_text_26 (ci := 10) (k0 := 2) rfl iX10 (by decide) k_370 hf (fun x14 hf => ?_)
  refine J_iconst (pc := 29) C dX10_text_29 (v := 0) (by decide) ?_
  refine J_putN (pc := 30) C dX10_text_30 (ci := 4) (k0 := 1) rfl iX4 tyX4 tyX4_ok nmX4 (by decide) n_286 rfl (ty := .int) (by decide +kernel) (fun _ => rfl) (fun _ => rfl) hf (fun w15 hf => ?_)
  refine J_aload_n (pc := 33) C dX10_text_33 rfl 0 rfl ?_
  refine J_aload_n (pc := 34) C dX10_text_34 rfl 0 rfl ?_
  refine J_getR (pc := 35) C dX10_text_35 (ci := 10) (k0 := 4) rfl iX10 (by decide) k_372 hf (fun x16 hf => ?_)
  refine J_getIN (pc := 38) C dX10_text_38 (ci := 5) (k0 := 7) rfl iX5 (by decide) n_308 hf (fun x17 hf => ?_)
  refine J_put (pc := 41) C dX10_text_41 (ci := 10) (k0 := 7) rfl iX10 tyX10 tyX10_ok nmX10 (by decide) k_375 rfl (ty := .int) (by decide +kernel) (fun _ => rfl) (fun _ => rfl) hf (fun w18 hf => ?_)
  refine J_aload_n (pc := 44) C dX10_text_44 rfl 0 rfl ?_
  refine J_aload_n (pc := 45) C dX10_text_45 rfl 0 rfl ?_
  refine J_getR (pc := 46) C dX10_text_46 (ci := 10) (k0 := 4) rfl iX10 (by decide) k_372 hf (fun x19 hf => ?_)
  refine J_getIN (pc := 49) C dX10_text_49 (ci := 5) (k0 := 8) rfl iX5 (by decide) n_310 hf (fun x20 hf => ?_)
  refine J_put (pc := 52) C dX10_text_52 (ci := 10) (k0 := 8) rfl iX10 tyX10 tyX10_ok nmX10 (by decide) k_376 rfl (ty := .int) (by decide +kernel) (fun _ => rfl) (fun _ => rfl) hf (fun w21 hf => ?_)
  refine J_aload_n (pc := 55) C dX10_text_55 rfl 0 rfl ?_
  refine J_getI (pc := 56) C dX10_text_56 (ci := 10) (k0 := 7) rfl iX10 (by decide) k_375 hf (fun x22 hf => ?_)
  refine J_if_eq (pc := 59) C dX10_text_59 (tgt := 75) (by decide) hf (fun _ hf => ?_) (fun _ hf => ?_)
  · refine J_aload_n (pc := 75) C dX10_text_75 rfl 0 rfl ?_
    refine J_getR (pc := 76) C dX10_text_76 (ci := 10) (k0 := 1) rfl iX10 (by decide) k_369 hf (fun x23 hf => ?_)
    obtain ⟨q24, h25, hf⟩ := bind_ok hf
    obtain ⟨_, g26, h25⟩ := cl_spec h25
    refine J_cV (S := []) (pc := 79) C dX10_text_79 (c_X3_forget _ _ h25) k_681 ys_X3_forget ⟨Nat.le_of_ble_eq_true rfl, Nat.le_of_ble_eq_true rfl⟩ ⟨Nat.le_of_ble_eq_true rfl, Nat.le_of_ble_eq_true rfl⟩ g26 rfl rfl (fun _ => Nat.le_of_ble_eq_true rfl) ?_
    refine J_aload_n (pc := 82) C dX10_text_82 rfl 0 rfl ?_
    refine J_getR (pc := 83) C dX10_text_83 (ci := 10) (k0 := 0) rfl iX10 (by decide) k_368 hf (fun x27 hf => ?_)
    obtain ⟨q28, h29, hf⟩ := bind_ok hf
    obtain ⟨_, g30, h29⟩ := cl_spec h29
    refine J_cV (S := []) (pc := 86) C dX10_text_86 (c_X7_total _ _ _ h29) k_685 ys_X7_total ⟨Nat.le_of_ble_eq_true rfl, Nat.le_of_ble_eq_true rfl⟩ ⟨Nat.le_of_ble_eq_true rfl, Nat.le_of_ble_eq_true rfl⟩ g30 rfl rfl (fun _ => Nat.le_of_ble_eq_true rfl) ?_
    exact J_iret (pc := 89) C  rfl rfl dX10_text_89 hf
  · refine J_aload_n (pc := 62) C dX10_text_62 rfl 0 rfl ?_
    refine J_getR (pc := 63) C dX10_text_63 (ci := 10) (k0 := 5) rfl iX10 (by decide) k_373 hf (fun x31 hf => ?_)
    refine J_aload_n (pc := 66) C dX10_text_66 rfl 0 rfl ?_
    refine J_getR (pc := 67) C dX10_text_67 (ci := 10) (k0 := 0) rfl iX10 (by decide) k_368 hf (fun x32 hf => ?_)
    obtain ⟨q33, h34, hf⟩ := bind_ok hf
    obtain ⟨_, g35, h34⟩ := cl_spec h34
    refine J_cV (S := []) (pc := 70) C dX10_text_70 (c_X6_give _ _ _ _ h34) k_677 ys_X6_give ⟨Nat.le_of_ble_eq_true rfl, Nat.le_of_ble_eq_true rfl⟩ ⟨Nat.le_of_ble_eq_true rfl, Nat.le_of_ble_eq_true rfl⟩ g35 rfl rfl (fun _ => Nat.le_of_ble_eq_true rfl) ?_
    refine J_iconst (pc := 73) C dX10_text_73 (v := -1) (by decide) ?_
    exact J_iret (pc := 74) C  rfl rfl dX10_text_74 hf
set_option maxRecDepth 100000 in
set_option maxHeartbeats 4000000 in
theorem c_X10_fault {l : Launch} {D : va_G} {dA : FieldType → ClassId} (w : MW) (v0 : Nat) (v1 : Int32) {rr : Int32} (hf : f_X10_fault w v0 v1 = some rr) : CT l D dA yX10_fault cX10_fault 2 (some .int) rmX10_fault [.ref v0, .int v1] w (some (.int rr)) w := by
  refine J_met (by decide) rfl (Nat.le_of_ble_eq_true rfl) (fun p e s m args below meth c A E C => ?_)
  rw [f_X10_fault] at hf
  refine J_sub [0, 1] (L1 := [(0, .ref v0), (1, .int v1)]) rfl ?_
  refine J_iload_n (pc := 0) C dX10_fault_0 rfl 1 rfl ?_
  refine J_case (v := 0) hf (fun g1 hf => ?_) (fun g1 hf => ?_)
  · refine J_look (pc := 1) C dX10_fault_1 (tgt := 28) (off := 27) (by decide) (by rw [g1]; try rfl) (by decide) ?_
    refine J_aload_n (pc := 28) C dX10_fault_28 rfl 0 rfl ?_
    refine J_getI (pc := 29) C dX10_fault_29 (ci := 10) (k0 := 7) rfl iX10 (by decide) k_375 hf (fun x2 hf => ?_)
    exact J_iretP (pc := 32) C  rfl rfl dX10_fault_32 hf
  refine J_case (v := 1) hf (fun g3 hf => ?_) (fun g3 hf => ?_)
  · refine J_look (pc := 1) C dX10_fault_1 (tgt := 33) (off := 32) (by decide) (by rw [g3]; try rfl) (by decide) ?_
    refine J_aload_n (pc := 33) C dX10_fault_33 rfl 0 rfl ?_
    refine J_getI (pc := 34) C dX10_fault_34 (ci := 10) (k0 := 8) rfl iX10 (by decide) k_376 hf (fun x4 hf => ?_)
    exact J_iretP (pc := 37) C  rfl rfl dX10_fault_37 hf
  refine J_look (pc := 1) C dX10_fault_1 (tgt := 38) (off := 37) (by decide) ((lv_osw g1 (k := 0) (by decide)).trans ((lv_osw g3 (k := 1) (by decide)).trans (rfl))) (by decide) ?_
  refine J_iconst (pc := 38) C dX10_fault_38 (v := -1) (by decide) ?_
  exact J_iretP (pc := 39) C  rfl rfl dX10_fault_39 hf
set_option maxRecDepth 100000 in
set_option maxHeartbeats 4000000 in
theorem c_X10_put {l : Launch} {D : va_G} {dA : FieldType → ClassId} (fu : Nat) (w : MW) (v0 : Nat) (v1 : Int32) (v2 : Int32) {rr : Int32} {w' : MW} (hf : f_X10_put fu w v0 v1 v2 = some (rr, w')) : CT l D dA yX10_put cX10_put 3 (some .int) rmX10_put [.ref v0, .int v1, .int v2] w (some (.int rr)) w' := by
  refine J_met (by decide) rfl (Nat.le_of_ble_eq_true rfl) (fun p e s m args below meth c A E C => ?_)
  rw [f_X10_put] at hf
  refine J_sub [0, 1, 2] (L1 := [(0, .ref v0), (1, .int v1), (2, .int v2)]) rfl ?_
  refine J_aload_n (pc := 0) C dX10_put_0 rfl 0 rfl ?_
  refine J_getR (pc := 1) C dX10_put_1 (ci := 10) (k0 := 1) rfl iX10 (by decide) k_369 hf (fun x1 hf => ?_)
  refine J_aload_n (pc := 4) C dX10_put_4 rfl 0 rfl ?_
  refine J_getR (pc := 5) C dX10_put_5 (ci := 10) (k0 := 0) rfl iX10 (by decide) k_368 hf (fun x2 hf => ?_)
  obtain ⟨q3, h4, hf⟩ := bind_ok hf
  obtain ⟨_, g5, h4⟩ := cl_spec h4
  refine J_cV (S := []) (pc := 8) C dX10_put_8 (c_X3_prepare _ _ _ _ h4) k_694 ys_X3_prepare ⟨Nat.le_of_ble_eq_true rfl, Nat.le_of_ble_eq_true rfl⟩ ⟨Nat.le_of_ble_eq_true rfl, Nat.le_of_ble_eq_true rfl⟩ g5 rfl rfl (fun _ => Nat.le_of_ble_eq_true rfl) ?_
  refine J_aload_n (pc := 11) C dX10_put_11 rfl 0 rfl ?_
  refine J_getR (pc := 12) C dX10_put_12 (ci := 10) (k0 := 1) rfl iX10 (by decide) k_369 hf (fun x6 hf => ?_)
  refine J_aload_n (pc := 15) C dX10_put_15 rfl 0 rfl ?_
  refine J_getR (pc := 16) C dX10_put_16 (ci := 10) (k0 := 0) rfl iX10 (by decide) k_368 hf (fun x7 hf => ?_)
  refine J_iload_n (pc := 19) C dX10_put_19 rfl 1 rfl ?_
  refine J_iload_n (pc := 20) C dX10_put_20 rfl 2 rfl ?_
  obtain ⟨q8, h9, hf⟩ := bind_ok hf
  obtain ⟨_, g10, h9⟩ := cl_spec h9
  refine J_cV (S := [.ref x6]) (pc := 21) C dX10_put_21 (c_X7_putKey _ _ _ _ _ h9) k_699 ys_X7_putKey ⟨Nat.le_of_ble_eq_true rfl, Nat.le_of_ble_eq_true rfl⟩ ⟨Nat.le_of_ble_eq_true rfl, Nat.le_of_ble_eq_true rfl⟩ g10 rfl rfl (fun _ => Nat.le_of_ble_eq_true rfl) ?_
  obtain ⟨q11, h12, hf⟩ := bind_ok hf
  obtain ⟨_, g13, h12⟩ := cl_spec h12
  refine J_cV (S := []) (pc := 24) C dX10_put_24 (c_X3_settle _ _ _ h12) k_700 ys_X3_settle ⟨Nat.le_of_ble_eq_true rfl, Nat.le_of_ble_eq_true rfl⟩ ⟨Nat.le_of_ble_eq_true rfl, Nat.le_of_ble_eq_true rfl⟩ g13 rfl rfl (fun _ => Nat.le_of_ble_eq_true rfl) ?_
  exact J_iret (pc := 27) C  rfl rfl dX10_put_27 hf
set_option maxRecDepth 100000 in
set_option maxHeartbeats 4000000 in
theorem c_X10_drop {l : Launch} {D : va_G} {dA : FieldType → ClassId} (fu : Nat) (w : MW) (v0 : Nat) (v1 : Int32) (v2 : Int32) {rr : Int32} {w' : MW} (hf : f_X10_drop fu w v0 v1 v2 = some (rr, w')) : CT l D dA yX10_drop cX10_drop 3 (some .int) rmX10_drop [.ref v0, .int v1, .int v2] w (some (.int rr)) w' := by
  refine J_met (by decide) rfl (Nat.le_of_ble_eq_true rfl) (fun p e s m args below meth c A E C => ?_)
  rw [f_X10_drop] at hf
  refine J_sub [0, 1, 2] (L1 := [(0, .ref v0), (1, .int v1), (2, .int v2)]) rfl ?_
  refine J_aload_n (pc := 0) C dX10_drop_0 rfl 0 rfl ?_
  refine J_getR (pc := 1) C dX10_drop_1 (ci := 10) (k0 := 1) rfl iX10 (by decide) k_369 hf (fun x1 hf => ?_)
  refine J_aload_n (pc := 4) C dX10_drop_4 rfl 0 rfl ?_
  refine J_getR (pc := 5) C dX10_drop_5 (ci := 10) (k0 := 0) rfl iX10 (by decide) k_368 hf (fun x2 hf => ?_)
  obtain ⟨q3, h4, hf⟩ := bind_ok hf
  obtain ⟨_, g5, h4⟩ := cl_spec h4
  refine J_cV (S := []) (pc := 8) C dX10_drop_8 (c_X3_prepare _ _ _ _ h4) k_694 ys_X3_prepare ⟨Nat.le_of_ble_eq_true rfl, Nat.le_of_ble_eq_true rfl⟩ ⟨Nat.le_of_ble_eq_true rfl, Nat.le_of_ble_eq_true rfl⟩ g5 rfl rfl (fun _ => Nat.le_of_ble_eq_true rfl) ?_
  refine J_aload_n (pc := 11) C dX10_drop_11 rfl 0 rfl ?_
  refine J_getR (pc := 12) C dX10_drop_12 (ci := 10) (k0 := 1) rfl iX10 (by decide) k_369 hf (fun x6 hf => ?_)
  refine J_aload_n (pc := 15) C dX10_drop_15 rfl 0 rfl ?_
  refine J_getR (pc := 16) C dX10_drop_16 (ci := 10) (k0 := 0) rfl iX10 (by decide) k_368 hf (fun x7 hf => ?_)
  refine J_iload_n (pc := 19) C dX10_drop_19 rfl 1 rfl ?_
  refine J_iload_n (pc := 20) C dX10_drop_20 rfl 2 rfl ?_
  obtain ⟨q8, h9, hf⟩ := bind_ok hf
  obtain ⟨_, g10, h9⟩ := cl_spec h9
  refine J_cV (S := [.ref x6]) (pc := 21) C dX10_drop_21 (c_X7_dropKey _ _ _ _ _ h9) k_709 ys_X7_dropKey ⟨Nat.le_of_ble_eq_true rfl, Nat.le_of_ble_eq_true rfl⟩ ⟨Nat.le_of_ble_eq_true rfl, Nat.le_of_ble_eq_true rfl⟩ g10 rfl rfl (fun _ => Nat.le_of_ble_eq_true rfl) ?_
  obtain ⟨q11, h12, hf⟩ := bind_ok hf
  obtain ⟨_, g13, h12⟩ := cl_spec h12
  refine J_cV (S := []) (pc := 24) C dX10_drop_24 (c_X3_settle _ _ _ h12) k_700 ys_X3_settle ⟨Nat.le_of_ble_eq_true rfl, Nat.le_of_ble_eq_true rfl⟩ ⟨Nat.le_of_ble_eq_true rfl, Nat.le_of_ble_eq_true rfl⟩ g13 rfl rfl (fun _ => Nat.le_of_ble_eq_true rfl) ?_
  exact J_iret (pc := 27) C  rfl rfl dX10_drop_27 hf
