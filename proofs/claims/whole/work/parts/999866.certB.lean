set_option maxRecDepth 100000 in
set_option maxHeartbeats 4000000 in
theorem c_X11_readsLine {l : Launch} {D : va_G} {dA : FieldType → ClassId} (fu : Nat) (w : MW) (v0 : Nat) {w' : MW} (hf : f_X11_readsLine fu w v0 = some w') : CT l D dA yX11_readsLine cX11_readsLine 4 none rmX11_readsLine [.ref v0] w none w' := by
  refine J_met (by decide) rfl (Nat.le_of_ble_eq_true rfl) (fun p e s m args below meth c A E C => ?_)
  have B99 : ∀ (w : MW) (v0 : Nat) (v1 : Int32) (v2 : Int64), f_X11_readsLine_99 fu w v0 v1 v2 = some w' → JW p l e rmX11_readsLine s m args below meth c 4 D dA A E (MQ below (Qr D dA E none w' A) args s 0 0 A) 0 0 99 [(0, .ref v0), (1, .int v1), (2, .long v2)] [] w := by
    intro w v0 v1 v2 hf
    rw [f_X11_readsLine_99] at hf
    refine J_aload_n (pc := 99) C dX11_readsLine_99 rfl 0 rfl ?_
    refine J_lload_n (pc := 100) C dX11_readsLine_100 rfl 2 rfl ?_
    obtain ⟨q11, h12, hf⟩ := bind_ok hf
    obtain ⟨_, g13, h12⟩ := cl_spec h12
    refine J_cV (S := []) (pc := 101) C dX11_readsLine_101 (c_X11_readsAct _ _ _ _ h12) k_1447 ys_X11_readsAct ⟨Nat.le_of_ble_eq_true rfl, Nat.le_of_ble_eq_true rfl⟩ ⟨Nat.le_of_ble_eq_true rfl, Nat.le_of_ble_eq_true rfl⟩ g13 rfl rfl (fun _ => Nat.le_of_ble_eq_true rfl) ?_
    refine J_if_le (pc := 104) C dX11_readsLine_104 (tgt := 125) (by decide) hf (fun _ hf => ?_) (fun _ hf => ?_)
    · exact J_vret (pc := 125) C rfl dX11_readsLine_125 hf
    · refine J_aload_n (pc := 107) C dX11_readsLine_107 rfl 0 rfl ?_
      refine J_iconst (pc := 108) C dX11_readsLine_108 (v := 4) (by decide) ?_
      refine J_iload_n (pc := 109) C dX11_readsLine_109 rfl 1 rfl ?_
      obtain ⟨q14, h15, hf⟩ := bind_ok hf
      obtain ⟨_, g16, h15⟩ := cl_spec h15
      refine J_cV (S := []) (pc := 110) C dX11_readsLine_110 (c_X11_fails _ _ _ _ h15) k_1425 ys_X11_fails ⟨Nat.le_of_ble_eq_true rfl, Nat.le_of_ble_eq_true rfl⟩ ⟨Nat.le_of_ble_eq_true rfl, Nat.le_of_ble_eq_true rfl⟩ g16 rfl rfl (fun _ => Nat.le_of_ble_eq_true rfl) ?_
      refine J_goto (pc := 113) C dX11_readsLine_113 (tgt := 125) (by decide) ?_
      exact J_vret (pc := 125) C rfl dX11_readsLine_125 hf
  have B21 : ∀ (w : MW) (v0 : Nat) (v1 : Int32) (s0 : Int64), f_X11_readsLine_21 fu w v0 v1 s0 = some w' → JW p l e rmX11_readsLine s m args below meth c 4 D dA A E (MQ below (Qr D dA E none w' A) args s 0 0 A) 0 0 21 [(0, .ref v0), (1, .int v1)] [.long s0] w := by
    intro w v0 v1 s0 hf
    rw [f_X11_readsLine_21] at hf
    refine J_lstore_n (pc := 21) C dX11_readsLine_21 rfl (by decide) hf (fun q => [(2, .long q), (0, .ref v0), (1, .int v1)]) (fun _ => rfl) (fun x4 hf => ?_)
    refine J_aload_n (pc := 22) C dX11_readsLine_22 rfl 1 rfl ?_
    refine J_ldc2 (pc := 23) C dX11_readsLine_23 (v := 14006) k_1408 ?_
    obtain ⟨q5, h6, hf⟩ := bind_ok hf
    obtain ⟨_, g7, h6⟩ := cl_spec h6
    refine J_cV (S := []) (pc := 26) C dX11_readsLine_26 (c_X11_hasWord _ _ _ _ h6) k_1409 ys_X11_hasWord ⟨Nat.le_of_ble_eq_true rfl, Nat.le_of_ble_eq_true rfl⟩ ⟨Nat.le_of_ble_eq_true rfl, Nat.le_of_ble_eq_true rfl⟩ g7 rfl rfl (fun _ => Nat.le_of_ble_eq_true rfl) ?_
    refine J_if_eq (pc := 29) C dX11_readsLine_29 (tgt := 39) (by decide) hf (fun _ hf => ?_) (fun _ hf => ?_)
    · refine J_aload_n (pc := 39) C dX11_readsLine_39 rfl 1 rfl ?_
      refine J_ldc2 (pc := 40) C dX11_readsLine_40 (v := 257105) k_1441 ?_
      obtain ⟨q8, h9, hf⟩ := bind_ok hf
      obtain ⟨_, g10, h9⟩ := cl_spec h9
      refine J_cV (S := []) (pc := 43) C dX11_readsLine_43 (c_X11_hasWord _ _ _ _ h9) k_1409 ys_X11_hasWord ⟨Nat.le_of_ble_eq_true rfl, Nat.le_of_ble_eq_true rfl⟩ ⟨Nat.le_of_ble_eq_true rfl, Nat.le_of_ble_eq_true rfl⟩ g10 rfl rfl (fun _ => Nat.le_of_ble_eq_true rfl) ?_
      refine J_if_ne (pc := 46) C dX11_readsLine_46 (tgt := 99) (by decide) hf (fun _ hf => ?_) (fun _ hf => ?_)
      · refine J_sub [1, 2, 0] (L1 := [(0, .ref v0), (1, .int v1), (2, .long x4)]) rfl ?_
        exact B99 q8.2 v0 v1 x4 hf
      · refine J_aload_n (pc := 49) C dX11_readsLine_49 rfl 1 rfl ?_
        refine J_ldc2 (pc := 50) C dX11_readsLine_50 (v := 2774) k_1442 ?_
        obtain ⟨q17, h18, hf⟩ := bind_ok hf
        obtain ⟨_, g19, h18⟩ := cl_spec h18
        refine J_cV (S := []) (pc := 53) C dX11_readsLine_53 (c_X11_hasWord _ _ _ _ h18) k_1409 ys_X11_hasWord ⟨Nat.le_of_ble_eq_true rfl, Nat.le_of_ble_eq_true rfl⟩ ⟨Nat.le_of_ble_eq_true rfl, Nat.le_of_ble_eq_true rfl⟩ g19 rfl rfl (fun _ => Nat.le_of_ble_eq_true rfl) ?_
        refine J_if_ne (pc := 56) C dX11_readsLine_56 (tgt := 99) (by decide) hf (fun _ hf => ?_) (fun _ hf => ?_)
        · refine J_sub [1, 2, 0] (L1 := [(0, .ref v0), (1, .int v1), (2, .long x4)]) rfl ?_
          exact B99 q17.2 v0 v1 x4 hf
        · refine J_aload_n (pc := 59) C dX11_readsLine_59 rfl 1 rfl ?_
          refine J_ldc2 (pc := 60) C dX11_readsLine_60 (v := 208022) k_1443 ?_
          obtain ⟨q20, h21, hf⟩ := bind_ok hf
          obtain ⟨_, g22, h21⟩ := cl_spec h21
          refine J_cV (S := []) (pc := 63) C dX11_readsLine_63 (c_X11_hasWord _ _ _ _ h21) k_1409 ys_X11_hasWord ⟨Nat.le_of_ble_eq_true rfl, Nat.le_of_ble_eq_true rfl⟩ ⟨Nat.le_of_ble_eq_true rfl, Nat.le_of_ble_eq_true rfl⟩ g22 rfl rfl (fun _ => Nat.le_of_ble_eq_true rfl) ?_
          refine J_if_ne (pc := 66) C dX11_readsLine_66 (tgt := 99) (by decide) hf (fun _ hf => ?_) (fun _ hf => ?_)
          · refine J_sub [1, 2, 0] (L1 := [(0, .ref v0), (1, .int v1), (2, .long x4)]) rfl ?_
            exact B99 q20.2 v0 v1 x4 hf
          · refine J_aload_n (pc := 69) C dX11_readsLine_69 rfl 1 rfl ?_
            refine J_ldc2 (pc := 70) C dX11_readsLine_70 (v := 259868) k_1444 ?_
            obtain ⟨q23, h24, hf⟩ := bind_ok hf
            obtain ⟨_, g25, h24⟩ := cl_spec h24
            refine J_cV (S := []) (pc := 73) C dX11_readsLine_73 (c_X11_hasWord _ _ _ _ h24) k_1409 ys_X11_hasWord ⟨Nat.le_of_ble_eq_true rfl, Nat.le_of_ble_eq_true rfl⟩ ⟨Nat.le_of_ble_eq_true rfl, Nat.le_of_ble_eq_true rfl⟩ g25 rfl rfl (fun _ => Nat.le_of_ble_eq_true rfl) ?_
            refine J_if_ne (pc := 76) C dX11_readsLine_76 (tgt := 99) (by decide) hf (fun _ hf => ?_) (fun _ hf => ?_)
            · refine J_sub [1, 2, 0] (L1 := [(0, .ref v0), (1, .int v1), (2, .long x4)]) rfl ?_
              exact B99 q23.2 v0 v1 x4 hf
            · refine J_aload_n (pc := 79) C dX11_readsLine_79 rfl 1 rfl ?_
              refine J_ldc2 (pc := 80) C dX11_readsLine_80 (v := 10261586) k_1445 ?_
              obtain ⟨q26, h27, hf⟩ := bind_ok hf
              obtain ⟨_, g28, h27⟩ := cl_spec h27
              refine J_cV (S := []) (pc := 83) C dX11_readsLine_83 (c_X11_hasWord _ _ _ _ h27) k_1409 ys_X11_hasWord ⟨Nat.le_of_ble_eq_true rfl, Nat.le_of_ble_eq_true rfl⟩ ⟨Nat.le_of_ble_eq_true rfl, Nat.le_of_ble_eq_true rfl⟩ g28 rfl rfl (fun _ => Nat.le_of_ble_eq_true rfl) ?_
              refine J_if_ne (pc := 86) C dX11_readsLine_86 (tgt := 99) (by decide) hf (fun _ hf => ?_) (fun _ hf => ?_)
              · refine J_sub [1, 2, 0] (L1 := [(0, .ref v0), (1, .int v1), (2, .long x4)]) rfl ?_
                exact B99 q26.2 v0 v1 x4 hf
              · refine J_aload_n (pc := 89) C dX11_readsLine_89 rfl 1 rfl ?_
                refine J_ldc2 (pc := 90) C dX11_readsLine_90 (v := 267413) k_1446 ?_
                obtain ⟨q29, h30, hf⟩ := bind_ok hf
                obtain ⟨_, g31, h30⟩ := cl_spec h30
                refine J_cV (S := []) (pc := 93) C dX11_readsLine_93 (c_X11_hasWord _ _ _ _ h30) k_1409 ys_X11_hasWord ⟨Nat.le_of_ble_eq_true rfl, Nat.le_of_ble_eq_true rfl⟩ ⟨Nat.le_of_ble_eq_true rfl, Nat.le_of_ble_eq_true rfl⟩ g31 rfl rfl (fun _ => Nat.le_of_ble_eq_true rfl) ?_
                refine J_if_eq (pc := 96) C dX11_readsLine_96 (tgt := 116) (by decide) hf (fun _ hf => ?_) (fun _ hf => ?_)
                · refine J_aload_n (pc := 116) C dX11_readsLine_116 rfl 1 rfl ?_
                  refine J_iconst (pc := 117) C dX11_readsLine_117 (v := 1) (by decide) ?_
                  refine J_aload_n (pc := 118) C dX11_readsLine_118 rfl 1 rfl ?_
                  refine J_getI (pc := 119) C dX11_readsLine_119 (ci := 11) (k0 := 25) rfl iX11 (by decide) k_1028 hf (fun x32 hf => ?_)
                  obtain ⟨q33, h34, hf⟩ := bind_ok hf
                  obtain ⟨_, g35, h34⟩ := cl_spec h34
                  refine J_cV (S := []) (pc := 122) C dX11_readsLine_122 (c_X11_fails _ _ _ _ h34) k_1425 ys_X11_fails ⟨Nat.le_of_ble_eq_true rfl, Nat.le_of_ble_eq_true rfl⟩ ⟨Nat.le_of_ble_eq_true rfl, Nat.le_of_ble_eq_true rfl⟩ g35 rfl rfl (fun _ => Nat.le_of_ble_eq_true rfl) ?_
                  exact J_vret (pc := 125) C rfl dX11_readsLine_125 hf
                · refine J_sub [1, 2, 0] (L1 := [(0, .ref v0), (1, .int v1), (2, .long x4)]) rfl ?_
                  exact B99 q29.2 v0 v1 x4 hf
    · refine J_aload_n (pc := 32) C dX11_readsLine_32 rfl 1 rfl ?_
      obtain ⟨q36, h37, hf⟩ := bind_ok hf
      obtain ⟨_, g38, h37⟩ := cl_spec h37
      refine J_cV (S := []) (pc := 33) C dX11_readsLine_33 (c_X11_readsSet _ _ _ h37) k_1413 ys_X11_readsSet ⟨Nat.le_of_ble_eq_true rfl, Nat.le_of_ble_eq_true rfl⟩ ⟨Nat.le_of_ble_eq_true rfl, Nat.le_of_ble_eq_true rfl⟩ g38 rfl rfl (fun _ => Nat.le_of_ble_eq_true rfl) ?_
      refine J_goto (pc := 36) C dX11_readsLine_36 (tgt := 125) (by decide) ?_
      exact J_vret (pc := 125) C rfl dX11_readsLine_125 hf
  rw [f_X11_readsLine] at hf
  refine J_sub [0] (L1 := [(0, .ref v0)]) rfl ?_
  refine J_aload_n (pc := 0) C dX11_readsLine_0 rfl 0 rfl ?_
  refine J_getI (pc := 1) C dX11_readsLine_1 (ci := 11) (k0 := 25) rfl iX11 (by decide) k_1028 hf (fun x1 hf => ?_)
  refine J_istore_n (pc := 4) C dX11_readsLine_4 rfl (by decide) hf (fun q => [(1, .int q), (0, .ref v0)]) (fun _ => rfl) (fun x2 hf => ?_)
  refine J_aload_n (pc := 5) C dX11_readsLine_5 rfl 1 rfl ?_
  refine J_getI (pc := 6) C dX11_readsLine_6 (ci := 11) (k0 := 24) rfl iX11 (by decide) k_1027 hf (fun x3 hf => ?_)
  refine J_iconst (pc := 9) C dX11_readsLine_9 (v := 1) (by decide) ?_
  refine J_icmp_ne (pc := 10) C dX11_readsLine_10 (tgt := 20) (by decide) hf (fun _ hf => ?_) (fun _ hf => ?_)
  · refine J_lconst (pc := 20) C dX11_readsLine_20 (v := 0) (by decide) ?_
    refine J_sub [1, 0] (L1 := [(0, .ref v0), (1, .int x2)]) rfl ?_
    exact B21 w v0 x2 (0 : Int64) hf
  · refine J_aload_n (pc := 13) C dX11_readsLine_13 rfl 1 rfl ?_
    refine J_getJ (pc := 14) C dX11_readsLine_14 (ci := 11) (k0 := 26) rfl iX11 (by decide) k_1029 hf (fun x39 hf => ?_)
    refine J_goto (pc := 17) C dX11_readsLine_17 (tgt := 21) (by decide) ?_
    refine J_sub [1, 0] (L1 := [(0, .ref v0), (1, .int x2)]) rfl ?_
    exact B21 w v0 x2 x39 hf
set_option maxRecDepth 100000 in
set_option maxHeartbeats 4000000 in
theorem c_X11_text {l : Launch} {D : va_G} {dA : FieldType → ClassId} (fu : Nat) (w : MW) (v0 : Nat) {rr : Int32} {w' : MW} (hf : f_X11_text fu w v0 = some (rr, w')) : CT l D dA yX11_text cX11_text 1 (some .int) rmX11_text [.ref v0] w (some (.int rr)) w' := by
  refine J_met (by decide) rfl (Nat.le_of_ble_eq_true rfl) (fun p e s m args below meth c A E C => ?_)
  have B67 : ∀ (w : MW) (v0 : Nat), f_X11_text_67 fu w v0 = some (rr, w') → JW p l e rmX11_text s m args below meth c 1 D dA A E (MQ below (Qr D dA E (some (.int rr)) w' A) args s 0 0 A) 0 0 67 [(0, .ref v0)] [] w := by
    intro w v0 hf
    rw [f_X11_text_67] at hf
    refine J_aload_n (pc := 67) C dX11_text_67 rfl 0 rfl ?_
    refine J_iconst (pc := 68) C dX11_text_68 (v := 0) (by decide) ?_
    refine J_put (pc := 69) C dX11_text_69 (ci := 11) (k0 := 9) rfl iX11 tyX11 tyX11_ok nmX11 (by decide) k_1012 rfl (ty := .int) (by decide +kernel) (fun _ => rfl) (fun _ => rfl) hf (fun w17 hf => ?_)
    refine J_aload_n (pc := 72) C dX11_text_72 rfl 0 rfl ?_
    obtain ⟨q18, h19, hf⟩ := bind_ok hf
    obtain ⟨_, g20, h19⟩ := cl_spec h19
    refine J_cV (S := []) (pc := 73) C dX11_text_73 (c_X11_isGood _ _ h19) k_1400 ys_X11_isGood ⟨Nat.le_of_ble_eq_true rfl, Nat.le_of_ble_eq_true rfl⟩ ⟨Nat.le_of_ble_eq_true rfl, Nat.le_of_ble_eq_true rfl⟩ g20 rfl rfl (fun _ => Nat.le_of_ble_eq_true rfl) ?_
    refine J_if_ne (pc := 76) C dX11_text_76 (tgt := 81) (by decide) hf (fun _ hf => ?_) (fun _ hf => ?_)
    · refine J_aload_n (pc := 81) C dX11_text_81 rfl 0 rfl ?_
      refine J_sipush (pc := 82) C dX11_text_82 (v := 976) (by decide) ?_
      refine J_iconst (pc := 85) C dX11_text_85 (v := 0) (by decide) ?_
      refine J_sipush (pc := 86) C dX11_text_86 (v := 976) (by decide) ?_
      obtain ⟨q21, h22, hf⟩ := bind_ok hf
      obtain ⟨_, g23, h22⟩ := cl_spec h22
      refine J_cV (S := []) (pc := 89) C dX11_text_89 (c_X11_copies _ _ _ _ _ _ h22) k_1131 ys_X11_copies ⟨Nat.le_of_ble_eq_true rfl, Nat.le_of_ble_eq_true rfl⟩ ⟨Nat.le_of_ble_eq_true rfl, Nat.le_of_ble_eq_true rfl⟩ g23 rfl rfl (fun _ => Nat.le_of_ble_eq_true rfl) ?_
      refine J_aload_n (pc := 92) C dX11_text_92 rfl 0 rfl ?_
      refine J_iconst (pc := 93) C dX11_text_93 (v := 0) (by decide) ?_
      refine J_put (pc := 94) C dX11_text_94 (ci := 11) (k0 := 8) rfl iX11 tyX11 tyX11_ok nmX11 (by decide) k_1011 rfl (ty := .int) (by decide +kernel) (fun _ => rfl) (fun _ => rfl) hf (fun w24 hf => ?_)
      refine J_aload_n (pc := 97) C dX11_text_97 rfl 0 rfl ?_
      obtain ⟨q25, h26, hf⟩ := bind_ok hf
      obtain ⟨_, g27, h26⟩ := cl_spec h26
      refine J_cV (S := []) (pc := 98) C dX11_text_98 (c_X11_total _ _ _ h26) k_1119 ys_X11_total ⟨Nat.le_of_ble_eq_true rfl, Nat.le_of_ble_eq_true rfl⟩ ⟨Nat.le_of_ble_eq_true rfl, Nat.le_of_ble_eq_true rfl⟩ g27 rfl rfl (fun _ => Nat.le_of_ble_eq_true rfl) ?_
      exact J_iret (pc := 101) C  rfl rfl dX11_text_101 hf
    · refine J_iconst (pc := 79) C dX11_text_79 (v := -1) (by decide) ?_
      exact J_iret (pc := 80) C  rfl rfl dX11_text_80 hf
  have B46 : ∀ (n : Nat) (w : MW) (v0 : Nat), f_X11_text_46 fu n w v0 = some (rr, w') → JW p l e rmX11_text s m args below meth c 1 D dA A E (MQ below (Qr D dA E (some (.int rr)) w' A) args s 0 0 A) 0 0 46 [(0, .ref v0)] [] w := by
    intro n
    induction n with
    | zero => intro w v0 hf; rw [f_X11_text_46] at hf; cases hf
    | succ n ih =>
      intro w v0 hf
      rw [f_X11_text_46] at hf
      refine J_aload_n (pc := 46) C dX11_text_46 rfl 0 rfl ?_
      obtain ⟨q14, h15, hf⟩ := bind_ok hf
      obtain ⟨_, g16, h15⟩ := cl_spec h15
      refine J_cV (S := []) (pc := 47) C dX11_text_47 (c_X11_isGood _ _ h15) k_1400 ys_X11_isGood ⟨Nat.le_of_ble_eq_true rfl, Nat.le_of_ble_eq_true rfl⟩ ⟨Nat.le_of_ble_eq_true rfl, Nat.le_of_ble_eq_true rfl⟩ g16 rfl rfl (fun _ => Nat.le_of_ble_eq_true rfl) ?_
      refine J_if_eq (pc := 50) C dX11_text_50 (tgt := 67) (by decide) hf (fun _ hf => ?_) (fun _ hf => ?_)
      · refine J_sub [0] (L1 := [(0, .ref v0)]) rfl ?_
        exact B67 w v0 hf
      · refine J_aload_n (pc := 53) C dX11_text_53 rfl 0 rfl ?_
        refine J_getI (pc := 54) C dX11_text_54 (ci := 11) (k0 := 24) rfl iX11 (by decide) k_1027 hf (fun x28 hf => ?_)
        refine J_if_eq (pc := 57) C dX11_text_57 (tgt := 67) (by decide) hf (fun _ hf => ?_) (fun _ hf => ?_)
        · refine J_sub [0] (L1 := [(0, .ref v0)]) rfl ?_
          exact B67 w v0 hf
        · refine J_aload_n (pc := 60) C dX11_text_60 rfl 0 rfl ?_
          obtain ⟨q29, h30, hf⟩ := bind_ok hf
          obtain ⟨_, g31, h30⟩ := cl_spec h30
          refine J_cV (S := []) (pc := 61) C dX11_text_61 (c_X11_readsLine _ _ _ h30) k_1404 ys_X11_readsLine ⟨Nat.le_of_ble_eq_true rfl, Nat.le_of_ble_eq_true rfl⟩ ⟨Nat.le_of_ble_eq_true rfl, Nat.le_of_ble_eq_true rfl⟩ g31 rfl rfl (fun _ => Nat.le_of_ble_eq_true rfl) ?_
          refine J_goto (pc := 64) C dX11_text_64 (tgt := 46) (by decide) ?_
          refine J_sub [0] (L1 := [(0, .ref v0)]) rfl ?_
          exact ih q29 v0 hf
  rw [f_X11_text] at hf
  refine J_sub [0] (L1 := [(0, .ref v0)]) rfl ?_
  refine J_aload_n (pc := 0) C dX11_text_0 rfl 0 rfl ?_
  refine J_aload_n (pc := 1) C dX11_text_1 rfl 0 rfl ?_
  refine J_getI (pc := 2) C dX11_text_2 (ci := 11) (k0 := 4) rfl iX11 (by decide) k_1007 hf (fun x1 hf => ?_)
  refine J_put (pc := 5) C dX11_text_5 (ci := 11) (k0 := 22) rfl iX11 tyX11 tyX11_ok nmX11 (by decide) k_1025 rfl (ty := .int) (by decide +kernel) (fun _ => rfl) (fun _ => rfl) hf (fun w2 hf => ?_)
  refine J_aload_n (pc := 8) C dX11_text_8 rfl 0 rfl ?_
  refine J_iconst (pc := 9) C dX11_text_9 (v := 0) (by decide) ?_
  refine J_put (pc := 10) C dX11_text_10 (ci := 11) (k0 := 4) rfl iX11 tyX11 tyX11_ok nmX11 (by decide) k_1007 rfl (ty := .int) (by decide +kernel) (fun _ => rfl) (fun _ => rfl) hf (fun w3 hf => ?_)
  refine J_aload_n (pc := 13) C dX11_text_13 rfl 0 rfl ?_
  refine J_iconst (pc := 14) C dX11_text_14 (v := 0) (by decide) ?_
  refine J_put (pc := 15) C dX11_text_15 (ci := 11) (k0 := 6) rfl iX11 tyX11 tyX11_ok nmX11 (by decide) k_1009 rfl (ty := .int) (by decide +kernel) (fun _ => rfl) (fun _ => rfl) hf (fun w4 hf => ?_)
  refine J_aload_n (pc := 18) C dX11_text_18 rfl 0 rfl ?_
  refine J_iconst (pc := 19) C dX11_text_19 (v := -1) (by decide) ?_
  refine J_put (pc := 20) C dX11_text_20 (ci := 11) (k0 := 7) rfl iX11 tyX11 tyX11_ok nmX11 (by decide) k_1010 rfl (ty := .int) (by decide +kernel) (fun _ => rfl) (fun _ => rfl) hf (fun w5 hf => ?_)
  refine J_aload_n (pc := 23) C dX11_text_23 rfl 0 rfl ?_
  refine J_iconst (pc := 24) C dX11_text_24 (v := 0) (by decide) ?_
  refine J_put (pc := 25) C dX11_text_25 (ci := 11) (k0 := 23) rfl iX11 tyX11 tyX11_ok nmX11 (by decide) k_1026 rfl (ty := .int) (by decide +kernel) (fun _ => rfl) (fun _ => rfl) hf (fun w6 hf => ?_)
  refine J_aload_n (pc := 28) C dX11_text_28 rfl 0 rfl ?_
  refine J_sipush (pc := 29) C dX11_text_29 (v := 976) (by decide) ?_
  obtain ⟨q7, h8, hf⟩ := bind_ok hf
  obtain ⟨_, g9, h8⟩ := cl_spec h8
  refine J_cV (S := []) (pc := 32) C dX11_text_32 (c_X11_empties _ _ _ _ h8) k_999 ys_X11_empties ⟨Nat.le_of_ble_eq_true rfl, Nat.le_of_ble_eq_true rfl⟩ ⟨Nat.le_of_ble_eq_true rfl, Nat.le_of_ble_eq_true rfl⟩ g9 rfl rfl (fun _ => Nat.le_of_ble_eq_true rfl) ?_
  refine J_aload_n (pc := 35) C dX11_text_35 rfl 0 rfl ?_
  refine J_sipush (pc := 36) C dX11_text_36 (v := 976) (by decide) ?_
  refine J_put (pc := 39) C dX11_text_39 (ci := 11) (k0 := 9) rfl iX11 tyX11 tyX11_ok nmX11 (by decide) k_1012 rfl (ty := .int) (by decide +kernel) (fun _ => rfl) (fun _ => rfl) hf (fun w10 hf => ?_)
  refine J_aload_n (pc := 42) C dX11_text_42 rfl 0 rfl ?_
  obtain ⟨q11, h12, hf⟩ := bind_ok hf
  obtain ⟨_, g13, h12⟩ := cl_spec h12
  refine J_cV (S := []) (pc := 43) C dX11_text_43 (c_X11_takes _ _ _ h12) k_1381 ys_X11_takes ⟨Nat.le_of_ble_eq_true rfl, Nat.le_of_ble_eq_true rfl⟩ ⟨Nat.le_of_ble_eq_true rfl, Nat.le_of_ble_eq_true rfl⟩ g13 rfl rfl (fun _ => Nat.le_of_ble_eq_true rfl) ?_
  refine J_sub [0] (L1 := [(0, .ref v0)]) rfl ?_
  exact B46 fu q11 v0 hf
set_option maxRecDepth 100000 in
set_option maxHeartbeats 4000000 in
theorem c_X11_image {l : Launch} {D : va_G} {dA : FieldType → ClassId} (fu : Nat) (w : MW) (v0 : Nat) (v1 : Int32) {rr : Int32} {w' : MW} (hf : f_X11_image fu w v0 v1 = some (rr, w')) : CT l D dA yX11_image cX11_image 4 (some .boolean) rmX11_image [.ref v0, .int v1] w (some (.int rr)) w' := by
  refine J_met (by decide) rfl (Nat.le_of_ble_eq_true rfl) (fun p e s m args below meth c A E C => ?_)
  have B65 : ∀ (n : Nat) (w : MW) (v0 : Nat) (v1 : Int32) (v2 : Int32) (v3 : Int32), f_X11_image_65 fu n w v0 v1 v2 v3 = some (rr, w') → JW p l e rmX11_image s m args below meth c 4 D dA A E (MQ below (Qr D dA E (some (.int rr)) w' A) args s 0 0 A) 0 0 65 [(0, .ref v0), (1, .int v1), (2, .int v2), (3, .int v3)] [] w := by
    intro n
    induction n with
    | zero => intro w v0 v1 v2 v3 hf; rw [f_X11_image_65] at hf; cases hf
    | succ n ih =>
      intro w v0 v1 v2 v3 hf
      rw [f_X11_image_65] at hf
      refine J_iload_n (pc := 65) C dX11_image_65 rfl 3 rfl ?_
      refine J_sipush (pc := 66) C dX11_image_66 (v := 400) (by decide) ?_
      refine J_icmp_ge (pc := 69) C dX11_image_69 (tgt := 100) (by decide) hf (fun _ hf => ?_) (fun _ hf => ?_)
      · refine J_aload_n (pc := 100) C dX11_image_100 rfl 0 rfl ?_
        refine J_getR (pc := 101) C dX11_image_101 (ci := 11) (k0 := 0) rfl iX11 (by decide) k_1003 hf (fun x7 hf => ?_)
        refine J_iload_n (pc := 104) C dX11_image_104 rfl 2 rfl ?_
        refine J_sipush (pc := 105) C dX11_image_105 (v := 976) (by decide) ?_
        refine J_iadd (pc := 108) C dX11_image_108 ?_
        refine J_sipush (pc := 109) C dX11_image_109 (v := 800) (by decide) ?_
        refine J_iadd (pc := 112) C dX11_image_112 ?_
        refine J_sipush (pc := 113) C dX11_image_113 (v := 400) (by decide) ?_
        refine J_iadd (pc := 116) C dX11_image_116 ?_
        refine J_aload_n (pc := 117) C dX11_image_117 rfl 0 rfl ?_
        refine J_getI (pc := 118) C dX11_image_118 (ci := 11) (k0 := 4) rfl iX11 (by decide) k_1007 hf (fun x8 hf => ?_)
        refine J_iast (pc := 121) C dX11_image_121 hf (fun w9 hf => ?_)
        refine J_aload_n (pc := 122) C dX11_image_122 rfl 0 rfl ?_
        refine J_getR (pc := 123) C dX11_image_123 (ci := 11) (k0 := 0) rfl iX11 (by decide) k_1003 hf (fun x10 hf => ?_)
        refine J_iload_n (pc := 126) C dX11_image_126 rfl 2 rfl ?_
        refine J_sipush (pc := 127) C dX11_image_127 (v := 976) (by decide) ?_
        refine J_iadd (pc := 130) C dX11_image_130 ?_
        refine J_sipush (pc := 131) C dX11_image_131 (v := 800) (by decide) ?_
        refine J_iadd (pc := 134) C dX11_image_134 ?_
        refine J_sipush (pc := 135) C dX11_image_135 (v := 401) (by decide) ?_
        refine J_iadd (pc := 138) C dX11_image_138 ?_
        refine J_aload_n (pc := 139) C dX11_image_139 rfl 0 rfl ?_
        refine J_getI (pc := 140) C dX11_image_140 (ci := 11) (k0 := 6) rfl iX11 (by decide) k_1009 hf (fun x11 hf => ?_)
        refine J_iast (pc := 143) C dX11_image_143 hf (fun w12 hf => ?_)
        refine J_aload_n (pc := 144) C dX11_image_144 rfl 0 rfl ?_
        refine J_getR (pc := 145) C dX11_image_145 (ci := 11) (k0 := 0) rfl iX11 (by decide) k_1003 hf (fun x13 hf => ?_)
        refine J_iload_n (pc := 148) C dX11_image_148 rfl 2 rfl ?_
        refine J_sipush (pc := 149) C dX11_image_149 (v := 976) (by decide) ?_
        refine J_iadd (pc := 152) C dX11_image_152 ?_
        refine J_sipush (pc := 153) C dX11_image_153 (v := 800) (by decide) ?_
        refine J_iadd (pc := 156) C dX11_image_156 ?_
        refine J_sipush (pc := 157) C dX11_image_157 (v := 402) (by decide) ?_
        refine J_iadd (pc := 160) C dX11_image_160 ?_
        refine J_aload_n (pc := 161) C dX11_image_161 rfl 0 rfl ?_
        refine J_getI (pc := 162) C dX11_image_162 (ci := 11) (k0 := 7) rfl iX11 (by decide) k_1010 hf (fun x14 hf => ?_)
        refine J_iast (pc := 165) C dX11_image_165 hf (fun w15 hf => ?_)
        refine J_aload_n (pc := 166) C dX11_image_166 rfl 0 rfl ?_
        refine J_getR (pc := 167) C dX11_image_167 (ci := 11) (k0 := 0) rfl iX11 (by decide) k_1003 hf (fun x16 hf => ?_)
        refine J_iload_n (pc := 170) C dX11_image_170 rfl 2 rfl ?_
        refine J_sipush (pc := 171) C dX11_image_171 (v := 976) (by decide) ?_
        refine J_iadd (pc := 174) C dX11_image_174 ?_
        refine J_sipush (pc := 175) C dX11_image_175 (v := 800) (by decide) ?_
        refine J_iadd (pc := 178) C dX11_image_178 ?_
        refine J_sipush (pc := 179) C dX11_image_179 (v := 403) (by decide) ?_
        refine J_iadd (pc := 182) C dX11_image_182 ?_
        refine J_aload_n (pc := 183) C dX11_image_183 rfl 0 rfl ?_
        refine J_getI (pc := 184) C dX11_image_184 (ci := 11) (k0 := 5) rfl iX11 (by decide) k_1008 hf (fun x17 hf => ?_)
        refine J_iast (pc := 187) C dX11_image_187 hf (fun w18 hf => ?_)
        refine J_aload_n (pc := 188) C dX11_image_188 rfl 0 rfl ?_
        refine J_getR (pc := 189) C dX11_image_189 (ci := 11) (k0 := 3) rfl iX11 (by decide) k_1006 hf (fun x19 hf => ?_)
        refine J_iload_n (pc := 192) C dX11_image_192 rfl 1 rfl ?_
        refine J_iconst (pc := 193) C dX11_image_193 (v := 1) (by decide) ?_
        refine J_zast (pc := 194) C dX11_image_194 hf (fun w20 hf => ?_)
        refine J_iconst (pc := 195) C dX11_image_195 (v := 1) (by decide) ?_
        exact J_iret (pc := 196) C  rfl (by decide) dX11_image_196 hf
      · refine J_aload_n (pc := 72) C dX11_image_72 rfl 0 rfl ?_
        refine J_getR (pc := 73) C dX11_image_73 (ci := 11) (k0 := 0) rfl iX11 (by decide) k_1003 hf (fun x21 hf => ?_)
        refine J_iload_n (pc := 76) C dX11_image_76 rfl 2 rfl ?_
        refine J_sipush (pc := 77) C dX11_image_77 (v := 976) (by decide) ?_
        refine J_iadd (pc := 80) C dX11_image_80 ?_
        refine J_sipush (pc := 81) C dX11_image_81 (v := 800) (by decide) ?_
        refine J_iadd (pc := 84) C dX11_image_84 ?_
        refine J_iload_n (pc := 85) C dX11_image_85 rfl 3 rfl ?_
        refine J_iadd (pc := 86) C dX11_image_86 ?_
        refine J_aload_n (pc := 87) C dX11_image_87 rfl 0 rfl ?_
        refine J_getR (pc := 88) C dX11_image_88 (ci := 11) (k0 := 2) rfl iX11 (by decide) k_1005 hf (fun x22 hf => ?_)
        refine J_iload_n (pc := 91) C dX11_image_91 rfl 3 rfl ?_
        refine J_iald (pc := 92) C dX11_image_92 hf (fun x23 hf => ?_)
        refine J_iast (pc := 93) C dX11_image_93 hf (fun w24 hf => ?_)
        refine J_iinc (pc := 94) C dX11_image_94 3 rfl (y := v3 + 1) rfl (by decide) hf (fun q => [(3, .int q), (0, .ref v0), (1, .int v1), (2, .int v2)]) (fun _ => rfl) (fun x25 hf => ?_)
        refine J_goto (pc := 97) C dX11_image_97 (tgt := 65) (by decide) ?_
        refine J_sub [1, 2, 3, 0] (L1 := [(0, .ref v0), (1, .int v1), (2, .int v2), (3, .int x25)]) rfl ?_
        exact ih w24 v0 v1 v2 x25 hf
  have B32 : ∀ (n : Nat) (w : MW) (v0 : Nat) (v1 : Int32) (v2 : Int32) (v3 : Int32), f_X11_image_32 fu n w v0 v1 v2 v3 = some (rr, w') → JW p l e rmX11_image s m args below meth c 4 D dA A E (MQ below (Qr D dA E (some (.int rr)) w' A) args s 0 0 A) 0 0 32 [(0, .ref v0), (1, .int v1), (2, .int v2), (3, .int v3)] [] w := by
    intro n
    induction n with
    | zero => intro w v0 v1 v2 v3 hf; rw [f_X11_image_32] at hf; cases hf
    | succ n ih =>
      intro w v0 v1 v2 v3 hf
      rw [f_X11_image_32] at hf
      refine J_iload_n (pc := 32) C dX11_image_32 rfl 3 rfl ?_
      refine J_sipush (pc := 33) C dX11_image_33 (v := 800) (by decide) ?_
      refine J_icmp_ge (pc := 36) C dX11_image_36 (tgt := 63) (by decide) hf (fun _ hf => ?_) (fun _ hf => ?_)
      · refine J_iconst (pc := 63) C dX11_image_63 (v := 0) (by decide) ?_
        refine J_istore_n (pc := 64) C dX11_image_64 rfl (by decide) hf (fun q => [(3, .int q), (0, .ref v0), (1, .int v1), (2, .int v2)]) (fun _ => rfl) (fun x6 hf => ?_)
        refine J_sub [1, 2, 3, 0] (L1 := [(0, .ref v0), (1, .int v1), (2, .int v2), (3, .int x6)]) rfl ?_
        exact B65 fu w v0 v1 v2 x6 hf
      · refine J_aload_n (pc := 39) C dX11_image_39 rfl 0 rfl ?_
        refine J_getR (pc := 40) C dX11_image_40 (ci := 11) (k0 := 0) rfl iX11 (by decide) k_1003 hf (fun x26 hf => ?_)
        refine J_iload_n (pc := 43) C dX11_image_43 rfl 2 rfl ?_
        refine J_sipush (pc := 44) C dX11_image_44 (v := 976) (by decide) ?_
        refine J_iadd (pc := 47) C dX11_image_47 ?_
        refine J_iload_n (pc := 48) C dX11_image_48 rfl 3 rfl ?_
        refine J_iadd (pc := 49) C dX11_image_49 ?_
        refine J_aload_n (pc := 50) C dX11_image_50 rfl 0 rfl ?_
        refine J_getR (pc := 51) C dX11_image_51 (ci := 11) (k0 := 1) rfl iX11 (by decide) k_1004 hf (fun x27 hf => ?_)
        refine J_iload_n (pc := 54) C dX11_image_54 rfl 3 rfl ?_
        refine J_iald (pc := 55) C dX11_image_55 hf (fun x28 hf => ?_)
        refine J_iast (pc := 56) C dX11_image_56 hf (fun w29 hf => ?_)
        refine J_iinc (pc := 57) C dX11_image_57 3 rfl (y := v3 + 1) rfl (by decide) hf (fun q => [(3, .int q), (0, .ref v0), (1, .int v1), (2, .int v2)]) (fun _ => rfl) (fun x30 hf => ?_)
        refine J_goto (pc := 60) C dX11_image_60 (tgt := 32) (by decide) ?_
        refine J_sub [1, 2, 3, 0] (L1 := [(0, .ref v0), (1, .int v1), (2, .int v2), (3, .int x30)]) rfl ?_
        exact ih w29 v0 v1 v2 x30 hf
  rw [f_X11_image] at hf
  refine J_sub [0, 1] (L1 := [(0, .ref v0), (1, .int v1)]) rfl ?_
  refine J_iload_n (pc := 0) C dX11_image_0 rfl 1 rfl ?_
  refine J_iconst (pc := 1) C dX11_image_1 (v := 0) (by decide) ?_
  refine J_iconst (pc := 2) C dX11_image_2 (v := 2) (by decide) ?_
  refine J_cS (S := []) (pc := 3) C dX11_image_3 (c_X11_isIn _ _ _ _ rfl) k_1097 ys_X11_isIn ⟨Nat.le_of_ble_eq_true rfl, Nat.le_of_ble_eq_true rfl⟩ ⟨Nat.le_of_ble_eq_true rfl, Nat.le_of_ble_eq_true rfl⟩ rfl rfl (fun _ => Nat.le_of_ble_eq_true rfl) ?_
  refine J_if_ne (pc := 6) C dX11_image_6 (tgt := 11) (by decide) hf (fun _ hf => ?_) (fun _ hf => ?_)
  · refine J_sipush (pc := 11) C dX11_image_11 (v := 13664) (by decide) ?_
    refine J_sipush (pc := 14) C dX11_image_14 (v := 2180) (by decide) ?_
    refine J_iload_n (pc := 17) C dX11_image_17 rfl 1 rfl ?_
    refine J_imul (pc := 18) C dX11_image_18 ?_
    refine J_iadd (pc := 19) C dX11_image_19 ?_
    refine J_istore_n (pc := 20) C dX11_image_20 rfl (by decide) hf (fun q => [(2, .int q), (0, .ref v0), (1, .int v1)]) (fun _ => rfl) (fun x1 hf => ?_)
    refine J_aload_n (pc := 21) C dX11_image_21 rfl 1 rfl ?_
    refine J_iconst (pc := 22) C dX11_image_22 (v := 0) (by decide) ?_
    refine J_iload_n (pc := 23) C dX11_image_23 rfl 0 rfl ?_
    refine J_sipush (pc := 24) C dX11_image_24 (v := 976) (by decide) ?_
    obtain ⟨q2, h3, hf⟩ := bind_ok hf
    obtain ⟨_, g4, h3⟩ := cl_spec h3
    refine J_cV (S := []) (pc := 27) C dX11_image_27 (c_X11_copies _ _ _ _ _ _ h3) k_1131 ys_X11_copies ⟨Nat.le_of_ble_eq_true rfl, Nat.le_of_ble_eq_true rfl⟩ ⟨Nat.le_of_ble_eq_true rfl, Nat.le_of_ble_eq_true rfl⟩ g4 rfl rfl (fun _ => Nat.le_of_ble_eq_true rfl) ?_
    refine J_iconst (pc := 30) C dX11_image_30 (v := 0) (by decide) ?_
    refine J_istore_n (pc := 31) C dX11_image_31 rfl (by decide) hf (fun q => [(3, .int q), (2, .int x1), (0, .ref v0), (1, .int v1)]) (fun _ => rfl) (fun x5 hf => ?_)
    refine J_sub [2, 3, 1, 0] (L1 := [(0, .ref v0), (1, .int v1), (2, .int x1), (3, .int x5)]) rfl ?_
    exact B32 fu q2 v0 v1 x1 x5 hf
  · refine J_iconst (pc := 9) C dX11_image_9 (v := 0) (by decide) ?_
    exact J_iret (pc := 10) C  rfl (by decide) dX11_image_10 hf
set_option maxRecDepth 100000 in
set_option maxHeartbeats 4000000 in
theorem c_X11_again {l : Launch} {D : va_G} {dA : FieldType → ClassId} (fu : Nat) (w : MW) (v0 : Nat) (v1 : Int32) {rr : Int32} {w' : MW} (hf : f_X11_again fu w v0 v1 = some (rr, w')) : CT l D dA yX11_again cX11_again 4 (some .boolean) rmX11_again [.ref v0, .int v1] w (some (.int rr)) w' := by
  refine J_met (by decide) rfl (Nat.le_of_ble_eq_true rfl) (fun p e s m args below meth c A E C => ?_)
  have B74 : ∀ (n : Nat) (w : MW) (v0 : Nat) (v2 : Int32) (v3 : Int32), f_X11_again_74 fu n w v0 v2 v3 = some (rr, w') → JW p l e rmX11_again s m args below meth c 4 D dA A E (MQ below (Qr D dA E (some (.int rr)) w' A) args s 0 0 A) 0 0 74 [(0, .ref v0), (2, .int v2), (3, .int v3)] [] w := by
    intro n
    induction n with
    | zero => intro w v0 v2 v3 hf; rw [f_X11_again_74] at hf; cases hf
    | succ n ih =>
      intro w v0 v2 v3 hf
      rw [f_X11_again_74] at hf
      refine J_iload_n (pc := 74) C dX11_again_74 rfl 2 rfl ?_
      refine J_sipush (pc := 75) C dX11_again_75 (v := 400) (by decide) ?_
      refine J_icmp_ge (pc := 78) C dX11_again_78 (tgt := 109) (by decide) hf (fun _ hf => ?_) (fun _ hf => ?_)
      · refine J_aload_n (pc := 109) C dX11_again_109 rfl 0 rfl ?_
        refine J_aload_n (pc := 110) C dX11_again_110 rfl 0 rfl ?_
        refine J_getR (pc := 111) C dX11_again_111 (ci := 11) (k0 := 0) rfl iX11 (by decide) k_1003 hf (fun x9 hf => ?_)
        refine J_iload_n (pc := 114) C dX11_again_114 rfl 1 rfl ?_
        refine J_sipush (pc := 115) C dX11_again_115 (v := 976) (by decide) ?_
        refine J_iadd (pc := 118) C dX11_again_118 ?_
        refine J_sipush (pc := 119) C dX11_again_119 (v := 800) (by decide) ?_
        refine J_iadd (pc := 122) C dX11_again_122 ?_
        refine J_sipush (pc := 123) C dX11_again_123 (v := 400) (by decide) ?_
        refine J_iadd (pc := 126) C dX11_again_126 ?_
        refine J_iald (pc := 127) C dX11_again_127 hf (fun x10 hf => ?_)
        refine J_put (pc := 128) C dX11_again_128 (ci := 11) (k0 := 4) rfl iX11 tyX11 tyX11_ok nmX11 (by decide) k_1007 rfl (ty := .int) (by decide +kernel) (fun _ => rfl) (fun _ => rfl) hf (fun w11 hf => ?_)
        refine J_aload_n (pc := 131) C dX11_again_131 rfl 0 rfl ?_
        refine J_aload_n (pc := 132) C dX11_again_132 rfl 0 rfl ?_
        refine J_getR (pc := 133) C dX11_again_133 (ci := 11) (k0 := 0) rfl iX11 (by decide) k_1003 hf (fun x12 hf => ?_)
        refine J_iload_n (pc := 136) C dX11_again_136 rfl 1 rfl ?_
        refine J_sipush (pc := 137) C dX11_again_137 (v := 976) (by decide) ?_
        refine J_iadd (pc := 140) C dX11_again_140 ?_
        refine J_sipush (pc := 141) C dX11_again_141 (v := 800) (by decide) ?_
        refine J_iadd (pc := 144) C dX11_again_144 ?_
        refine J_sipush (pc := 145) C dX11_again_145 (v := 401) (by decide) ?_
        refine J_iadd (pc := 148) C dX11_again_148 ?_
        refine J_iald (pc := 149) C dX11_again_149 hf (fun x13 hf => ?_)
        refine J_put (pc := 150) C dX11_again_150 (ci := 11) (k0 := 6) rfl iX11 tyX11 tyX11_ok nmX11 (by decide) k_1009 rfl (ty := .int) (by decide +kernel) (fun _ => rfl) (fun _ => rfl) hf (fun w14 hf => ?_)
        refine J_aload_n (pc := 153) C dX11_again_153 rfl 0 rfl ?_
        refine J_aload_n (pc := 154) C dX11_again_154 rfl 0 rfl ?_
        refine J_getR (pc := 155) C dX11_again_155 (ci := 11) (k0 := 0) rfl iX11 (by decide) k_1003 hf (fun x15 hf => ?_)
        refine J_iload_n (pc := 158) C dX11_again_158 rfl 1 rfl ?_
        refine J_sipush (pc := 159) C dX11_again_159 (v := 976) (by decide) ?_
        refine J_iadd (pc := 162) C dX11_again_162 ?_
        refine J_sipush (pc := 163) C dX11_again_163 (v := 800) (by decide) ?_
        refine J_iadd (pc := 166) C dX11_again_166 ?_
        refine J_sipush (pc := 167) C dX11_again_167 (v := 402) (by decide) ?_
        refine J_iadd (pc := 170) C dX11_again_170 ?_
        refine J_iald (pc := 171) C dX11_again_171 hf (fun x16 hf => ?_)
        refine J_put (pc := 172) C dX11_again_172 (ci := 11) (k0 := 7) rfl iX11 tyX11 tyX11_ok nmX11 (by decide) k_1010 rfl (ty := .int) (by decide +kernel) (fun _ => rfl) (fun _ => rfl) hf (fun w17 hf => ?_)
        refine J_aload_n (pc := 175) C dX11_again_175 rfl 0 rfl ?_
        refine J_aload_n (pc := 176) C dX11_again_176 rfl 0 rfl ?_
        refine J_getR (pc := 177) C dX11_again_177 (ci := 11) (k0 := 0) rfl iX11 (by decide) k_1003 hf (fun x18 hf => ?_)
        refine J_iload_n (pc := 180) C dX11_again_180 rfl 1 rfl ?_
        refine J_sipush (pc := 181) C dX11_again_181 (v := 976) (by decide) ?_
        refine J_iadd (pc := 184) C dX11_again_184 ?_
        refine J_sipush (pc := 185) C dX11_again_185 (v := 800) (by decide) ?_
        refine J_iadd (pc := 188) C dX11_again_188 ?_
        refine J_sipush (pc := 189) C dX11_again_189 (v := 403) (by decide) ?_
        refine J_iadd (pc := 192) C dX11_again_192 ?_
        refine J_iald (pc := 193) C dX11_again_193 hf (fun x19 hf => ?_)
        refine J_put (pc := 194) C dX11_again_194 (ci := 11) (k0 := 5) rfl iX11 tyX11 tyX11_ok nmX11 (by decide) k_1008 rfl (ty := .int) (by decide +kernel) (fun _ => rfl) (fun _ => rfl) hf (fun w20 hf => ?_)
        refine J_aload_n (pc := 197) C dX11_again_197 rfl 0 rfl ?_
        refine J_iconst (pc := 198) C dX11_again_198 (v := 0) (by decide) ?_
        refine J_put (pc := 199) C dX11_again_199 (ci := 11) (k0 := 8) rfl iX11 tyX11 tyX11_ok nmX11 (by decide) k_1011 rfl (ty := .int) (by decide +kernel) (fun _ => rfl) (fun _ => rfl) hf (fun w21 hf => ?_)
        refine J_iconst (pc := 202) C dX11_again_202 (v := 1) (by decide) ?_
        exact J_iret (pc := 203) C  rfl (by decide) dX11_again_203 hf
      · refine J_aload_n (pc := 81) C dX11_again_81 rfl 0 rfl ?_
        refine J_getR (pc := 82) C dX11_again_82 (ci := 11) (k0 := 2) rfl iX11 (by decide) k_1005 hf (fun x22 hf => ?_)
        refine J_iload_n (pc := 85) C dX11_again_85 rfl 2 rfl ?_
        refine J_aload_n (pc := 86) C dX11_again_86 rfl 0 rfl ?_
        refine J_getR (pc := 87) C dX11_again_87 (ci := 11) (k0 := 0) rfl iX11 (by decide) k_1003 hf (fun x23 hf => ?_)
        refine J_iload_n (pc := 90) C dX11_again_90 rfl 1 rfl ?_
        refine J_sipush (pc := 91) C dX11_again_91 (v := 976) (by decide) ?_
        refine J_iadd (pc := 94) C dX11_again_94 ?_
        refine J_sipush (pc := 95) C dX11_again_95 (v := 800) (by decide) ?_
        refine J_iadd (pc := 98) C dX11_again_98 ?_
        refine J_iload_n (pc := 99) C dX11_again_99 rfl 2 rfl ?_
        refine J_iadd (pc := 100) C dX11_again_100 ?_
        refine J_iald (pc := 101) C dX11_again_101 hf (fun x24 hf => ?_)
        refine J_iast (pc := 102) C dX11_again_102 hf (fun w25 hf => ?_)
        refine J_iinc (pc := 103) C dX11_again_103 2 rfl (y := v3 + 1) rfl (by decide) hf (fun q => [(3, .int q), (0, .ref v0), (2, .int v2)]) (fun _ => rfl) (fun x26 hf => ?_)
        refine J_goto (pc := 106) C dX11_again_106 (tgt := 74) (by decide) ?_
        refine J_sub [1, 2, 0] (L1 := [(0, .ref v0), (2, .int v2), (3, .int x26)]) rfl ?_
        exact ih w25 v0 v2 x26 hf
  have B41 : ∀ (n : Nat) (w : MW) (v0 : Nat) (v2 : Int32) (v3 : Int32), f_X11_again_41 fu n w v0 v2 v3 = some (rr, w') → JW p l e rmX11_again s m args below meth c 4 D dA A E (MQ below (Qr D dA E (some (.int rr)) w' A) args s 0 0 A) 0 0 41 [(0, .ref v0), (2, .int v2), (3, .int v3)] [] w := by
    intro n
    induction n with
    | zero => intro w v0 v2 v3 hf; rw [f_X11_again_41] at hf; cases hf
    | succ n ih =>
      intro w v0 v2 v3 hf
      rw [f_X11_again_41] at hf
      refine J_iload_n (pc := 41) C dX11_again_41 rfl 2 rfl ?_
      refine J_sipush (pc := 42) C dX11_again_42 (v := 800) (by decide) ?_
      refine J_icmp_ge (pc := 45) C dX11_again_45 (tgt := 72) (by decide) hf (fun _ hf => ?_) (fun _ hf => ?_)
      · refine J_iconst (pc := 72) C dX11_again_72 (v := 0) (by decide) ?_
        refine J_istore_n (pc := 73) C dX11_again_73 rfl (by decide) hf (fun q => [(3, .int q), (0, .ref v0), (2, .int v2)]) (fun _ => rfl) (fun x8 hf => ?_)
        refine J_sub [1, 2, 0] (L1 := [(0, .ref v0), (2, .int v2), (3, .int x8)]) rfl ?_
        exact B74 fu w v0 v2 x8 hf
      · refine J_aload_n (pc := 48) C dX11_again_48 rfl 0 rfl ?_
        refine J_getR (pc := 49) C dX11_again_49 (ci := 11) (k0 := 1) rfl iX11 (by decide) k_1004 hf (fun x27 hf => ?_)
        refine J_iload_n (pc := 52) C dX11_again_52 rfl 2 rfl ?_
        refine J_aload_n (pc := 53) C dX11_again_53 rfl 0 rfl ?_
        refine J_getR (pc := 54) C dX11_again_54 (ci := 11) (k0 := 0) rfl iX11 (by decide) k_1003 hf (fun x28 hf => ?_)
        refine J_iload_n (pc := 57) C dX11_again_57 rfl 1 rfl ?_
        refine J_sipush (pc := 58) C dX11_again_58 (v := 976) (by decide) ?_
        refine J_iadd (pc := 61) C dX11_again_61 ?_
        refine J_iload_n (pc := 62) C dX11_again_62 rfl 2 rfl ?_
        refine J_iadd (pc := 63) C dX11_again_63 ?_
        refine J_iald (pc := 64) C dX11_again_64 hf (fun x29 hf => ?_)
        refine J_iast (pc := 65) C dX11_again_65 hf (fun w30 hf => ?_)
        refine J_iinc (pc := 66) C dX11_again_66 2 rfl (y := v3 + 1) rfl (by decide) hf (fun q => [(3, .int q), (0, .ref v0), (2, .int v2)]) (fun _ => rfl) (fun x31 hf => ?_)
        refine J_goto (pc := 69) C dX11_again_69 (tgt := 41) (by decide) ?_
        refine J_sub [1, 2, 0] (L1 := [(0, .ref v0), (2, .int v2), (3, .int x31)]) rfl ?_
        exact ih w30 v0 v2 x31 hf
  rw [f_X11_again] at hf
  refine J_sub [0, 1] (L1 := [(0, .ref v0), (1, .int v1)]) rfl ?_
  refine J_iload_n (pc := 0) C dX11_again_0 rfl 1 rfl ?_
  refine J_iconst (pc := 1) C dX11_again_1 (v := 0) (by decide) ?_
  refine J_iconst (pc := 2) C dX11_again_2 (v := 2) (by decide) ?_
  refine J_cS (S := []) (pc := 3) C dX11_again_3 (c_X11_isIn _ _ _ _ rfl) k_1097 ys_X11_isIn ⟨Nat.le_of_ble_eq_true rfl, Nat.le_of_ble_eq_true rfl⟩ ⟨Nat.le_of_ble_eq_true rfl, Nat.le_of_ble_eq_true rfl⟩ rfl rfl (fun _ => Nat.le_of_ble_eq_true rfl) ?_
  refine J_if_eq (pc := 6) C dX11_again_6 (tgt := 18) (by decide) hf (fun _ hf => ?_) (fun _ hf => ?_)
  · refine J_iconst (pc := 18) C dX11_again_18 (v := 0) (by decide) ?_
    exact J_iret (pc := 19) C  rfl (by decide) dX11_again_19 hf
  · refine J_aload_n (pc := 9) C dX11_again_9 rfl 0 rfl ?_
    refine J_getR (pc := 10) C dX11_again_10 (ci := 11) (k0 := 3) rfl iX11 (by decide) k_1006 hf (fun x1 hf => ?_)
    refine J_iload_n (pc := 13) C dX11_again_13 rfl 1 rfl ?_
    refine J_zald (pc := 14) C dX11_again_14 hf (fun x2 hf => ?_)
    refine J_if_ne (pc := 15) C dX11_again_15 (tgt := 20) (by decide) hf (fun _ hf => ?_) (fun _ hf => ?_)
    · refine J_sipush (pc := 20) C dX11_again_20 (v := 13664) (by decide) ?_
      refine J_sipush (pc := 23) C dX11_again_23 (v := 2180) (by decide) ?_
      refine J_iload_n (pc := 26) C dX11_again_26 rfl 1 rfl ?_
      refine J_imul (pc := 27) C dX11_again_27 ?_
      refine J_iadd (pc := 28) C dX11_again_28 ?_
      refine J_istore_n (pc := 29) C dX11_again_29 rfl (by decide) hf (fun q => [(2, .int q), (0, .ref v0), (1, .int v1)]) (fun _ => rfl) (fun x3 hf => ?_)
      refine J_aload_n (pc := 30) C dX11_again_30 rfl 1 rfl ?_
      refine J_iload_n (pc := 31) C dX11_again_31 rfl 0 rfl ?_
      refine J_iconst (pc := 32) C dX11_again_32 (v := 0) (by decide) ?_
      refine J_sipush (pc := 33) C dX11_again_33 (v := 976) (by decide) ?_
      obtain ⟨q4, h5, hf⟩ := bind_ok hf
      obtain ⟨_, g6, h5⟩ := cl_spec h5
      refine J_cV (S := []) (pc := 36) C dX11_again_36 (c_X11_copies _ _ _ _ _ _ h5) k_1131 ys_X11_copies ⟨Nat.le_of_ble_eq_true rfl, Nat.le_of_ble_eq_true rfl⟩ ⟨Nat.le_of_ble_eq_true rfl, Nat.le_of_ble_eq_true rfl⟩ g6 rfl rfl (fun _ => Nat.le_of_ble_eq_true rfl) ?_
      refine J_iconst (pc := 39) C dX11_again_39 (v := 0) (by decide) ?_
      refine J_istore_n (pc := 40) C dX11_again_40 rfl (by decide) hf (fun q => [(3, .int q), (2, .int x3), (0, .ref v0), (1, .int v1)]) (fun _ => rfl) (fun x7 hf => ?_)
      refine J_sub [2, 1, 0] (L1 := [(0, .ref v0), (2, .int x3), (3, .int x7)]) rfl ?_
      exact B41 fu q4 v0 x3 x7 hf
    · refine J_iconst (pc := 18) C dX11_again_18 (v := 0) (by decide) ?_
      exact J_iret (pc := 19) C  rfl (by decide) dX11_again_19 hf
