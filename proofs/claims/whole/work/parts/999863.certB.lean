set_option maxRecDepth 100000 in
set_option maxHeartbeats 4000000 in
theorem c_X11_set {l : Launch} {D : va_G} {dA : FieldType → ClassId} (fu : Nat) (w : MW) (v0 : Nat) (v1 : Int32) (v2 : Int32) {rr : Int32} {w' : MW} (hf : f_X11_set fu w v0 v1 v2 = some (rr, w')) : CT l D dA yX11_set cX11_set 3 (some .int) rmX11_set [.ref v0, .int v1, .int v2] w (some (.int rr)) w' := by
  refine J_met (by decide) rfl (Nat.le_of_ble_eq_true rfl) (fun p e s m args below meth c A E C => ?_)
  rw [f_X11_set] at hf
  refine J_sub [0, 1, 2] (L1 := [(0, .ref v0), (1, .int v1), (2, .int v2)]) rfl ?_
  refine J_iload_n (pc := 0) C dX11_set_0 rfl 1 rfl ?_
  refine J_cS (S := []) (pc := 1) C dX11_set_1 (c_X11_isSet _ _ rfl) k_1094 ys_X11_isSet ⟨Nat.le_of_ble_eq_true rfl, Nat.le_of_ble_eq_true rfl⟩ ⟨Nat.le_of_ble_eq_true rfl, Nat.le_of_ble_eq_true rfl⟩ rfl rfl (fun _ => Nat.le_of_ble_eq_true rfl) ?_
  refine J_if_ne (pc := 4) C dX11_set_4 (tgt := 9) (by decide) hf (fun _ hf => ?_) (fun _ hf => ?_)
  · refine J_aload_n (pc := 9) C dX11_set_9 rfl 0 rfl ?_
    refine J_iload_n (pc := 10) C dX11_set_10 rfl 1 rfl ?_
    obtain ⟨q1, h2, hf⟩ := bind_ok hf
    obtain ⟨_, g3, h2⟩ := cl_spec h2
    refine J_cV (S := []) (pc := 11) C dX11_set_11 (c_X11_laysRow _ _ _ _ h2) k_1247 ys_X11_laysRow ⟨Nat.le_of_ble_eq_true rfl, Nat.le_of_ble_eq_true rfl⟩ ⟨Nat.le_of_ble_eq_true rfl, Nat.le_of_ble_eq_true rfl⟩ g3 rfl rfl (fun _ => Nat.le_of_ble_eq_true rfl) ?_
    refine J_iload_n (pc := 14) C dX11_set_14 rfl 2 rfl ?_
    refine J_case (v := 0) hf (fun g4 hf => ?_) (fun g4 hf => ?_)
    · refine J_tabIn (pc := 15) C dX11_set_15 (tgt := 72) (by rw [g4]; decide) (by rw [g4]; decide) (by rw [g4]; rfl) (by decide) ?_
      refine J_aload_n (pc := 72) C dX11_set_72 rfl 0 rfl ?_
      refine J_getI (pc := 73) C dX11_set_73 (ci := 11) (k0 := 11) rfl iX11 (by decide) k_1014 hf (fun x5 hf => ?_)
      exact J_iret (pc := 76) C  rfl rfl dX11_set_76 hf
    refine J_case (v := 1) hf (fun g6 hf => ?_) (fun g6 hf => ?_)
    · refine J_tabIn (pc := 15) C dX11_set_15 (tgt := 77) (by rw [g6]; decide) (by rw [g6]; decide) (by rw [g6]; rfl) (by decide) ?_
      refine J_aload_n (pc := 77) C dX11_set_77 rfl 0 rfl ?_
      refine J_getI (pc := 78) C dX11_set_78 (ci := 11) (k0 := 11) rfl iX11 (by decide) k_1014 hf (fun x7 hf => ?_)
      refine J_if_ne (pc := 81) C dX11_set_81 (tgt := 88) (by decide) hf (fun _ hf => ?_) (fun _ hf => ?_)
      · refine J_aload_n (pc := 88) C dX11_set_88 rfl 0 rfl ?_
        refine J_getR (pc := 89) C dX11_set_89 (ci := 11) (k0 := 10) rfl iX11 (by decide) k_1013 hf (fun x8 hf => ?_)
        refine J_iconst (pc := 92) C dX11_set_92 (v := 0) (by decide) ?_
        refine J_iald (pc := 93) C dX11_set_93 hf (fun x9 hf => ?_)
        exact J_iret (pc := 94) C  rfl rfl dX11_set_94 hf
      · refine J_iconst (pc := 84) C dX11_set_84 (v := -1) (by decide) ?_
        refine J_goto (pc := 85) C dX11_set_85 (tgt := 94) (by decide) ?_
        exact J_iret (pc := 94) C  rfl rfl dX11_set_94 hf
    refine J_case (v := 2) hf (fun g10 hf => ?_) (fun g10 hf => ?_)
    · refine J_tabIn (pc := 15) C dX11_set_15 (tgt := 95) (by rw [g10]; decide) (by rw [g10]; decide) (by rw [g10]; rfl) (by decide) ?_
      refine J_aload_n (pc := 95) C dX11_set_95 rfl 0 rfl ?_
      refine J_getI (pc := 96) C dX11_set_96 (ci := 11) (k0 := 11) rfl iX11 (by decide) k_1014 hf (fun x11 hf => ?_)
      refine J_if_ne (pc := 99) C dX11_set_99 (tgt := 106) (by decide) hf (fun _ hf => ?_) (fun _ hf => ?_)
      · refine J_aload_n (pc := 106) C dX11_set_106 rfl 0 rfl ?_
        refine J_getR (pc := 107) C dX11_set_107 (ci := 11) (k0 := 10) rfl iX11 (by decide) k_1013 hf (fun x12 hf => ?_)
        refine J_aload_n (pc := 110) C dX11_set_110 rfl 0 rfl ?_
        refine J_getI (pc := 111) C dX11_set_111 (ci := 11) (k0 := 11) rfl iX11 (by decide) k_1014 hf (fun x13 hf => ?_)
        refine J_iconst (pc := 114) C dX11_set_114 (v := 1) (by decide) ?_
        refine J_isub (pc := 115) C dX11_set_115 ?_
        refine J_iald (pc := 116) C dX11_set_116 hf (fun x14 hf => ?_)
        exact J_iret (pc := 117) C  rfl rfl dX11_set_117 hf
      · refine J_iconst (pc := 102) C dX11_set_102 (v := -1) (by decide) ?_
        refine J_goto (pc := 103) C dX11_set_103 (tgt := 117) (by decide) ?_
        exact J_iret (pc := 117) C  rfl rfl dX11_set_117 hf
    refine J_case (v := 3) hf (fun g15 hf => ?_) (fun g15 hf => ?_)
    · refine J_tabIn (pc := 15) C dX11_set_15 (tgt := 157) (by rw [g15]; decide) (by rw [g15]; decide) (by rw [g15]; rfl) (by decide) ?_
      refine J_aload_n (pc := 157) C dX11_set_157 rfl 0 rfl ?_
      refine J_iload_n (pc := 158) C dX11_set_158 rfl 1 rfl ?_
      refine J_iload_n (pc := 159) C dX11_set_159 rfl 2 rfl ?_
      obtain ⟨q16, h17, hf⟩ := bind_ok hf
      obtain ⟨_, g18, h17⟩ := cl_spec h17
      refine J_cV (S := []) (pc := 160) C dX11_set_160 (c_X11_summed _ _ _ _ _ h17) k_1284 ys_X11_summed ⟨Nat.le_of_ble_eq_true rfl, Nat.le_of_ble_eq_true rfl⟩ ⟨Nat.le_of_ble_eq_true rfl, Nat.le_of_ble_eq_true rfl⟩ g18 rfl rfl (fun _ => Nat.le_of_ble_eq_true rfl) ?_
      exact J_iret (pc := 163) C  rfl rfl dX11_set_163 hf
    refine J_case (v := 4) hf (fun g19 hf => ?_) (fun g19 hf => ?_)
    · refine J_tabIn (pc := 15) C dX11_set_15 (tgt := 118) (by rw [g19]; decide) (by rw [g19]; decide) (by rw [g19]; rfl) (by decide) ?_
      refine J_aload_n (pc := 118) C dX11_set_118 rfl 0 rfl ?_
      refine J_getI (pc := 119) C dX11_set_119 (ci := 11) (k0 := 11) rfl iX11 (by decide) k_1014 hf (fun x20 hf => ?_)
      refine J_if_ne (pc := 122) C dX11_set_122 (tgt := 129) (by decide) hf (fun _ hf => ?_) (fun _ hf => ?_)
      · refine J_aload_n (pc := 129) C dX11_set_129 rfl 0 rfl ?_
        refine J_getR (pc := 130) C dX11_set_130 (ci := 11) (k0 := 10) rfl iX11 (by decide) k_1013 hf (fun x21 hf => ?_)
        refine J_aload_n (pc := 133) C dX11_set_133 rfl 0 rfl ?_
        refine J_iconst (pc := 134) C dX11_set_134 (v := 0) (by decide) ?_
        refine J_aload_n (pc := 135) C dX11_set_135 rfl 0 rfl ?_
        refine J_getI (pc := 136) C dX11_set_136 (ci := 11) (k0 := 11) rfl iX11 (by decide) k_1014 hf (fun x22 hf => ?_)
        refine J_iconst (pc := 139) C dX11_set_139 (v := 1) (by decide) ?_
        refine J_isub (pc := 140) C dX11_set_140 ?_
        obtain ⟨q23, h24, hf⟩ := bind_ok hf
        obtain ⟨_, g25, h24⟩ := cl_spec h24
        refine J_cV (S := [.ref x21]) (pc := 141) C dX11_set_141 (c_X11_ahead _ _ _ _ _ h24) k_1263 ys_X11_ahead ⟨Nat.le_of_ble_eq_true rfl, Nat.le_of_ble_eq_true rfl⟩ ⟨Nat.le_of_ble_eq_true rfl, Nat.le_of_ble_eq_true rfl⟩ g25 rfl rfl (fun _ => Nat.le_of_ble_eq_true rfl) ?_
        refine J_iald (pc := 144) C dX11_set_144 hf (fun x26 hf => ?_)
        exact J_iret (pc := 145) C  rfl rfl dX11_set_145 hf
      · refine J_iconst (pc := 125) C dX11_set_125 (v := -1) (by decide) ?_
        refine J_goto (pc := 126) C dX11_set_126 (tgt := 145) (by decide) ?_
        exact J_iret (pc := 145) C  rfl rfl dX11_set_145 hf
    refine J_case (v := 5) hf (fun g27 hf => ?_) (fun g27 hf => ?_)
    · refine J_tabIn (pc := 15) C dX11_set_15 (tgt := 146) (by rw [g27]; decide) (by rw [g27]; decide) (by rw [g27]; rfl) (by decide) ?_
      refine J_aload_n (pc := 146) C dX11_set_146 rfl 0 rfl ?_
      obtain ⟨q28, h29, hf⟩ := bind_ok hf
      obtain ⟨_, g30, h29⟩ := cl_spec h29
      refine J_cV (S := []) (pc := 147) C dX11_set_147 (c_X11_high _ _ _ h29) k_1280 ys_X11_high ⟨Nat.le_of_ble_eq_true rfl, Nat.le_of_ble_eq_true rfl⟩ ⟨Nat.le_of_ble_eq_true rfl, Nat.le_of_ble_eq_true rfl⟩ g30 rfl rfl (fun _ => Nat.le_of_ble_eq_true rfl) ?_
      exact J_iret (pc := 150) C  rfl rfl dX11_set_150 hf
    refine J_case (v := 6) hf (fun g31 hf => ?_) (fun g31 hf => ?_)
    · refine J_tabIn (pc := 15) C dX11_set_15 (tgt := 151) (by rw [g31]; decide) (by rw [g31]; decide) (by rw [g31]; rfl) (by decide) ?_
      refine J_aload_n (pc := 151) C dX11_set_151 rfl 0 rfl ?_
      refine J_iload_n (pc := 152) C dX11_set_152 rfl 1 rfl ?_
      obtain ⟨q32, h33, hf⟩ := bind_ok hf
      obtain ⟨_, g34, h33⟩ := cl_spec h33
      refine J_cV (S := []) (pc := 153) C dX11_set_153 (c_X11_finger _ _ _ h33) k_1219 ys_X11_finger ⟨Nat.le_of_ble_eq_true rfl, Nat.le_of_ble_eq_true rfl⟩ ⟨Nat.le_of_ble_eq_true rfl, Nat.le_of_ble_eq_true rfl⟩ g34 rfl rfl (fun _ => Nat.le_of_ble_eq_true rfl) ?_
      exact J_iret (pc := 156) C  rfl rfl dX11_set_156 hf
    refine J_case (v := 7) hf (fun g35 hf => ?_) (fun g35 hf => ?_)
    · refine J_tabIn (pc := 15) C dX11_set_15 (tgt := 157) (by rw [g35]; decide) (by rw [g35]; decide) (by rw [g35]; rfl) (by decide) ?_
      refine J_aload_n (pc := 157) C dX11_set_157 rfl 0 rfl ?_
      refine J_iload_n (pc := 158) C dX11_set_158 rfl 1 rfl ?_
      refine J_iload_n (pc := 159) C dX11_set_159 rfl 2 rfl ?_
      obtain ⟨q36, h37, hf⟩ := bind_ok hf
      obtain ⟨_, g38, h37⟩ := cl_spec h37
      refine J_cV (S := []) (pc := 160) C dX11_set_160 (c_X11_summed _ _ _ _ _ h37) k_1284 ys_X11_summed ⟨Nat.le_of_ble_eq_true rfl, Nat.le_of_ble_eq_true rfl⟩ ⟨Nat.le_of_ble_eq_true rfl, Nat.le_of_ble_eq_true rfl⟩ g38 rfl rfl (fun _ => Nat.le_of_ble_eq_true rfl) ?_
      exact J_iret (pc := 163) C  rfl rfl dX11_set_163 hf
    refine J_case (v := 8) hf (fun g39 hf => ?_) (fun g39 hf => ?_)
    · refine J_tabIn (pc := 15) C dX11_set_15 (tgt := 157) (by rw [g39]; decide) (by rw [g39]; decide) (by rw [g39]; rfl) (by decide) ?_
      refine J_aload_n (pc := 157) C dX11_set_157 rfl 0 rfl ?_
      refine J_iload_n (pc := 158) C dX11_set_158 rfl 1 rfl ?_
      refine J_iload_n (pc := 159) C dX11_set_159 rfl 2 rfl ?_
      obtain ⟨q40, h41, hf⟩ := bind_ok hf
      obtain ⟨_, g42, h41⟩ := cl_spec h41
      refine J_cV (S := []) (pc := 160) C dX11_set_160 (c_X11_summed _ _ _ _ _ h41) k_1284 ys_X11_summed ⟨Nat.le_of_ble_eq_true rfl, Nat.le_of_ble_eq_true rfl⟩ ⟨Nat.le_of_ble_eq_true rfl, Nat.le_of_ble_eq_true rfl⟩ g42 rfl rfl (fun _ => Nat.le_of_ble_eq_true rfl) ?_
      exact J_iret (pc := 163) C  rfl rfl dX11_set_163 hf
    refine J_case (v := 9) hf (fun g43 hf => ?_) (fun g43 hf => ?_)
    · refine J_tabIn (pc := 15) C dX11_set_15 (tgt := 157) (by rw [g43]; decide) (by rw [g43]; decide) (by rw [g43]; rfl) (by decide) ?_
      refine J_aload_n (pc := 157) C dX11_set_157 rfl 0 rfl ?_
      refine J_iload_n (pc := 158) C dX11_set_158 rfl 1 rfl ?_
      refine J_iload_n (pc := 159) C dX11_set_159 rfl 2 rfl ?_
      obtain ⟨q44, h45, hf⟩ := bind_ok hf
      obtain ⟨_, g46, h45⟩ := cl_spec h45
      refine J_cV (S := []) (pc := 160) C dX11_set_160 (c_X11_summed _ _ _ _ _ h45) k_1284 ys_X11_summed ⟨Nat.le_of_ble_eq_true rfl, Nat.le_of_ble_eq_true rfl⟩ ⟨Nat.le_of_ble_eq_true rfl, Nat.le_of_ble_eq_true rfl⟩ g46 rfl rfl (fun _ => Nat.le_of_ble_eq_true rfl) ?_
      exact J_iret (pc := 163) C  rfl rfl dX11_set_163 hf
    refine J_case (v := 10) hf (fun g47 hf => ?_) (fun g47 hf => ?_)
    · refine J_tabIn (pc := 15) C dX11_set_15 (tgt := 157) (by rw [g47]; decide) (by rw [g47]; decide) (by rw [g47]; rfl) (by decide) ?_
      refine J_aload_n (pc := 157) C dX11_set_157 rfl 0 rfl ?_
      refine J_iload_n (pc := 158) C dX11_set_158 rfl 1 rfl ?_
      refine J_iload_n (pc := 159) C dX11_set_159 rfl 2 rfl ?_
      obtain ⟨q48, h49, hf⟩ := bind_ok hf
      obtain ⟨_, g50, h49⟩ := cl_spec h49
      refine J_cV (S := []) (pc := 160) C dX11_set_160 (c_X11_summed _ _ _ _ _ h49) k_1284 ys_X11_summed ⟨Nat.le_of_ble_eq_true rfl, Nat.le_of_ble_eq_true rfl⟩ ⟨Nat.le_of_ble_eq_true rfl, Nat.le_of_ble_eq_true rfl⟩ g50 rfl rfl (fun _ => Nat.le_of_ble_eq_true rfl) ?_
      exact J_iret (pc := 163) C  rfl rfl dX11_set_163 hf
    refine J_tabOut (pc := 15) C dX11_set_15 (tgt := 164) (by have z0 := lv_neT g4 (k := 0) (a := 0) (by decide); have z1 := lv_neT g6 (k := 1) (a := 1) (by decide); have z2 := lv_neT g10 (k := 2) (a := 2) (by decide); have z3 := lv_neT g15 (k := 3) (a := 3) (by decide); have z4 := lv_neT g19 (k := 4) (a := 4) (by decide); have z5 := lv_neT g27 (k := 5) (a := 5) (by decide); have z6 := lv_neT g31 (k := 6) (a := 6) (by decide); have z7 := lv_neT g35 (k := 7) (a := 7) (by decide); have z8 := lv_neT g39 (k := 8) (a := 8) (by decide); have z9 := lv_neT g43 (k := 9) (a := 9) (by decide); have z10 := lv_neT g47 (k := 10) (a := 10) (by decide); omega) (by decide) ?_
    refine J_iconst (pc := 164) C dX11_set_164 (v := -1) (by decide) ?_
    exact J_iret (pc := 165) C  rfl rfl dX11_set_165 hf
  · refine J_iconst (pc := 7) C dX11_set_7 (v := -1) (by decide) ?_
    exact J_iret (pc := 8) C  rfl rfl dX11_set_8 hf
set_option maxRecDepth 100000 in
set_option maxHeartbeats 4000000 in
theorem c_X11_key {l : Launch} {D : va_G} {dA : FieldType → ClassId} (w : MW) (v0 : Nat) (v1 : Int32) (v2 : Int32) {rr : Int32} (hf : f_X11_key w v0 v1 v2 = some rr) : CT l D dA yX11_key cX11_key 3 (some .int) rmX11_key [.ref v0, .int v1, .int v2] w (some (.int rr)) w := by
  refine J_met (by decide) rfl (Nat.le_of_ble_eq_true rfl) (fun p e s m args below meth c A E C => ?_)
  rw [f_X11_key] at hf
  refine J_sub [0, 1, 2] (L1 := [(0, .ref v0), (1, .int v1), (2, .int v2)]) rfl ?_
  refine J_iload_n (pc := 0) C dX11_key_0 rfl 1 rfl ?_
  refine J_cS (S := []) (pc := 1) C dX11_key_1 (c_X11_isSet _ _ rfl) k_1094 ys_X11_isSet ⟨Nat.le_of_ble_eq_true rfl, Nat.le_of_ble_eq_true rfl⟩ ⟨Nat.le_of_ble_eq_true rfl, Nat.le_of_ble_eq_true rfl⟩ rfl rfl (fun _ => Nat.le_of_ble_eq_true rfl) ?_
  refine J_if_eq (pc := 4) C dX11_key_4 (tgt := 31) (by decide) hf (fun _ hf => ?_) (fun _ hf => ?_)
  · refine J_iconst (pc := 31) C dX11_key_31 (v := -1) (by decide) ?_
    exact J_iretP (pc := 32) C  rfl rfl dX11_key_32 hf
  · refine J_iload_n (pc := 7) C dX11_key_7 rfl 2 rfl ?_
    refine J_iconst (pc := 8) C dX11_key_8 (v := 0) (by decide) ?_
    refine J_aload_n (pc := 9) C dX11_key_9 rfl 0 rfl ?_
    refine J_iload_n (pc := 10) C dX11_key_10 rfl 1 rfl ?_
    obtain ⟨q1, h2, hf⟩ := bind_ok hf
    obtain ⟨_, g3, h2⟩ := cl_spec h2
    refine J_cV (S := [.int (0 : Int32), .int v2]) (pc := 11) C dX11_key_11 (c_X11_many _ _ _ h2) k_1111 ys_X11_many ⟨Nat.le_of_ble_eq_true rfl, Nat.le_of_ble_eq_true rfl⟩ ⟨Nat.le_of_ble_eq_true rfl, Nat.le_of_ble_eq_true rfl⟩ g3 rfl rfl (fun _ => Nat.le_of_ble_eq_true rfl) ?_
    refine J_iconst (pc := 14) C dX11_key_14 (v := 1) (by decide) ?_
    refine J_isub (pc := 15) C dX11_key_15 ?_
    refine J_cS (S := []) (pc := 16) C dX11_key_16 (c_X11_isIn _ _ _ _ rfl) k_1097 ys_X11_isIn ⟨Nat.le_of_ble_eq_true rfl, Nat.le_of_ble_eq_true rfl⟩ ⟨Nat.le_of_ble_eq_true rfl, Nat.le_of_ble_eq_true rfl⟩ rfl rfl (fun _ => Nat.le_of_ble_eq_true rfl) ?_
    refine J_if_eq (pc := 19) C dX11_key_19 (tgt := 31) (by decide) hf (fun _ hf => ?_) (fun _ hf => ?_)
    · refine J_iconst (pc := 31) C dX11_key_31 (v := -1) (by decide) ?_
      exact J_iretP (pc := 32) C  rfl rfl dX11_key_32 hf
    · refine J_aload_n (pc := 22) C dX11_key_22 rfl 0 rfl ?_
      refine J_iload_n (pc := 23) C dX11_key_23 rfl 1 rfl ?_
      refine J_iload_n (pc := 24) C dX11_key_24 rfl 2 rfl ?_
      obtain ⟨q4, h5, hf⟩ := bind_ok hf
      obtain ⟨_, g6, h5⟩ := cl_spec h5
      refine J_cV (S := []) (pc := 25) C dX11_key_25 (c_X11_keyAt _ _ _ _ h5) k_1115 ys_X11_keyAt ⟨Nat.le_of_ble_eq_true rfl, Nat.le_of_ble_eq_true rfl⟩ ⟨Nat.le_of_ble_eq_true rfl, Nat.le_of_ble_eq_true rfl⟩ g6 rfl rfl (fun _ => Nat.le_of_ble_eq_true rfl) ?_
      refine J_goto (pc := 28) C dX11_key_28 (tgt := 32) (by decide) ?_
      exact J_iretP (pc := 32) C  rfl rfl dX11_key_32 hf
set_option maxRecDepth 100000 in
set_option maxHeartbeats 4000000 in
theorem c_X11_keyOf {l : Launch} {D : va_G} {dA : FieldType → ClassId} (w : MW) (v0 : Nat) (v1 : Int32) {rr : Int32} (hf : f_X11_keyOf w v0 v1 = some rr) : CT l D dA yX11_keyOf cX11_keyOf 2 (some .int) rmX11_keyOf [.ref v0, .int v1] w (some (.int rr)) w := by
  refine J_met (by decide) rfl (Nat.le_of_ble_eq_true rfl) (fun p e s m args below meth c A E C => ?_)
  rw [f_X11_keyOf] at hf
  refine J_sub [0, 1] (L1 := [(0, .ref v0), (1, .int v1)]) rfl ?_
  refine J_iload_n (pc := 0) C dX11_keyOf_0 rfl 1 rfl ?_
  refine J_iconst (pc := 1) C dX11_keyOf_1 (v := -1) (by decide) ?_
  refine J_icmp_ne (pc := 2) C dX11_keyOf_2 (tgt := 9) (by decide) hf (fun _ hf => ?_) (fun _ hf => ?_)
  · refine J_aload_n (pc := 9) C dX11_keyOf_9 rfl 0 rfl ?_
    refine J_getR (pc := 10) C dX11_keyOf_10 (ci := 11) (k0 := 10) rfl iX11 (by decide) k_1013 hf (fun x1 hf => ?_)
    refine J_iload_n (pc := 13) C dX11_keyOf_13 rfl 1 rfl ?_
    refine J_iald (pc := 14) C dX11_keyOf_14 hf (fun x2 hf => ?_)
    exact J_iretP (pc := 15) C  rfl rfl dX11_keyOf_15 hf
  · refine J_iconst (pc := 5) C dX11_keyOf_5 (v := -1) (by decide) ?_
    refine J_goto (pc := 6) C dX11_keyOf_6 (tgt := 15) (by decide) ?_
    exact J_iretP (pc := 15) C  rfl rfl dX11_keyOf_15 hf
set_option maxRecDepth 100000 in
set_option maxHeartbeats 4000000 in
theorem c_X11_of {l : Launch} {D : va_G} {dA : FieldType → ClassId} (fu : Nat) (w : MW) (v0 : Nat) (v1 : Int32) (v2 : Int32) (v3 : Int32) {rr : Int32} {w' : MW} (hf : f_X11_of fu w v0 v1 v2 v3 = some (rr, w')) : CT l D dA yX11_of cX11_of 5 (some .int) rmX11_of [.ref v0, .int v1, .int v2, .int v3] w (some (.int rr)) w' := by
  refine J_met (by decide) rfl (Nat.le_of_ble_eq_true rfl) (fun p e s m args below meth c A E C => ?_)
  rw [f_X11_of] at hf
  refine J_sub [0, 1, 2, 3] (L1 := [(0, .ref v0), (1, .int v1), (2, .int v2), (3, .int v3)]) rfl ?_
  refine J_iload_n (pc := 0) C dX11_of_0 rfl 1 rfl ?_
  refine J_cS (S := []) (pc := 1) C dX11_of_1 (c_X11_isSet _ _ rfl) k_1094 ys_X11_isSet ⟨Nat.le_of_ble_eq_true rfl, Nat.le_of_ble_eq_true rfl⟩ ⟨Nat.le_of_ble_eq_true rfl, Nat.le_of_ble_eq_true rfl⟩ rfl rfl (fun _ => Nat.le_of_ble_eq_true rfl) ?_
  refine J_if_eq (pc := 4) C dX11_of_4 (tgt := 17) (by decide) hf (fun _ hf => ?_) (fun _ hf => ?_)
  · refine J_iconst (pc := 17) C dX11_of_17 (v := -1) (by decide) ?_
    exact J_iret (pc := 18) C  rfl rfl dX11_of_18 hf
  · refine J_aload_n (pc := 7) C dX11_of_7 rfl 0 rfl ?_
    refine J_iload_n (pc := 8) C dX11_of_8 rfl 1 rfl ?_
    refine J_iload_n (pc := 9) C dX11_of_9 rfl 2 rfl ?_
    obtain ⟨q1, h2, hf⟩ := bind_ok hf
    obtain ⟨_, g3, h2⟩ := cl_spec h2
    refine J_cV (S := []) (pc := 10) C dX11_of_10 (c_X11_placeOf _ _ _ _ _ h2) k_1103 ys_X11_placeOf ⟨Nat.le_of_ble_eq_true rfl, Nat.le_of_ble_eq_true rfl⟩ ⟨Nat.le_of_ble_eq_true rfl, Nat.le_of_ble_eq_true rfl⟩ g3 rfl rfl (fun _ => Nat.le_of_ble_eq_true rfl) ?_
    refine J_iconst (pc := 13) C dX11_of_13 (v := -1) (by decide) ?_
    refine J_icmp_ne (pc := 14) C dX11_of_14 (tgt := 19) (by decide) hf (fun _ hf => ?_) (fun _ hf => ?_)
    · refine J_aload_n (pc := 19) C dX11_of_19 rfl 0 rfl ?_
      refine J_iload_n (pc := 20) C dX11_of_20 rfl 1 rfl ?_
      obtain ⟨q4, h5, hf⟩ := bind_ok hf
      obtain ⟨_, g6, h5⟩ := cl_spec h5
      refine J_cV (S := []) (pc := 21) C dX11_of_21 (c_X11_laysRow _ _ _ _ h5) k_1247 ys_X11_laysRow ⟨Nat.le_of_ble_eq_true rfl, Nat.le_of_ble_eq_true rfl⟩ ⟨Nat.le_of_ble_eq_true rfl, Nat.le_of_ble_eq_true rfl⟩ g6 rfl rfl (fun _ => Nat.le_of_ble_eq_true rfl) ?_
      refine J_aload_n (pc := 24) C dX11_of_24 rfl 0 rfl ?_
      refine J_iload_n (pc := 25) C dX11_of_25 rfl 1 rfl ?_
      refine J_iload_n (pc := 26) C dX11_of_26 rfl 2 rfl ?_
      obtain ⟨q7, h8, hf⟩ := bind_ok hf
      obtain ⟨_, g9, h8⟩ := cl_spec h8
      refine J_cV (S := []) (pc := 27) C dX11_of_27 (c_X11_placeOf _ _ _ _ _ h8) k_1103 ys_X11_placeOf ⟨Nat.le_of_ble_eq_true rfl, Nat.le_of_ble_eq_true rfl⟩ ⟨Nat.le_of_ble_eq_true rfl, Nat.le_of_ble_eq_true rfl⟩ g9 rfl rfl (fun _ => Nat.le_of_ble_eq_true rfl) ?_
      refine J_istore (pc := 30) C dX11_of_30 (by decide) hf (fun q => [(4, .int q), (0, .ref v0), (1, .int v1), (2, .int v2), (3, .int v3)]) (fun _ => rfl) (fun x10 hf => ?_)
      refine J_aload_n (pc := 32) C dX11_of_32 rfl 1 rfl ?_
      refine J_iload (pc := 33) C dX11_of_33 0 rfl ?_
      obtain ⟨q11, h12, hf⟩ := bind_ok hf
      obtain ⟨_, g13, h12⟩ := cl_spec h12
      refine J_cV (S := []) (pc := 35) C dX11_of_35 (c_X11_goesTo _ _ _ _ h12) k_1259 ys_X11_goesTo ⟨Nat.le_of_ble_eq_true rfl, Nat.le_of_ble_eq_true rfl⟩ ⟨Nat.le_of_ble_eq_true rfl, Nat.le_of_ble_eq_true rfl⟩ g13 rfl rfl (fun _ => Nat.le_of_ble_eq_true rfl) ?_
      refine J_iload_n (pc := 38) C dX11_of_38 rfl 4 rfl ?_
      refine J_case (v := 0) hf (fun g14 hf => ?_) (fun g14 hf => ?_)
      · refine J_tabIn (pc := 39) C dX11_of_39 (tgt := 84) (by rw [g14]; decide) (by rw [g14]; decide) (by rw [g14]; rfl) (by decide) ?_
        refine J_iload (pc := 84) C dX11_of_84 0 rfl ?_
        exact J_iret (pc := 86) C  rfl rfl dX11_of_86 hf
      refine J_case (v := 1) hf (fun g15 hf => ?_) (fun g15 hf => ?_)
      · refine J_tabIn (pc := 39) C dX11_of_39 (tgt := 87) (by rw [g15]; decide) (by rw [g15]; decide) (by rw [g15]; rfl) (by decide) ?_
        refine J_aload_n (pc := 87) C dX11_of_87 rfl 1 rfl ?_
        refine J_iload_n (pc := 88) C dX11_of_88 rfl 2 rfl ?_
        refine J_iload (pc := 89) C dX11_of_89 0 rfl ?_
        obtain ⟨q16, h17, hf⟩ := bind_ok hf
        obtain ⟨_, g18, h17⟩ := cl_spec h17
        refine J_cV (S := []) (pc := 91) C dX11_of_91 (c_X11_markAt _ _ _ _ h17) k_1171 ys_X11_markAt ⟨Nat.le_of_ble_eq_true rfl, Nat.le_of_ble_eq_true rfl⟩ ⟨Nat.le_of_ble_eq_true rfl, Nat.le_of_ble_eq_true rfl⟩ g18 rfl rfl (fun _ => Nat.le_of_ble_eq_true rfl) ?_
        exact J_iret (pc := 94) C  rfl rfl dX11_of_94 hf
      refine J_case (v := 2) hf (fun g19 hf => ?_) (fun g19 hf => ?_)
      · refine J_tabIn (pc := 39) C dX11_of_39 (tgt := 95) (by rw [g19]; decide) (by rw [g19]; decide) (by rw [g19]; rfl) (by decide) ?_
        refine J_aload_n (pc := 95) C dX11_of_95 rfl 1 rfl ?_
        refine J_getI (pc := 96) C dX11_of_96 (ci := 11) (k0 := 15) rfl iX11 (by decide) k_1018 hf (fun x20 hf => ?_)
        exact J_iret (pc := 99) C  rfl rfl dX11_of_99 hf
      refine J_case (v := 3) hf (fun g21 hf => ?_) (fun g21 hf => ?_)
      · refine J_tabIn (pc := 39) C dX11_of_39 (tgt := 100) (by rw [g21]; decide) (by rw [g21]; decide) (by rw [g21]; rfl) (by decide) ?_
        refine J_aload_n (pc := 100) C dX11_of_100 rfl 1 rfl ?_
        refine J_aload_n (pc := 101) C dX11_of_101 rfl 1 rfl ?_
        refine J_getI (pc := 102) C dX11_of_102 (ci := 11) (k0 := 14) rfl iX11 (by decide) k_1017 hf (fun x22 hf => ?_)
        obtain ⟨q23, h24, hf⟩ := bind_ok hf
        obtain ⟨_, g25, h24⟩ := cl_spec h24
        refine J_cV (S := []) (pc := 105) C dX11_of_105 (c_X11_keyOf _ _ _ h24) k_1296 ys_X11_keyOf ⟨Nat.le_of_ble_eq_true rfl, Nat.le_of_ble_eq_true rfl⟩ ⟨Nat.le_of_ble_eq_true rfl, Nat.le_of_ble_eq_true rfl⟩ g25 rfl rfl (fun _ => Nat.le_of_ble_eq_true rfl) ?_
        exact J_iret (pc := 108) C  rfl rfl dX11_of_108 hf
      refine J_case (v := 4) hf (fun g26 hf => ?_) (fun g26 hf => ?_)
      · refine J_tabIn (pc := 39) C dX11_of_39 (tgt := 109) (by rw [g26]; decide) (by rw [g26]; decide) (by rw [g26]; rfl) (by decide) ?_
        refine J_aload_n (pc := 109) C dX11_of_109 rfl 1 rfl ?_
        refine J_aload_n (pc := 110) C dX11_of_110 rfl 1 rfl ?_
        refine J_aload_n (pc := 111) C dX11_of_111 rfl 1 rfl ?_
        refine J_getI (pc := 112) C dX11_of_112 (ci := 11) (k0 := 12) rfl iX11 (by decide) k_1015 hf (fun x27 hf => ?_)
        refine J_iload (pc := 115) C dX11_of_115 0 rfl ?_
        refine J_iconst (pc := 117) C dX11_of_117 (v := 1) (by decide) ?_
        refine J_isub (pc := 118) C dX11_of_118 ?_
        obtain ⟨q28, h29, hf⟩ := bind_ok hf
        obtain ⟨_, g30, h29⟩ := cl_spec h29
        refine J_cV (S := [.ref v0]) (pc := 119) C dX11_of_119 (c_X11_ahead _ _ _ _ _ h29) k_1263 ys_X11_ahead ⟨Nat.le_of_ble_eq_true rfl, Nat.le_of_ble_eq_true rfl⟩ ⟨Nat.le_of_ble_eq_true rfl, Nat.le_of_ble_eq_true rfl⟩ g30 rfl rfl (fun _ => Nat.le_of_ble_eq_true rfl) ?_
        obtain ⟨q31, h32, hf⟩ := bind_ok hf
        obtain ⟨_, g33, h32⟩ := cl_spec h32
        refine J_cV (S := []) (pc := 122) C dX11_of_122 (c_X11_keyOf _ _ _ h32) k_1296 ys_X11_keyOf ⟨Nat.le_of_ble_eq_true rfl, Nat.le_of_ble_eq_true rfl⟩ ⟨Nat.le_of_ble_eq_true rfl, Nat.le_of_ble_eq_true rfl⟩ g33 rfl rfl (fun _ => Nat.le_of_ble_eq_true rfl) ?_
        exact J_iret (pc := 125) C  rfl rfl dX11_of_125 hf
      refine J_case (v := 5) hf (fun g34 hf => ?_) (fun g34 hf => ?_)
      · refine J_tabIn (pc := 39) C dX11_of_39 (tgt := 126) (by rw [g34]; decide) (by rw [g34]; decide) (by rw [g34]; rfl) (by decide) ?_
        refine J_aload_n (pc := 126) C dX11_of_126 rfl 1 rfl ?_
        refine J_aload_n (pc := 127) C dX11_of_127 rfl 1 rfl ?_
        refine J_iload (pc := 128) C dX11_of_128 0 rfl ?_
        refine J_iconst (pc := 130) C dX11_of_130 (v := 1) (by decide) ?_
        refine J_iadd (pc := 131) C dX11_of_131 ?_
        refine J_aload_n (pc := 132) C dX11_of_132 rfl 1 rfl ?_
        refine J_getI (pc := 133) C dX11_of_133 (ci := 11) (k0 := 13) rfl iX11 (by decide) k_1016 hf (fun x35 hf => ?_)
        obtain ⟨q36, h37, hf⟩ := bind_ok hf
        obtain ⟨_, g38, h37⟩ := cl_spec h37
        refine J_cV (S := [.ref v0]) (pc := 136) C dX11_of_136 (c_X11_ahead _ _ _ _ _ h37) k_1263 ys_X11_ahead ⟨Nat.le_of_ble_eq_true rfl, Nat.le_of_ble_eq_true rfl⟩ ⟨Nat.le_of_ble_eq_true rfl, Nat.le_of_ble_eq_true rfl⟩ g38 rfl rfl (fun _ => Nat.le_of_ble_eq_true rfl) ?_
        obtain ⟨q39, h40, hf⟩ := bind_ok hf
        obtain ⟨_, g41, h40⟩ := cl_spec h40
        refine J_cV (S := []) (pc := 139) C dX11_of_139 (c_X11_keyOf _ _ _ h40) k_1296 ys_X11_keyOf ⟨Nat.le_of_ble_eq_true rfl, Nat.le_of_ble_eq_true rfl⟩ ⟨Nat.le_of_ble_eq_true rfl, Nat.le_of_ble_eq_true rfl⟩ g41 rfl rfl (fun _ => Nat.le_of_ble_eq_true rfl) ?_
        exact J_iret (pc := 142) C  rfl rfl dX11_of_142 hf
      refine J_case (v := 6) hf (fun g42 hf => ?_) (fun g42 hf => ?_)
      · refine J_tabIn (pc := 39) C dX11_of_39 (tgt := 143) (by rw [g42]; decide) (by rw [g42]; decide) (by rw [g42]; rfl) (by decide) ?_
        refine J_iload_n (pc := 143) C dX11_of_143 rfl 3 rfl ?_
        refine J_cS (S := []) (pc := 144) C dX11_of_144 (c_X11_priority _ _ rfl) k_1267 ys_X11_priority ⟨Nat.le_of_ble_eq_true rfl, Nat.le_of_ble_eq_true rfl⟩ ⟨Nat.le_of_ble_eq_true rfl, Nat.le_of_ble_eq_true rfl⟩ rfl rfl (fun _ => Nat.le_of_ble_eq_true rfl) ?_
        exact J_iret (pc := 147) C  rfl rfl dX11_of_147 hf
      refine J_case (v := 7) hf (fun g43 hf => ?_) (fun g43 hf => ?_)
      · refine J_tabIn (pc := 39) C dX11_of_39 (tgt := 148) (by rw [g43]; decide) (by rw [g43]; decide) (by rw [g43]; rfl) (by decide) ?_
        refine J_aload_n (pc := 148) C dX11_of_148 rfl 1 rfl ?_
        refine J_getI (pc := 149) C dX11_of_149 (ci := 11) (k0 := 13) rfl iX11 (by decide) k_1016 hf (fun x44 hf => ?_)
        refine J_aload_n (pc := 152) C dX11_of_152 rfl 1 rfl ?_
        refine J_getI (pc := 153) C dX11_of_153 (ci := 11) (k0 := 12) rfl iX11 (by decide) k_1015 hf (fun x45 hf => ?_)
        refine J_isub (pc := 156) C dX11_of_156 ?_
        exact J_iret (pc := 157) C  rfl rfl dX11_of_157 hf
      refine J_tabOut (pc := 39) C dX11_of_39 (tgt := 158) (by have z0 := lv_neT g14 (k := 0) (a := 0) (by decide); have z1 := lv_neT g15 (k := 1) (a := 1) (by decide); have z2 := lv_neT g19 (k := 2) (a := 2) (by decide); have z3 := lv_neT g21 (k := 3) (a := 3) (by decide); have z4 := lv_neT g26 (k := 4) (a := 4) (by decide); have z5 := lv_neT g34 (k := 5) (a := 5) (by decide); have z6 := lv_neT g42 (k := 6) (a := 6) (by decide); have z7 := lv_neT g43 (k := 7) (a := 7) (by decide); omega) (by decide) ?_
      refine J_iconst (pc := 158) C dX11_of_158 (v := -1) (by decide) ?_
      exact J_iret (pc := 159) C  rfl rfl dX11_of_159 hf
    · refine J_iconst (pc := 17) C dX11_of_17 (v := -1) (by decide) ?_
      exact J_iret (pc := 18) C  rfl rfl dX11_of_18 hf
set_option maxRecDepth 100000 in
set_option maxHeartbeats 4000000 in
theorem c_X11_within {l : Launch} {D : va_G} {dA : FieldType → ClassId} (fu : Nat) (w : MW) (v0 : Nat) (v1 : Int32) (v2 : Int32) (v3 : Int32) (v4 : Int32) {rr : Int32} (hf : f_X11_within fu w v0 v1 v2 v3 v4 = some rr) : CT l D dA yX11_within cX11_within 7 (some .int) rmX11_within [.ref v0, .int v1, .int v2, .int v3, .int v4] w (some (.int rr)) w := by
  refine J_met (by decide) rfl (Nat.le_of_ble_eq_true rfl) (fun p e s m args below meth c A E C => ?_)
  have B63 : ∀ (lr15 : Nat → Int32 → Int32 → Int32 → Int32 → Int32 → Int32 → Option Int32) (lh15 : ∀ (v0 : Nat) (v1 : Int32) (v2 : Int32) (v3 : Int32) (v4 : Int32) (v5 : Int32) (v6 : Int32), lr15 v0 v1 v2 v3 v4 v5 v6 = some rr → JW p l e rmX11_within s m args below meth c 7 D dA A E (MQ below (Qr D dA E (some (.int rr)) w A) args s 0 0 A) 0 0 15 [(0, .ref v0), (1, .int v1), (2, .int v2), (3, .int v3), (4, .int v4), (5, .int v5), (6, .int v6)] [] w) (v0 : Nat) (v1 : Int32) (v2 : Int32) (v3 : Int32) (v4 : Int32) (v6 : Int32) (s0 : Int32) (s1 : Int32), f_X11_within_63 fu w lr15 v0 v1 v2 v3 v4 v6 s0 s1 = some rr → JW p l e rmX11_within s m args below meth c 7 D dA A E (MQ below (Qr D dA E (some (.int rr)) w A) args s 0 0 A) 0 0 63 [(0, .ref v0), (1, .int v1), (2, .int v2), (3, .int v3), (4, .int v4), (6, .int v6)] [.int s1, .int s0] w := by
    intro lr15 lh15 v0 v1 v2 v3 v4 v6 s0 s1 hf
    rw [f_X11_within_63] at hf
    refine J_iadd (pc := 63) C dX11_within_63 ?_
    refine J_istore (pc := 64) C dX11_within_64 (by decide) hf (fun q => [(5, .int q), (0, .ref v0), (1, .int v1), (2, .int v2), (3, .int v3), (4, .int v4), (6, .int v6)]) (fun _ => rfl) (fun x9 hf => ?_)
    refine J_iinc (pc := 66) C dX11_within_66 6 rfl (y := v6 + 1) rfl (by decide) hf (fun q => [(6, .int q), (5, .int x9), (0, .ref v0), (1, .int v1), (2, .int v2), (3, .int v3), (4, .int v4)]) (fun _ => rfl) (fun x10 hf => ?_)
    refine J_goto (pc := 69) C dX11_within_69 (tgt := 15) (by decide) ?_
    refine J_sub [2, 3, 4, 5, 6, 1, 0] (L1 := [(0, .ref v0), (1, .int v1), (2, .int v2), (3, .int v3), (4, .int v4), (5, .int x9), (6, .int x10)]) rfl ?_
    exact lh15 v0 v1 v2 v3 v4 x9 x10 hf
  have B15 : ∀ (n : Nat) (v0 : Nat) (v1 : Int32) (v2 : Int32) (v3 : Int32) (v4 : Int32) (v5 : Int32) (v6 : Int32), f_X11_within_15 fu w n v0 v1 v2 v3 v4 v5 v6 = some rr → JW p l e rmX11_within s m args below meth c 7 D dA A E (MQ below (Qr D dA E (some (.int rr)) w A) args s 0 0 A) 0 0 15 [(0, .ref v0), (1, .int v1), (2, .int v2), (3, .int v3), (4, .int v4), (5, .int v5), (6, .int v6)] [] w := by
    intro n
    induction n with
    | zero => intro v0 v1 v2 v3 v4 v5 v6 hf; rw [f_X11_within_15] at hf; cases hf
    | succ n ih =>
      intro v0 v1 v2 v3 v4 v5 v6 hf
      rw [f_X11_within_15] at hf
      refine J_iload (pc := 15) C dX11_within_15 6 rfl ?_
      refine J_aload_n (pc := 17) C dX11_within_17 rfl 0 rfl ?_
      refine J_iload_n (pc := 18) C dX11_within_18 rfl 1 rfl ?_
      obtain ⟨q3, h4, hf⟩ := bind_ok hf
      obtain ⟨_, g5, h4⟩ := cl_spec h4
      refine J_cV (S := [.int v6]) (pc := 19) C dX11_within_19 (c_X11_many _ _ _ h4) k_1111 ys_X11_many ⟨Nat.le_of_ble_eq_true rfl, Nat.le_of_ble_eq_true rfl⟩ ⟨Nat.le_of_ble_eq_true rfl, Nat.le_of_ble_eq_true rfl⟩ g5 rfl rfl (fun _ => Nat.le_of_ble_eq_true rfl) ?_
      refine J_icmp_ge (pc := 22) C dX11_within_22 (tgt := 72) (by decide) hf (fun _ hf => ?_) (fun _ hf => ?_)
      · refine J_iload (pc := 72) C dX11_within_72 5 rfl ?_
        exact J_iretP (pc := 74) C  rfl rfl dX11_within_74 hf
      · refine J_iload (pc := 25) C dX11_within_25 5 rfl ?_
        refine J_aload_n (pc := 27) C dX11_within_27 rfl 0 rfl ?_
        refine J_iload_n (pc := 28) C dX11_within_28 rfl 1 rfl ?_
        refine J_iload (pc := 29) C dX11_within_29 6 rfl ?_
        obtain ⟨q6, h7, hf⟩ := bind_ok hf
        obtain ⟨_, g8, h7⟩ := cl_spec h7
        refine J_cV (S := [.int v5]) (pc := 31) C dX11_within_31 (c_X11_keyAt _ _ _ _ h7) k_1115 ys_X11_keyAt ⟨Nat.le_of_ble_eq_true rfl, Nat.le_of_ble_eq_true rfl⟩ ⟨Nat.le_of_ble_eq_true rfl, Nat.le_of_ble_eq_true rfl⟩ g8 rfl rfl (fun _ => Nat.le_of_ble_eq_true rfl) ?_
        refine J_iload_n (pc := 34) C dX11_within_34 rfl 2 rfl ?_
        refine J_iload_n (pc := 35) C dX11_within_35 rfl 3 rfl ?_
        refine J_cS (S := [.int v5]) (pc := 36) C dX11_within_36 (c_X11_isIn _ _ _ _ rfl) k_1097 ys_X11_isIn ⟨Nat.le_of_ble_eq_true rfl, Nat.le_of_ble_eq_true rfl⟩ ⟨Nat.le_of_ble_eq_true rfl, Nat.le_of_ble_eq_true rfl⟩ rfl rfl (fun _ => Nat.le_of_ble_eq_true rfl) ?_
        refine J_if_eq (pc := 39) C dX11_within_39 (tgt := 62) (by decide) hf (fun _ hf => ?_) (fun _ hf => ?_)
        · refine J_iconst (pc := 62) C dX11_within_62 (v := 0) (by decide) ?_
          refine J_sub [0, 1, 2, 3, 4, 6] (L1 := [(0, .ref v0), (1, .int v1), (2, .int v2), (3, .int v3), (4, .int v4), (6, .int v6)]) rfl ?_
          exact B63 (f_X11_within_15 fu w n) ih v0 v1 v2 v3 v4 v6 v5 (0 : Int32) hf
        · refine J_iload (pc := 42) C dX11_within_42 4 rfl ?_
          refine J_if_eq (pc := 44) C dX11_within_44 (tgt := 58) (by decide) hf (fun _ hf => ?_) (fun _ hf => ?_)
          · refine J_iconst (pc := 58) C dX11_within_58 (v := 1) (by decide) ?_
            refine J_goto (pc := 59) C dX11_within_59 (tgt := 63) (by decide) ?_
            refine J_sub [0, 1, 2, 3, 4, 6] (L1 := [(0, .ref v0), (1, .int v1), (2, .int v2), (3, .int v3), (4, .int v4), (6, .int v6)]) rfl ?_
            exact B63 (f_X11_within_15 fu w n) ih v0 v1 v2 v3 v4 v6 v5 (1 : Int32) hf
          · refine J_aload_n (pc := 47) C dX11_within_47 rfl 0 rfl ?_
            refine J_iload_n (pc := 48) C dX11_within_48 rfl 1 rfl ?_
            refine J_iload (pc := 49) C dX11_within_49 6 rfl ?_
            obtain ⟨q11, h12, hf⟩ := bind_ok hf
            obtain ⟨_, g13, h12⟩ := cl_spec h12
            refine J_cV (S := [.int v5]) (pc := 51) C dX11_within_51 (c_X11_markAt _ _ _ _ h12) k_1171 ys_X11_markAt ⟨Nat.le_of_ble_eq_true rfl, Nat.le_of_ble_eq_true rfl⟩ ⟨Nat.le_of_ble_eq_true rfl, Nat.le_of_ble_eq_true rfl⟩ g13 rfl rfl (fun _ => Nat.le_of_ble_eq_true rfl) ?_
            refine J_iconst (pc := 54) C dX11_within_54 (v := 1) (by decide) ?_
            refine J_icmp_ne (pc := 55) C dX11_within_55 (tgt := 62) (by decide) hf (fun _ hf => ?_) (fun _ hf => ?_)
            · refine J_iconst (pc := 62) C dX11_within_62 (v := 0) (by decide) ?_
              refine J_sub [0, 1, 2, 3, 4, 6] (L1 := [(0, .ref v0), (1, .int v1), (2, .int v2), (3, .int v3), (4, .int v4), (6, .int v6)]) rfl ?_
              exact B63 (f_X11_within_15 fu w n) ih v0 v1 v2 v3 v4 v6 v5 (0 : Int32) hf
            · refine J_iconst (pc := 58) C dX11_within_58 (v := 1) (by decide) ?_
              refine J_goto (pc := 59) C dX11_within_59 (tgt := 63) (by decide) ?_
              refine J_sub [0, 1, 2, 3, 4, 6] (L1 := [(0, .ref v0), (1, .int v1), (2, .int v2), (3, .int v3), (4, .int v4), (6, .int v6)]) rfl ?_
              exact B63 (f_X11_within_15 fu w n) ih v0 v1 v2 v3 v4 v6 v5 (1 : Int32) hf
  rw [f_X11_within] at hf
  refine J_sub [0, 1, 2, 3, 4] (L1 := [(0, .ref v0), (1, .int v1), (2, .int v2), (3, .int v3), (4, .int v4)]) rfl ?_
  refine J_iload_n (pc := 0) C dX11_within_0 rfl 1 rfl ?_
  refine J_cS (S := []) (pc := 1) C dX11_within_1 (c_X11_isSet _ _ rfl) k_1094 ys_X11_isSet ⟨Nat.le_of_ble_eq_true rfl, Nat.le_of_ble_eq_true rfl⟩ ⟨Nat.le_of_ble_eq_true rfl, Nat.le_of_ble_eq_true rfl⟩ rfl rfl (fun _ => Nat.le_of_ble_eq_true rfl) ?_
  refine J_if_ne (pc := 4) C dX11_within_4 (tgt := 9) (by decide) hf (fun _ hf => ?_) (fun _ hf => ?_)
  · refine J_iconst (pc := 9) C dX11_within_9 (v := 0) (by decide) ?_
    refine J_istore (pc := 10) C dX11_within_10 (by decide) hf (fun q => [(5, .int q), (0, .ref v0), (1, .int v1), (2, .int v2), (3, .int v3), (4, .int v4)]) (fun _ => rfl) (fun x1 hf => ?_)
    refine J_iconst (pc := 12) C dX11_within_12 (v := 0) (by decide) ?_
    refine J_istore (pc := 13) C dX11_within_13 (by decide) hf (fun q => [(6, .int q), (5, .int x1), (0, .ref v0), (1, .int v1), (2, .int v2), (3, .int v3), (4, .int v4)]) (fun _ => rfl) (fun x2 hf => ?_)
    refine J_sub [2, 3, 4, 5, 6, 1, 0] (L1 := [(0, .ref v0), (1, .int v1), (2, .int v2), (3, .int v3), (4, .int v4), (5, .int x1), (6, .int x2)]) rfl ?_
    exact B15 fu v0 v1 v2 v3 v4 x1 x2 hf
  · refine J_iconst (pc := 7) C dX11_within_7 (v := -1) (by decide) ?_
    exact J_iretP (pc := 8) C  rfl rfl dX11_within_8 hf
set_option maxRecDepth 100000 in
set_option maxHeartbeats 4000000 in
theorem c_X11_far {l : Launch} {D : va_G} {dA : FieldType → ClassId} (fu : Nat) (w : MW) (v0 : Nat) (v1 : Int32) (v2 : Int32) (v3 : Int32) {rr : Int32} {w' : MW} (hf : f_X11_far fu w v0 v1 v2 v3 = some (rr, w')) : CT l D dA yX11_far cX11_far 4 (some .int) rmX11_far [.ref v0, .int v1, .int v2, .int v3] w (some (.int rr)) w' := by
  refine J_met (by decide) rfl (Nat.le_of_ble_eq_true rfl) (fun p e s m args below meth c A E C => ?_)
  rw [f_X11_far] at hf
  refine J_sub [0, 1, 2, 3] (L1 := [(0, .ref v0), (1, .int v1), (2, .int v2), (3, .int v3)]) rfl ?_
  refine J_iload_n (pc := 0) C dX11_far_0 rfl 1 rfl ?_
  refine J_cS (S := []) (pc := 1) C dX11_far_1 (c_X11_isSet _ _ rfl) k_1094 ys_X11_isSet ⟨Nat.le_of_ble_eq_true rfl, Nat.le_of_ble_eq_true rfl⟩ ⟨Nat.le_of_ble_eq_true rfl, Nat.le_of_ble_eq_true rfl⟩ rfl rfl (fun _ => Nat.le_of_ble_eq_true rfl) ?_
  refine J_if_eq (pc := 4) C dX11_far_4 (tgt := 27) (by decide) hf (fun _ hf => ?_) (fun _ hf => ?_)
  · refine J_iconst (pc := 27) C dX11_far_27 (v := -1) (by decide) ?_
    exact J_iret (pc := 28) C  rfl rfl dX11_far_28 hf
  · refine J_aload_n (pc := 7) C dX11_far_7 rfl 0 rfl ?_
    refine J_iload_n (pc := 8) C dX11_far_8 rfl 1 rfl ?_
    refine J_iload_n (pc := 9) C dX11_far_9 rfl 2 rfl ?_
    obtain ⟨q1, h2, hf⟩ := bind_ok hf
    obtain ⟨_, g3, h2⟩ := cl_spec h2
    refine J_cV (S := []) (pc := 10) C dX11_far_10 (c_X11_placeOf _ _ _ _ _ h2) k_1103 ys_X11_placeOf ⟨Nat.le_of_ble_eq_true rfl, Nat.le_of_ble_eq_true rfl⟩ ⟨Nat.le_of_ble_eq_true rfl, Nat.le_of_ble_eq_true rfl⟩ g3 rfl rfl (fun _ => Nat.le_of_ble_eq_true rfl) ?_
    refine J_iconst (pc := 13) C dX11_far_13 (v := -1) (by decide) ?_
    refine J_icmp_eq (pc := 14) C dX11_far_14 (tgt := 27) (by decide) hf (fun _ hf => ?_) (fun _ hf => ?_)
    · refine J_iconst (pc := 27) C dX11_far_27 (v := -1) (by decide) ?_
      exact J_iret (pc := 28) C  rfl rfl dX11_far_28 hf
    · refine J_aload_n (pc := 17) C dX11_far_17 rfl 0 rfl ?_
      refine J_iload_n (pc := 18) C dX11_far_18 rfl 1 rfl ?_
      refine J_iload_n (pc := 19) C dX11_far_19 rfl 3 rfl ?_
      obtain ⟨q4, h5, hf⟩ := bind_ok hf
      obtain ⟨_, g6, h5⟩ := cl_spec h5
      refine J_cV (S := []) (pc := 20) C dX11_far_20 (c_X11_placeOf _ _ _ _ _ h5) k_1103 ys_X11_placeOf ⟨Nat.le_of_ble_eq_true rfl, Nat.le_of_ble_eq_true rfl⟩ ⟨Nat.le_of_ble_eq_true rfl, Nat.le_of_ble_eq_true rfl⟩ g6 rfl rfl (fun _ => Nat.le_of_ble_eq_true rfl) ?_
      refine J_iconst (pc := 23) C dX11_far_23 (v := -1) (by decide) ?_
      refine J_icmp_ne (pc := 24) C dX11_far_24 (tgt := 29) (by decide) hf (fun _ hf => ?_) (fun _ hf => ?_)
      · refine J_aload_n (pc := 29) C dX11_far_29 rfl 0 rfl ?_
        refine J_iload_n (pc := 30) C dX11_far_30 rfl 1 rfl ?_
        obtain ⟨q7, h8, hf⟩ := bind_ok hf
        obtain ⟨_, g9, h8⟩ := cl_spec h8
        refine J_cV (S := []) (pc := 31) C dX11_far_31 (c_X11_laysRow _ _ _ _ h8) k_1247 ys_X11_laysRow ⟨Nat.le_of_ble_eq_true rfl, Nat.le_of_ble_eq_true rfl⟩ ⟨Nat.le_of_ble_eq_true rfl, Nat.le_of_ble_eq_true rfl⟩ g9 rfl rfl (fun _ => Nat.le_of_ble_eq_true rfl) ?_
        refine J_aload_n (pc := 34) C dX11_far_34 rfl 0 rfl ?_
        refine J_aload_n (pc := 35) C dX11_far_35 rfl 0 rfl ?_
        refine J_iload_n (pc := 36) C dX11_far_36 rfl 1 rfl ?_
        refine J_iload_n (pc := 37) C dX11_far_37 rfl 2 rfl ?_
        obtain ⟨q10, h11, hf⟩ := bind_ok hf
        obtain ⟨_, g12, h11⟩ := cl_spec h11
        refine J_cV (S := [.ref v0]) (pc := 38) C dX11_far_38 (c_X11_placeOf _ _ _ _ _ h11) k_1103 ys_X11_placeOf ⟨Nat.le_of_ble_eq_true rfl, Nat.le_of_ble_eq_true rfl⟩ ⟨Nat.le_of_ble_eq_true rfl, Nat.le_of_ble_eq_true rfl⟩ g12 rfl rfl (fun _ => Nat.le_of_ble_eq_true rfl) ?_
        refine J_aload_n (pc := 41) C dX11_far_41 rfl 0 rfl ?_
        refine J_iload_n (pc := 42) C dX11_far_42 rfl 1 rfl ?_
        refine J_iload_n (pc := 43) C dX11_far_43 rfl 3 rfl ?_
        obtain ⟨q13, h14, hf⟩ := bind_ok hf
        obtain ⟨_, g15, h14⟩ := cl_spec h14
        refine J_cV (S := [.int q10, .ref v0]) (pc := 44) C dX11_far_44 (c_X11_placeOf _ _ _ _ _ h14) k_1103 ys_X11_placeOf ⟨Nat.le_of_ble_eq_true rfl, Nat.le_of_ble_eq_true rfl⟩ ⟨Nat.le_of_ble_eq_true rfl, Nat.le_of_ble_eq_true rfl⟩ g15 rfl rfl (fun _ => Nat.le_of_ble_eq_true rfl) ?_
        obtain ⟨q16, h17, hf⟩ := bind_ok hf
        obtain ⟨_, g18, h17⟩ := cl_spec h17
        refine J_cV (S := []) (pc := 47) C dX11_far_47 (c_X11_farOf _ _ _ _ _ h17) k_1251 ys_X11_farOf ⟨Nat.le_of_ble_eq_true rfl, Nat.le_of_ble_eq_true rfl⟩ ⟨Nat.le_of_ble_eq_true rfl, Nat.le_of_ble_eq_true rfl⟩ g18 rfl rfl (fun _ => Nat.le_of_ble_eq_true rfl) ?_
        exact J_iret (pc := 50) C  rfl rfl dX11_far_50 hf
      · refine J_iconst (pc := 27) C dX11_far_27 (v := -1) (by decide) ?_
        exact J_iret (pc := 28) C  rfl rfl dX11_far_28 hf
set_option maxRecDepth 100000 in
set_option maxHeartbeats 4000000 in
theorem c_X11_where {l : Launch} {D : va_G} {dA : FieldType → ClassId} (fu : Nat) (w : MW) (v0 : Nat) (v1 : Int32) {rr : Int32} (hf : f_X11_where fu w v0 v1 = some rr) : CT l D dA yX11_where cX11_where 4 (some .int) rmX11_where [.ref v0, .int v1] w (some (.int rr)) w := by
  refine J_met (by decide) rfl (Nat.le_of_ble_eq_true rfl) (fun p e s m args below meth c A E C => ?_)
  have B28 : ∀ (lr4 : Nat → Int32 → Int32 → Int32 → Option Int32) (lh4 : ∀ (v0 : Nat) (v1 : Int32) (v2 : Int32) (v3 : Int32), lr4 v0 v1 v2 v3 = some rr → JW p l e rmX11_where s m args below meth c 4 D dA A E (MQ below (Qr D dA E (some (.int rr)) w A) args s 0 0 A) 0 0 4 [(0, .ref v0), (1, .int v1), (2, .int v2), (3, .int v3)] [] w) (v0 : Nat) (v1 : Int32) (v3 : Int32) (s0 : Int32) (s1 : Int32), f_X11_where_28 fu w lr4 v0 v1 v3 s0 s1 = some rr → JW p l e rmX11_where s m args below meth c 4 D dA A E (MQ below (Qr D dA E (some (.int rr)) w A) args s 0 0 A) 0 0 28 [(0, .ref v0), (1, .int v1), (3, .int v3)] [.int s1, .int s0] w := by
    intro lr4 lh4 v0 v1 v3 s0 s1 hf
    rw [f_X11_where_28] at hf
    refine J_ior (pc := 28) C dX11_where_28 ?_
    refine J_istore_n (pc := 29) C dX11_where_29 rfl (by decide) hf (fun q => [(2, .int q), (0, .ref v0), (1, .int v1), (3, .int v3)]) (fun _ => rfl) (fun x6 hf => ?_)
    refine J_iinc (pc := 30) C dX11_where_30 3 rfl (y := v3 + 1) rfl (by decide) hf (fun q => [(3, .int q), (2, .int x6), (0, .ref v0), (1, .int v1)]) (fun _ => rfl) (fun x7 hf => ?_)
    refine J_goto (pc := 33) C dX11_where_33 (tgt := 4) (by decide) ?_
    refine J_sub [2, 3, 1, 0] (L1 := [(0, .ref v0), (1, .int v1), (2, .int x6), (3, .int x7)]) rfl ?_
    exact lh4 v0 v1 x6 x7 hf
  have B4 : ∀ (n : Nat) (v0 : Nat) (v1 : Int32) (v2 : Int32) (v3 : Int32), f_X11_where_4 fu w n v0 v1 v2 v3 = some rr → JW p l e rmX11_where s m args below meth c 4 D dA A E (MQ below (Qr D dA E (some (.int rr)) w A) args s 0 0 A) 0 0 4 [(0, .ref v0), (1, .int v1), (2, .int v2), (3, .int v3)] [] w := by
    intro n
    induction n with
    | zero => intro v0 v1 v2 v3 hf; rw [f_X11_where_4] at hf; cases hf
    | succ n ih =>
      intro v0 v1 v2 v3 hf
      rw [f_X11_where_4] at hf
      refine J_iload_n (pc := 4) C dX11_where_4 rfl 3 rfl ?_
      refine J_bipush (pc := 5) C dX11_where_5 (v := 8) (by decide) ?_
      refine J_icmp_ge (pc := 7) C dX11_where_7 (tgt := 36) (by decide) hf (fun _ hf => ?_) (fun _ hf => ?_)
      · refine J_iload_n (pc := 36) C dX11_where_36 rfl 2 rfl ?_
        exact J_iretP (pc := 37) C  rfl rfl dX11_where_37 hf
      · refine J_iload_n (pc := 10) C dX11_where_10 rfl 2 rfl ?_
        refine J_aload_n (pc := 11) C dX11_where_11 rfl 0 rfl ?_
        refine J_iload_n (pc := 12) C dX11_where_12 rfl 3 rfl ?_
        refine J_iload_n (pc := 13) C dX11_where_13 rfl 1 rfl ?_
        obtain ⟨q3, h4, hf⟩ := bind_ok hf
        obtain ⟨_, g5, h4⟩ := cl_spec h4
        refine J_cV (S := [.int v2]) (pc := 14) C dX11_where_14 (c_X11_placeOf _ _ _ _ _ h4) k_1103 ys_X11_placeOf ⟨Nat.le_of_ble_eq_true rfl, Nat.le_of_ble_eq_true rfl⟩ ⟨Nat.le_of_ble_eq_true rfl, Nat.le_of_ble_eq_true rfl⟩ g5 rfl rfl (fun _ => Nat.le_of_ble_eq_true rfl) ?_
        refine J_iconst (pc := 17) C dX11_where_17 (v := -1) (by decide) ?_
        refine J_icmp_eq (pc := 18) C dX11_where_18 (tgt := 27) (by decide) hf (fun _ hf => ?_) (fun _ hf => ?_)
        · refine J_iconst (pc := 27) C dX11_where_27 (v := 0) (by decide) ?_
          refine J_sub [0, 1, 3] (L1 := [(0, .ref v0), (1, .int v1), (3, .int v3)]) rfl ?_
          exact B28 (f_X11_where_4 fu w n) ih v0 v1 v3 v2 (0 : Int32) hf
        · refine J_iconst (pc := 21) C dX11_where_21 (v := 1) (by decide) ?_
          refine J_iload_n (pc := 22) C dX11_where_22 rfl 3 rfl ?_
          refine J_ishl (pc := 23) C dX11_where_23 ?_
          refine J_goto (pc := 24) C dX11_where_24 (tgt := 28) (by decide) ?_
          refine J_sub [0, 1, 3] (L1 := [(0, .ref v0), (1, .int v1), (3, .int v3)]) rfl ?_
          exact B28 (f_X11_where_4 fu w n) ih v0 v1 v3 v2 ((1 : Int32) <<< (v3 &&& 31)) hf
  rw [f_X11_where] at hf
  refine J_sub [0, 1] (L1 := [(0, .ref v0), (1, .int v1)]) rfl ?_
  refine J_iconst (pc := 0) C dX11_where_0 (v := 0) (by decide) ?_
  refine J_istore_n (pc := 1) C dX11_where_1 rfl (by decide) hf (fun q => [(2, .int q), (0, .ref v0), (1, .int v1)]) (fun _ => rfl) (fun x1 hf => ?_)
  refine J_iconst (pc := 2) C dX11_where_2 (v := 0) (by decide) ?_
  refine J_istore_n (pc := 3) C dX11_where_3 rfl (by decide) hf (fun q => [(3, .int q), (2, .int x1), (0, .ref v0), (1, .int v1)]) (fun _ => rfl) (fun x2 hf => ?_)
  refine J_sub [2, 3, 1, 0] (L1 := [(0, .ref v0), (1, .int v1), (2, .int x1), (3, .int x2)]) rfl ?_
  exact B4 fu v0 v1 x1 x2 hf
set_option maxRecDepth 100000 in
set_option maxHeartbeats 4000000 in
theorem c_X11_unlike {l : Launch} {D : va_G} {dA : FieldType → ClassId} (fu : Nat) (w : MW) (v0 : Nat) {rr : Int32} (hf : f_X11_unlike fu w v0 = some rr) : CT l D dA yX11_unlike cX11_unlike 4 (some .int) rmX11_unlike [.ref v0] w (some (.int rr)) w := by
  refine J_met (by decide) rfl (Nat.le_of_ble_eq_true rfl) (fun p e s m args below meth c A E C => ?_)
  have B46 : ∀ (lr4 : Nat → Int32 → Int32 → Option Int32) (lh4 : ∀ (v0 : Nat) (v1 : Int32) (v2 : Int32), lr4 v0 v1 v2 = some rr → JW p l e rmX11_unlike s m args below meth c 4 D dA A E (MQ below (Qr D dA E (some (.int rr)) w A) args s 0 0 A) 0 0 4 [(0, .ref v0), (1, .int v1), (2, .int v2)] [] w) (lr12 : Nat → Int32 → Int32 → Int32 → Option Int32) (lh12 : ∀ (v0 : Nat) (v1 : Int32) (v2 : Int32) (v3 : Int32), lr12 v0 v1 v2 v3 = some rr → JW p l e rmX11_unlike s m args below meth c 4 D dA A E (MQ below (Qr D dA E (some (.int rr)) w A) args s 0 0 A) 0 0 12 [(0, .ref v0), (1, .int v1), (2, .int v2), (3, .int v3)] [] w) (v0 : Nat) (v2 : Int32) (v3 : Int32) (s0 : Int32) (s1 : Int32), f_X11_unlike_46 fu w lr4 lr12 v0 v2 v3 s0 s1 = some rr → JW p l e rmX11_unlike s m args below meth c 4 D dA A E (MQ below (Qr D dA E (some (.int rr)) w A) args s 0 0 A) 0 0 46 [(0, .ref v0), (2, .int v2), (3, .int v3)] [.int s1, .int s0] w := by
    intro lr4 lh4 lr12 lh12 v0 v2 v3 s0 s1 hf
    rw [f_X11_unlike_46] at hf
    refine J_iadd (pc := 46) C dX11_unlike_46 ?_
    refine J_istore_n (pc := 47) C dX11_unlike_47 rfl (by decide) hf (fun q => [(1, .int q), (0, .ref v0), (2, .int v2), (3, .int v3)]) (fun _ => rfl) (fun x14 hf => ?_)
    refine J_iinc (pc := 48) C dX11_unlike_48 3 rfl (y := v3 + 1) rfl (by decide) hf (fun q => [(3, .int q), (1, .int x14), (0, .ref v0), (2, .int v2)]) (fun _ => rfl) (fun x15 hf => ?_)
    refine J_goto (pc := 51) C dX11_unlike_51 (tgt := 12) (by decide) ?_
    refine J_sub [2, 1, 3, 0] (L1 := [(0, .ref v0), (1, .int x14), (2, .int v2), (3, .int x15)]) rfl ?_
    exact lh12 v0 x14 v2 x15 hf
  have B12 : ∀ (lr4 : Nat → Int32 → Int32 → Option Int32) (lh4 : ∀ (v0 : Nat) (v1 : Int32) (v2 : Int32), lr4 v0 v1 v2 = some rr → JW p l e rmX11_unlike s m args below meth c 4 D dA A E (MQ below (Qr D dA E (some (.int rr)) w A) args s 0 0 A) 0 0 4 [(0, .ref v0), (1, .int v1), (2, .int v2)] [] w) (n : Nat) (v0 : Nat) (v1 : Int32) (v2 : Int32) (v3 : Int32), f_X11_unlike_12 fu w lr4 n v0 v1 v2 v3 = some rr → JW p l e rmX11_unlike s m args below meth c 4 D dA A E (MQ below (Qr D dA E (some (.int rr)) w A) args s 0 0 A) 0 0 12 [(0, .ref v0), (1, .int v1), (2, .int v2), (3, .int v3)] [] w := by
    intro lr4 lh4 n
    induction n with
    | zero => intro v0 v1 v2 v3 hf; rw [f_X11_unlike_12] at hf; cases hf
    | succ n ih =>
      intro v0 v1 v2 v3 hf
      rw [f_X11_unlike_12] at hf
      refine J_iload_n (pc := 12) C dX11_unlike_12 rfl 3 rfl ?_
      refine J_aload_n (pc := 13) C dX11_unlike_13 rfl 0 rfl ?_
      refine J_iload_n (pc := 14) C dX11_unlike_14 rfl 2 rfl ?_
      obtain ⟨q4, h5, hf⟩ := bind_ok hf
      obtain ⟨_, g6, h5⟩ := cl_spec h5
      refine J_cV (S := [.int v3]) (pc := 15) C dX11_unlike_15 (c_X11_many _ _ _ h5) k_1111 ys_X11_many ⟨Nat.le_of_ble_eq_true rfl, Nat.le_of_ble_eq_true rfl⟩ ⟨Nat.le_of_ble_eq_true rfl, Nat.le_of_ble_eq_true rfl⟩ g6 rfl rfl (fun _ => Nat.le_of_ble_eq_true rfl) ?_
      refine J_icmp_ge (pc := 18) C dX11_unlike_18 (tgt := 54) (by decide) hf (fun _ hf => ?_) (fun _ hf => ?_)
      · refine J_iinc (pc := 54) C dX11_unlike_54 2 rfl (y := v2 + 1) rfl (by decide) hf (fun q => [(2, .int q), (0, .ref v0), (1, .int v1), (3, .int v3)]) (fun _ => rfl) (fun x7 hf => ?_)
        refine J_goto (pc := 57) C dX11_unlike_57 (tgt := 4) (by decide) ?_
        refine J_sub [1, 2, 0] (L1 := [(0, .ref v0), (1, .int v1), (2, .int x7)]) rfl ?_
        exact lh4 v0 v1 x7 hf
      · refine J_iload_n (pc := 21) C dX11_unlike_21 rfl 1 rfl ?_
        refine J_aload_n (pc := 22) C dX11_unlike_22 rfl 0 rfl ?_
        refine J_aload_n (pc := 23) C dX11_unlike_23 rfl 0 rfl ?_
        refine J_iload_n (pc := 24) C dX11_unlike_24 rfl 2 rfl ?_
        refine J_iload_n (pc := 25) C dX11_unlike_25 rfl 3 rfl ?_
        obtain ⟨q8, h9, hf⟩ := bind_ok hf
        obtain ⟨_, g10, h9⟩ := cl_spec h9
        refine J_cV (S := [.ref v0, .int v1]) (pc := 26) C dX11_unlike_26 (c_X11_keyAt _ _ _ _ h9) k_1115 ys_X11_keyAt ⟨Nat.le_of_ble_eq_true rfl, Nat.le_of_ble_eq_true rfl⟩ ⟨Nat.le_of_ble_eq_true rfl, Nat.le_of_ble_eq_true rfl⟩ g10 rfl rfl (fun _ => Nat.le_of_ble_eq_true rfl) ?_
        obtain ⟨q11, h12, hf⟩ := bind_ok hf
        obtain ⟨_, g13, h12⟩ := cl_spec h12
        refine J_cV (S := [.int v1]) (pc := 29) C dX11_unlike_29 (c_X11_where _ _ _ _ h12) k_1320 ys_X11_where ⟨Nat.le_of_ble_eq_true rfl, Nat.le_of_ble_eq_true rfl⟩ ⟨Nat.le_of_ble_eq_true rfl, Nat.le_of_ble_eq_true rfl⟩ g13 rfl rfl (fun _ => Nat.le_of_ble_eq_true rfl) ?_
        refine J_iconst (pc := 32) C dX11_unlike_32 (v := 1) (by decide) ?_
        refine J_iload_n (pc := 33) C dX11_unlike_33 rfl 2 rfl ?_
        refine J_ishl (pc := 34) C dX11_unlike_34 ?_
        refine J_iconst (pc := 35) C dX11_unlike_35 (v := 1) (by decide) ?_
        refine J_isub (pc := 36) C dX11_unlike_36 ?_
        refine J_iand (pc := 37) C dX11_unlike_37 ?_
        refine J_if_ne (pc := 38) C dX11_unlike_38 (tgt := 45) (by decide) hf (fun _ hf => ?_) (fun _ hf => ?_)
        · refine J_iconst (pc := 45) C dX11_unlike_45 (v := 0) (by decide) ?_
          refine J_sub [0, 2, 3] (L1 := [(0, .ref v0), (2, .int v2), (3, .int v3)]) rfl ?_
          exact B46 lr4 lh4 (f_X11_unlike_12 fu w lr4 n) ih v0 v2 v3 v1 (0 : Int32) hf
        · refine J_iconst (pc := 41) C dX11_unlike_41 (v := 1) (by decide) ?_
          refine J_goto (pc := 42) C dX11_unlike_42 (tgt := 46) (by decide) ?_
          refine J_sub [0, 2, 3] (L1 := [(0, .ref v0), (2, .int v2), (3, .int v3)]) rfl ?_
          exact B46 lr4 lh4 (f_X11_unlike_12 fu w lr4 n) ih v0 v2 v3 v1 (1 : Int32) hf
  have B4 : ∀ (n : Nat) (v0 : Nat) (v1 : Int32) (v2 : Int32), f_X11_unlike_4 fu w n v0 v1 v2 = some rr → JW p l e rmX11_unlike s m args below meth c 4 D dA A E (MQ below (Qr D dA E (some (.int rr)) w A) args s 0 0 A) 0 0 4 [(0, .ref v0), (1, .int v1), (2, .int v2)] [] w := by
    intro n
    induction n with
    | zero => intro v0 v1 v2 hf; rw [f_X11_unlike_4] at hf; cases hf
    | succ n ih =>
      intro v0 v1 v2 hf
      rw [f_X11_unlike_4] at hf
      refine J_iload_n (pc := 4) C dX11_unlike_4 rfl 2 rfl ?_
      refine J_bipush (pc := 5) C dX11_unlike_5 (v := 8) (by decide) ?_
      refine J_icmp_ge (pc := 7) C dX11_unlike_7 (tgt := 60) (by decide) hf (fun _ hf => ?_) (fun _ hf => ?_)
      · refine J_iload_n (pc := 60) C dX11_unlike_60 rfl 1 rfl ?_
        exact J_iretP (pc := 61) C  rfl rfl dX11_unlike_61 hf
      · refine J_iconst (pc := 10) C dX11_unlike_10 (v := 0) (by decide) ?_
        refine J_istore_n (pc := 11) C dX11_unlike_11 rfl (by decide) hf (fun q => [(3, .int q), (0, .ref v0), (1, .int v1), (2, .int v2)]) (fun _ => rfl) (fun x3 hf => ?_)
        refine J_sub [1, 2, 3, 0] (L1 := [(0, .ref v0), (1, .int v1), (2, .int v2), (3, .int x3)]) rfl ?_
        exact B12 (f_X11_unlike_4 fu w n) ih fu v0 v1 v2 x3 hf
  rw [f_X11_unlike] at hf
  refine J_sub [0] (L1 := [(0, .ref v0)]) rfl ?_
  refine J_iconst (pc := 0) C dX11_unlike_0 (v := 0) (by decide) ?_
  refine J_istore_n (pc := 1) C dX11_unlike_1 rfl (by decide) hf (fun q => [(1, .int q), (0, .ref v0)]) (fun _ => rfl) (fun x1 hf => ?_)
  refine J_iconst (pc := 2) C dX11_unlike_2 (v := 0) (by decide) ?_
  refine J_istore_n (pc := 3) C dX11_unlike_3 rfl (by decide) hf (fun q => [(2, .int q), (1, .int x1), (0, .ref v0)]) (fun _ => rfl) (fun x2 hf => ?_)
  refine J_sub [2, 1, 0] (L1 := [(0, .ref v0), (1, .int x1), (2, .int x2)]) rfl ?_
  exact B4 fu v0 x1 x2 hf
set_option maxRecDepth 100000 in
set_option maxHeartbeats 4000000 in
theorem c_X11_fewest {l : Launch} {D : va_G} {dA : FieldType → ClassId} (fu : Nat) (w : MW) (v0 : Nat) (v1 : Int32) {rr : Int32} (hf : f_X11_fewest fu w v0 v1 = some rr) : CT l D dA yX11_fewest cX11_fewest 4 (some .int) rmX11_fewest [.ref v0, .int v1] w (some (.int rr)) w := by
  refine J_met (by decide) rfl (Nat.le_of_ble_eq_true rfl) (fun p e s m args below meth c A E C => ?_)
  have B46 : ∀ (lr4 : Nat → Int32 → Int32 → Int32 → Option Int32) (lh4 : ∀ (v0 : Nat) (v1 : Int32) (v2 : Int32) (v3 : Int32), lr4 v0 v1 v2 v3 = some rr → JW p l e rmX11_fewest s m args below meth c 4 D dA A E (MQ below (Qr D dA E (some (.int rr)) w A) args s 0 0 A) 0 0 4 [(0, .ref v0), (1, .int v1), (2, .int v2), (3, .int v3)] [] w) (v0 : Nat) (v1 : Int32) (v2 : Int32) (v3 : Int32), f_X11_fewest_46 fu w lr4 v0 v1 v2 v3 = some rr → JW p l e rmX11_fewest s m args below meth c 4 D dA A E (MQ below (Qr D dA E (some (.int rr)) w A) args s 0 0 A) 0 0 46 [(0, .ref v0), (1, .int v1), (2, .int v2), (3, .int v3)] [] w := by
    intro lr4 lh4 v0 v1 v2 v3 hf
    rw [f_X11_fewest_46] at hf
    refine J_iinc (pc := 46) C dX11_fewest_46 3 rfl (y := v3 + 1) rfl (by decide) hf (fun q => [(3, .int q), (0, .ref v0), (1, .int v1), (2, .int v2)]) (fun _ => rfl) (fun x3 hf => ?_)
    refine J_goto (pc := 49) C dX11_fewest_49 (tgt := 4) (by decide) ?_
    refine J_sub [1, 2, 3, 0] (L1 := [(0, .ref v0), (1, .int v1), (2, .int v2), (3, .int x3)]) rfl ?_
    exact lh4 v0 v1 v2 x3 hf
  have B4 : ∀ (n : Nat) (v0 : Nat) (v1 : Int32) (v2 : Int32) (v3 : Int32), f_X11_fewest_4 fu w n v0 v1 v2 v3 = some rr → JW p l e rmX11_fewest s m args below meth c 4 D dA A E (MQ below (Qr D dA E (some (.int rr)) w A) args s 0 0 A) 0 0 4 [(0, .ref v0), (1, .int v1), (2, .int v2), (3, .int v3)] [] w := by
    intro n
    induction n with
    | zero => intro v0 v1 v2 v3 hf; rw [f_X11_fewest_4] at hf; cases hf
    | succ n ih =>
      intro v0 v1 v2 v3 hf
      rw [f_X11_fewest_4] at hf
      refine J_iload_n (pc := 4) C dX11_fewest_4 rfl 3 rfl ?_
      refine J_bipush (pc := 5) C dX11_fewest_5 (v := 8) (by decide) ?_
      refine J_icmp_ge (pc := 7) C dX11_fewest_7 (tgt := 52) (by decide) hf (fun _ hf => ?_) (fun _ hf => ?_)
      · refine J_iload_n (pc := 52) C dX11_fewest_52 rfl 2 rfl ?_
        exact J_iretP (pc := 53) C  rfl rfl dX11_fewest_53 hf
      · refine J_iload_n (pc := 10) C dX11_fewest_10 rfl 3 rfl ?_
        refine J_iload_n (pc := 11) C dX11_fewest_11 rfl 1 rfl ?_
        refine J_icmp_eq (pc := 12) C dX11_fewest_12 (tgt := 46) (by decide) hf (fun _ hf => ?_) (fun _ hf => ?_)
        · refine J_sub [0, 1, 2, 3] (L1 := [(0, .ref v0), (1, .int v1), (2, .int v2), (3, .int v3)]) rfl ?_
          exact B46 (f_X11_fewest_4 fu w n) ih v0 v1 v2 v3 hf
        · refine J_aload_n (pc := 15) C dX11_fewest_15 rfl 0 rfl ?_
          refine J_getR (pc := 16) C dX11_fewest_16 (ci := 11) (k0 := 21) rfl iX11 (by decide) k_1024 hf (fun x4 hf => ?_)
          refine J_iload_n (pc := 19) C dX11_fewest_19 rfl 3 rfl ?_
          refine J_iald (pc := 20) C dX11_fewest_20 hf (fun x5 hf => ?_)
          refine J_if_le (pc := 21) C dX11_fewest_21 (tgt := 46) (by decide) hf (fun _ hf => ?_) (fun _ hf => ?_)
          · refine J_sub [0, 1, 2, 3] (L1 := [(0, .ref v0), (1, .int v1), (2, .int v2), (3, .int v3)]) rfl ?_
            exact B46 (f_X11_fewest_4 fu w n) ih v0 v1 v2 v3 hf
          · refine J_iload_n (pc := 24) C dX11_fewest_24 rfl 2 rfl ?_
            refine J_iconst (pc := 25) C dX11_fewest_25 (v := -1) (by decide) ?_
            refine J_icmp_eq (pc := 26) C dX11_fewest_26 (tgt := 44) (by decide) hf (fun _ hf => ?_) (fun _ hf => ?_)
            · refine J_iload_n (pc := 44) C dX11_fewest_44 rfl 3 rfl ?_
              refine J_istore_n (pc := 45) C dX11_fewest_45 rfl (by decide) hf (fun q => [(2, .int q), (0, .ref v0), (1, .int v1), (3, .int v3)]) (fun _ => rfl) (fun x6 hf => ?_)
              refine J_sub [1, 2, 0, 3] (L1 := [(0, .ref v0), (1, .int v1), (2, .int x6), (3, .int v3)]) rfl ?_
              exact B46 (f_X11_fewest_4 fu w n) ih v0 v1 x6 v3 hf
            · refine J_aload_n (pc := 29) C dX11_fewest_29 rfl 0 rfl ?_
              refine J_getR (pc := 30) C dX11_fewest_30 (ci := 11) (k0 := 21) rfl iX11 (by decide) k_1024 hf (fun x7 hf => ?_)
              refine J_iload_n (pc := 33) C dX11_fewest_33 rfl 3 rfl ?_
              refine J_iald (pc := 34) C dX11_fewest_34 hf (fun x8 hf => ?_)
              refine J_aload_n (pc := 35) C dX11_fewest_35 rfl 0 rfl ?_
              refine J_getR (pc := 36) C dX11_fewest_36 (ci := 11) (k0 := 21) rfl iX11 (by decide) k_1024 hf (fun x9 hf => ?_)
              refine J_iload_n (pc := 39) C dX11_fewest_39 rfl 2 rfl ?_
              refine J_iald (pc := 40) C dX11_fewest_40 hf (fun x10 hf => ?_)
              refine J_icmp_ge (pc := 41) C dX11_fewest_41 (tgt := 46) (by decide) hf (fun _ hf => ?_) (fun _ hf => ?_)
              · refine J_sub [0, 1, 2, 3] (L1 := [(0, .ref v0), (1, .int v1), (2, .int v2), (3, .int v3)]) rfl ?_
                exact B46 (f_X11_fewest_4 fu w n) ih v0 v1 v2 v3 hf
              · refine J_iload_n (pc := 44) C dX11_fewest_44 rfl 3 rfl ?_
                refine J_istore_n (pc := 45) C dX11_fewest_45 rfl (by decide) hf (fun q => [(2, .int q), (0, .ref v0), (1, .int v1), (3, .int v3)]) (fun _ => rfl) (fun x11 hf => ?_)
                refine J_sub [1, 2, 0, 3] (L1 := [(0, .ref v0), (1, .int v1), (2, .int x11), (3, .int v3)]) rfl ?_
                exact B46 (f_X11_fewest_4 fu w n) ih v0 v1 x11 v3 hf
  rw [f_X11_fewest] at hf
  refine J_sub [0, 1] (L1 := [(0, .ref v0), (1, .int v1)]) rfl ?_
  refine J_iconst (pc := 0) C dX11_fewest_0 (v := -1) (by decide) ?_
  refine J_istore_n (pc := 1) C dX11_fewest_1 rfl (by decide) hf (fun q => [(2, .int q), (0, .ref v0), (1, .int v1)]) (fun _ => rfl) (fun x1 hf => ?_)
  refine J_iconst (pc := 2) C dX11_fewest_2 (v := 0) (by decide) ?_
  refine J_istore_n (pc := 3) C dX11_fewest_3 rfl (by decide) hf (fun q => [(3, .int q), (2, .int x1), (0, .ref v0), (1, .int v1)]) (fun _ => rfl) (fun x2 hf => ?_)
  refine J_sub [2, 3, 1, 0] (L1 := [(0, .ref v0), (1, .int v1), (2, .int x1), (3, .int x2)]) rfl ?_
  exact B4 fu v0 v1 x1 x2 hf
set_option maxRecDepth 100000 in
set_option maxHeartbeats 4000000 in
theorem c_X11_huffman {l : Launch} {D : va_G} {dA : FieldType → ClassId} (fu : Nat) (w : MW) (v0 : Nat) {rr : Int32} {w' : MW} (hf : f_X11_huffman fu w v0 = some (rr, w')) : CT l D dA yX11_huffman cX11_huffman 5 (some .int) rmX11_huffman [.ref v0] w (some (.int rr)) w' := by
  refine J_met (by decide) rfl (Nat.le_of_ble_eq_true rfl) (fun p e s m args below meth c A E C => ?_)
  have B92 : ∀ (lr39 : MW → Nat → Int32 → Int32 → Int32 → Option (Int32 × MW)) (lh39 : ∀ (w : MW) (v0 : Nat) (v1 : Int32) (v2 : Int32) (v3 : Int32), lr39 w v0 v1 v2 v3 = some (rr, w') → JW p l e rmX11_huffman s m args below meth c 5 D dA A E (MQ below (Qr D dA E (some (.int rr)) w' A) args s 0 0 A) 0 0 39 [(0, .ref v0), (1, .int v1), (2, .int v2), (3, .int v3)] [] w) (w : MW) (v0 : Nat) (v1 : Int32) (v4 : Int32) (s0 : Nat) (s1 : Int32), f_X11_huffman_92 fu lr39 w v0 v1 v4 s0 s1 = some (rr, w') → JW p l e rmX11_huffman s m args below meth c 5 D dA A E (MQ below (Qr D dA E (some (.int rr)) w' A) args s 0 0 A) 0 0 92 [(0, .ref v0), (1, .int v1), (4, .int v4)] [.int s1, .ref s0] w := by
    intro lr39 lh39 w v0 v1 v4 s0 s1 hf
    rw [f_X11_huffman_92] at hf
    refine J_iload (pc := 92) C dX11_huffman_92 2 rfl ?_
    refine J_iast (pc := 94) C dX11_huffman_94 hf (fun w21 hf => ?_)
    refine J_iload_n (pc := 95) C dX11_huffman_95 rfl 1 rfl ?_
    refine J_iload (pc := 96) C dX11_huffman_96 2 rfl ?_
    refine J_iadd (pc := 98) C dX11_huffman_98 ?_
    refine J_istore_n (pc := 99) C dX11_huffman_99 rfl (by decide) hf (fun q => [(1, .int q), (0, .ref v0), (4, .int v4)]) (fun _ => rfl) (fun x22 hf => ?_)
    refine J_aload_n (pc := 100) C dX11_huffman_100 rfl 1 rfl ?_
    refine J_iconst (pc := 101) C dX11_huffman_101 (v := -1) (by decide) ?_
    obtain ⟨q23, h24, hf⟩ := bind_ok hf
    obtain ⟨_, g25, h24⟩ := cl_spec h24
    refine J_cV (S := []) (pc := 102) C dX11_huffman_102 (c_X11_fewest _ _ _ _ h24) k_1325 ys_X11_fewest ⟨Nat.le_of_ble_eq_true rfl, Nat.le_of_ble_eq_true rfl⟩ ⟨Nat.le_of_ble_eq_true rfl, Nat.le_of_ble_eq_true rfl⟩ g25 rfl rfl (fun _ => Nat.le_of_ble_eq_true rfl) ?_
    refine J_istore_n (pc := 105) C dX11_huffman_105 rfl (by decide) hf (fun q => [(2, .int q), (1, .int x22), (0, .ref v0), (4, .int v4)]) (fun _ => rfl) (fun x26 hf => ?_)
    refine J_aload_n (pc := 106) C dX11_huffman_106 rfl 2 rfl ?_
    refine J_iload_n (pc := 107) C dX11_huffman_107 rfl 0 rfl ?_
    obtain ⟨q27, h28, hf⟩ := bind_ok hf
    obtain ⟨_, g29, h28⟩ := cl_spec h28
    refine J_cV (S := []) (pc := 108) C dX11_huffman_108 (c_X11_fewest _ _ _ _ h28) k_1325 ys_X11_fewest ⟨Nat.le_of_ble_eq_true rfl, Nat.le_of_ble_eq_true rfl⟩ ⟨Nat.le_of_ble_eq_true rfl, Nat.le_of_ble_eq_true rfl⟩ g29 rfl rfl (fun _ => Nat.le_of_ble_eq_true rfl) ?_
    refine J_istore_n (pc := 111) C dX11_huffman_111 rfl (by decide) hf (fun q => [(3, .int q), (2, .int x26), (1, .int x22), (0, .ref v0), (4, .int v4)]) (fun _ => rfl) (fun x30 hf => ?_)
    refine J_goto (pc := 112) C dX11_huffman_112 (tgt := 39) (by decide) ?_
    refine J_sub [3, 2, 1, 0] (L1 := [(0, .ref v0), (1, .int x22), (2, .int x26), (3, .int x30)]) rfl ?_
    exact lh39 w21 v0 x22 x26 x30 hf
  have B39 : ∀ (n : Nat) (w : MW) (v0 : Nat) (v1 : Int32) (v2 : Int32) (v3 : Int32), f_X11_huffman_39 fu n w v0 v1 v2 v3 = some (rr, w') → JW p l e rmX11_huffman s m args below meth c 5 D dA A E (MQ below (Qr D dA E (some (.int rr)) w' A) args s 0 0 A) 0 0 39 [(0, .ref v0), (1, .int v1), (2, .int v2), (3, .int v3)] [] w := by
    intro n
    induction n with
    | zero => intro w v0 v1 v2 v3 hf; rw [f_X11_huffman_39] at hf; cases hf
    | succ n ih =>
      intro w v0 v1 v2 v3 hf
      rw [f_X11_huffman_39] at hf
      refine J_iload_n (pc := 39) C dX11_huffman_39 rfl 2 rfl ?_
      refine J_iconst (pc := 40) C dX11_huffman_40 (v := -1) (by decide) ?_
      refine J_icmp_eq (pc := 41) C dX11_huffman_41 (tgt := 115) (by decide) hf (fun _ hf => ?_) (fun _ hf => ?_)
      · refine J_iload_n (pc := 115) C dX11_huffman_115 rfl 1 rfl ?_
        exact J_iret (pc := 116) C  rfl rfl dX11_huffman_116 hf
      · refine J_iload_n (pc := 44) C dX11_huffman_44 rfl 3 rfl ?_
        refine J_iconst (pc := 45) C dX11_huffman_45 (v := -1) (by decide) ?_
        refine J_icmp_eq (pc := 46) C dX11_huffman_46 (tgt := 115) (by decide) hf (fun _ hf => ?_) (fun _ hf => ?_)
        · refine J_iload_n (pc := 115) C dX11_huffman_115 rfl 1 rfl ?_
          exact J_iret (pc := 116) C  rfl rfl dX11_huffman_116 hf
        · refine J_aload_n (pc := 49) C dX11_huffman_49 rfl 0 rfl ?_
          refine J_getR (pc := 50) C dX11_huffman_50 (ci := 11) (k0 := 21) rfl iX11 (by decide) k_1024 hf (fun x11 hf => ?_)
          refine J_iload_n (pc := 53) C dX11_huffman_53 rfl 2 rfl ?_
          refine J_iald (pc := 54) C dX11_huffman_54 hf (fun x12 hf => ?_)
          refine J_aload_n (pc := 55) C dX11_huffman_55 rfl 0 rfl ?_
          refine J_getR (pc := 56) C dX11_huffman_56 (ci := 11) (k0 := 21) rfl iX11 (by decide) k_1024 hf (fun x13 hf => ?_)
          refine J_iload_n (pc := 59) C dX11_huffman_59 rfl 3 rfl ?_
          refine J_iald (pc := 60) C dX11_huffman_60 hf (fun x14 hf => ?_)
          refine J_iadd (pc := 61) C dX11_huffman_61 ?_
          refine J_istore (pc := 62) C dX11_huffman_62 (by decide) hf (fun q => [(4, .int q), (0, .ref v0), (1, .int v1), (2, .int v2), (3, .int v3)]) (fun _ => rfl) (fun x15 hf => ?_)
          refine J_aload_n (pc := 64) C dX11_huffman_64 rfl 1 rfl ?_
          refine J_getR (pc := 65) C dX11_huffman_65 (ci := 11) (k0 := 21) rfl iX11 (by decide) k_1024 hf (fun x16 hf => ?_)
          refine J_iload_n (pc := 68) C dX11_huffman_68 rfl 3 rfl ?_
          refine J_iconst (pc := 69) C dX11_huffman_69 (v := 0) (by decide) ?_
          refine J_iast (pc := 70) C dX11_huffman_70 hf (fun w17 hf => ?_)
          refine J_aload_n (pc := 71) C dX11_huffman_71 rfl 1 rfl ?_
          refine J_getR (pc := 72) C dX11_huffman_72 (ci := 11) (k0 := 21) rfl iX11 (by decide) k_1024 hf (fun x18 hf => ?_)
          refine J_iload_n (pc := 75) C dX11_huffman_75 rfl 4 rfl ?_
          refine J_iconst (pc := 76) C dX11_huffman_76 (v := 0) (by decide) ?_
          refine J_iast (pc := 77) C dX11_huffman_77 hf (fun w19 hf => ?_)
          refine J_aload_n (pc := 78) C dX11_huffman_78 rfl 1 rfl ?_
          refine J_getR (pc := 79) C dX11_huffman_79 (ci := 11) (k0 := 21) rfl iX11 (by decide) k_1024 hf (fun x20 hf => ?_)
          refine J_iload_n (pc := 82) C dX11_huffman_82 rfl 3 rfl ?_
          refine J_iload_n (pc := 83) C dX11_huffman_83 rfl 4 rfl ?_
          refine J_icmp_ge (pc := 84) C dX11_huffman_84 (tgt := 91) (by decide) hf (fun _ hf => ?_) (fun _ hf => ?_)
          · refine J_iload_n (pc := 91) C dX11_huffman_91 rfl 4 rfl ?_
            refine J_sub [1, 2, 0] (L1 := [(0, .ref v0), (1, .int v1), (4, .int x15)]) rfl ?_
            exact B92 (f_X11_huffman_39 fu n) ih w19 v0 v1 x15 x20 v3 hf
          · refine J_iload_n (pc := 87) C dX11_huffman_87 rfl 3 rfl ?_
            refine J_goto (pc := 88) C dX11_huffman_88 (tgt := 92) (by decide) ?_
            refine J_sub [1, 2, 0] (L1 := [(0, .ref v0), (1, .int v1), (4, .int x15)]) rfl ?_
            exact B92 (f_X11_huffman_39 fu n) ih w19 v0 v1 x15 x20 v2 hf
  have B2 : ∀ (n : Nat) (w : MW) (v0 : Nat) (v1 : Int32), f_X11_huffman_2 fu n w v0 v1 = some (rr, w') → JW p l e rmX11_huffman s m args below meth c 5 D dA A E (MQ below (Qr D dA E (some (.int rr)) w' A) args s 0 0 A) 0 0 2 [(0, .ref v0), (1, .int v1)] [] w := by
    intro n
    induction n with
    | zero => intro w v0 v1 hf; rw [f_X11_huffman_2] at hf; cases hf
    | succ n ih =>
      intro w v0 v1 hf
      rw [f_X11_huffman_2] at hf
      refine J_iload_n (pc := 2) C dX11_huffman_2 rfl 1 rfl ?_
      refine J_bipush (pc := 3) C dX11_huffman_3 (v := 8) (by decide) ?_
      refine J_icmp_ge (pc := 5) C dX11_huffman_5 (tgt := 25) (by decide) hf (fun _ hf => ?_) (fun _ hf => ?_)
      · refine J_iconst (pc := 25) C dX11_huffman_25 (v := 0) (by decide) ?_
        refine J_istore_n (pc := 26) C dX11_huffman_26 rfl (by decide) hf (fun q => [(1, .int q), (0, .ref v0)]) (fun _ => rfl) (fun x2 hf => ?_)
        refine J_aload_n (pc := 27) C dX11_huffman_27 rfl 1 rfl ?_
        refine J_iconst (pc := 28) C dX11_huffman_28 (v := -1) (by decide) ?_
        obtain ⟨q3, h4, hf⟩ := bind_ok hf
        obtain ⟨_, g5, h4⟩ := cl_spec h4
        refine J_cV (S := []) (pc := 29) C dX11_huffman_29 (c_X11_fewest _ _ _ _ h4) k_1325 ys_X11_fewest ⟨Nat.le_of_ble_eq_true rfl, Nat.le_of_ble_eq_true rfl⟩ ⟨Nat.le_of_ble_eq_true rfl, Nat.le_of_ble_eq_true rfl⟩ g5 rfl rfl (fun _ => Nat.le_of_ble_eq_true rfl) ?_
        refine J_istore_n (pc := 32) C dX11_huffman_32 rfl (by decide) hf (fun q => [(2, .int q), (1, .int x2), (0, .ref v0)]) (fun _ => rfl) (fun x6 hf => ?_)
        refine J_aload_n (pc := 33) C dX11_huffman_33 rfl 2 rfl ?_
        refine J_iload_n (pc := 34) C dX11_huffman_34 rfl 0 rfl ?_
        obtain ⟨q7, h8, hf⟩ := bind_ok hf
        obtain ⟨_, g9, h8⟩ := cl_spec h8
        refine J_cV (S := []) (pc := 35) C dX11_huffman_35 (c_X11_fewest _ _ _ _ h8) k_1325 ys_X11_fewest ⟨Nat.le_of_ble_eq_true rfl, Nat.le_of_ble_eq_true rfl⟩ ⟨Nat.le_of_ble_eq_true rfl, Nat.le_of_ble_eq_true rfl⟩ g9 rfl rfl (fun _ => Nat.le_of_ble_eq_true rfl) ?_
        refine J_istore_n (pc := 38) C dX11_huffman_38 rfl (by decide) hf (fun q => [(3, .int q), (2, .int x6), (1, .int x2), (0, .ref v0)]) (fun _ => rfl) (fun x10 hf => ?_)
        refine J_sub [3, 2, 1, 0] (L1 := [(0, .ref v0), (1, .int x2), (2, .int x6), (3, .int x10)]) rfl ?_
        exact B39 fu w v0 x2 x6 x10 hf
      · refine J_aload_n (pc := 8) C dX11_huffman_8 rfl 0 rfl ?_
        refine J_getR (pc := 9) C dX11_huffman_9 (ci := 11) (k0 := 21) rfl iX11 (by decide) k_1024 hf (fun x31 hf => ?_)
        refine J_iload_n (pc := 12) C dX11_huffman_12 rfl 1 rfl ?_
        refine J_aload_n (pc := 13) C dX11_huffman_13 rfl 0 rfl ?_
        refine J_iload_n (pc := 14) C dX11_huffman_14 rfl 1 rfl ?_
        obtain ⟨q32, h33, hf⟩ := bind_ok hf
        obtain ⟨_, g34, h33⟩ := cl_spec h33
        refine J_cV (S := [.int v1, .ref x31]) (pc := 15) C dX11_huffman_15 (c_X11_many _ _ _ h33) k_1111 ys_X11_many ⟨Nat.le_of_ble_eq_true rfl, Nat.le_of_ble_eq_true rfl⟩ ⟨Nat.le_of_ble_eq_true rfl, Nat.le_of_ble_eq_true rfl⟩ g34 rfl rfl (fun _ => Nat.le_of_ble_eq_true rfl) ?_
        refine J_iast (pc := 18) C dX11_huffman_18 hf (fun w35 hf => ?_)
        refine J_iinc (pc := 19) C dX11_huffman_19 1 rfl (y := v1 + 1) rfl (by decide) hf (fun q => [(1, .int q), (0, .ref v0)]) (fun _ => rfl) (fun x36 hf => ?_)
        refine J_goto (pc := 22) C dX11_huffman_22 (tgt := 2) (by decide) ?_
        refine J_sub [1, 0] (L1 := [(0, .ref v0), (1, .int x36)]) rfl ?_
        exact ih w35 v0 x36 hf
  rw [f_X11_huffman] at hf
  refine J_sub [0] (L1 := [(0, .ref v0)]) rfl ?_
  refine J_iconst (pc := 0) C dX11_huffman_0 (v := 0) (by decide) ?_
  refine J_istore_n (pc := 1) C dX11_huffman_1 rfl (by decide) hf (fun q => [(1, .int q), (0, .ref v0)]) (fun _ => rfl) (fun x1 hf => ?_)
  refine J_sub [1, 0] (L1 := [(0, .ref v0), (1, .int x1)]) rfl ?_
  exact B2 fu w v0 x1 hf
set_option maxRecDepth 100000 in
set_option maxHeartbeats 4000000 in
theorem c_X11_count {l : Launch} {D : va_G} {dA : FieldType → ClassId} (fu : Nat) (w : MW) (v0 : Nat) (v1 : Int32) {rr : Int32} {w' : MW} (hf : f_X11_count fu w v0 v1 = some (rr, w')) : CT l D dA yX11_count cX11_count 5 (some .int) rmX11_count [.ref v0, .int v1] w (some (.int rr)) w' := by
  refine J_met (by decide) rfl (Nat.le_of_ble_eq_true rfl) (fun p e s m args below meth c A E C => ?_)
  have B29 : ∀ (lr7 : MW → Nat → Int32 → Int32 → Int32 → Int32 → Option (Int32 × MW)) (lh7 : ∀ (w : MW) (v0 : Nat) (v1 : Int32) (v2 : Int32) (v3 : Int32) (v4 : Int32), lr7 w v0 v1 v2 v3 v4 = some (rr, w') → JW p l e rmX11_count s m args below meth c 5 D dA A E (MQ below (Qr D dA E (some (.int rr)) w' A) args s 0 0 A) 0 0 7 [(0, .ref v0), (1, .int v1), (2, .int v2), (3, .int v3), (4, .int v4)] [] w) (w : MW) (v0 : Nat) (v1 : Int32) (v3 : Int32) (v4 : Int32) (s0 : Int32) (s1 : Int32), f_X11_count_29 fu lr7 w v0 v1 v3 v4 s0 s1 = some (rr, w') → JW p l e rmX11_count s m args below meth c 5 D dA A E (MQ below (Qr D dA E (some (.int rr)) w' A) args s 0 0 A) 0 0 29 [(0, .ref v0), (1, .int v1), (3, .int v3), (4, .int v4)] [.int s1, .int s0] w := by
    intro lr7 lh7 w v0 v1 v3 v4 s0 s1 hf
    rw [f_X11_count_29] at hf
    refine J_iadd (pc := 29) C dX11_count_29 ?_
    refine J_istore_n (pc := 30) C dX11_count_30 rfl (by decide) hf (fun q => [(2, .int q), (0, .ref v0), (1, .int v1), (3, .int v3), (4, .int v4)]) (fun _ => rfl) (fun x27 hf => ?_)
    refine J_iload_n (pc := 31) C dX11_count_31 rfl 3 rfl ?_
    refine J_aload_n (pc := 32) C dX11_count_32 rfl 1 rfl ?_
    refine J_iload (pc := 33) C dX11_count_33 4 rfl ?_
    refine J_iconst (pc := 35) C dX11_count_35 (v := 3) (by decide) ?_
    obtain ⟨q28, h29, hf⟩ := bind_ok hf
    obtain ⟨_, g30, h29⟩ := cl_spec h29
    refine J_cV (S := [.int v3]) (pc := 36) C dX11_count_36 (c_X11_summed _ _ _ _ _ h29) k_1284 ys_X11_summed ⟨Nat.le_of_ble_eq_true rfl, Nat.le_of_ble_eq_true rfl⟩ ⟨Nat.le_of_ble_eq_true rfl, Nat.le_of_ble_eq_true rfl⟩ g30 rfl rfl (fun _ => Nat.le_of_ble_eq_true rfl) ?_
    refine J_iadd (pc := 39) C dX11_count_39 ?_
    refine J_istore_n (pc := 40) C dX11_count_40 rfl (by decide) hf (fun q => [(3, .int q), (2, .int x27), (0, .ref v0), (1, .int v1), (4, .int v4)]) (fun _ => rfl) (fun x31 hf => ?_)
    refine J_iinc (pc := 41) C dX11_count_41 4 rfl (y := v4 + 1) rfl (by decide) hf (fun q => [(4, .int q), (3, .int x31), (2, .int x27), (0, .ref v0), (1, .int v1)]) (fun _ => rfl) (fun x32 hf => ?_)
    refine J_goto (pc := 44) C dX11_count_44 (tgt := 7) (by decide) ?_
    refine J_sub [3, 4, 2, 1, 0] (L1 := [(0, .ref v0), (1, .int v1), (2, .int x27), (3, .int x31), (4, .int x32)]) rfl ?_
    exact lh7 q28.2 v0 v1 x27 x31 x32 hf
  have B7 : ∀ (n : Nat) (w : MW) (v0 : Nat) (v1 : Int32) (v2 : Int32) (v3 : Int32) (v4 : Int32), f_X11_count_7 fu n w v0 v1 v2 v3 v4 = some (rr, w') → JW p l e rmX11_count s m args below meth c 5 D dA A E (MQ below (Qr D dA E (some (.int rr)) w' A) args s 0 0 A) 0 0 7 [(0, .ref v0), (1, .int v1), (2, .int v2), (3, .int v3), (4, .int v4)] [] w := by
    intro n
    induction n with
    | zero => intro w v0 v1 v2 v3 v4 hf; rw [f_X11_count_7] at hf; cases hf
    | succ n ih =>
      intro w v0 v1 v2 v3 v4 hf
      rw [f_X11_count_7] at hf
      refine J_iload (pc := 7) C dX11_count_7 4 rfl ?_
      refine J_bipush (pc := 9) C dX11_count_9 (v := 8) (by decide) ?_
      refine J_icmp_ge (pc := 11) C dX11_count_11 (tgt := 47) (by decide) hf (fun _ hf => ?_) (fun _ hf => ?_)
      · refine J_iload_n (pc := 47) C dX11_count_47 rfl 1 rfl ?_
        refine J_case (v := 0) hf (fun g4 hf => ?_) (fun g4 hf => ?_)
        · refine J_tabIn (pc := 48) C dX11_count_48 (tgt := 96) (by rw [g4]; decide) (by rw [g4]; decide) (by rw [g4]; rfl) (by decide) ?_
          refine J_aload_n (pc := 96) C dX11_count_96 rfl 0 rfl ?_
          obtain ⟨q5, h6, hf⟩ := bind_ok hf
          obtain ⟨_, g7, h6⟩ := cl_spec h6
          refine J_cV (S := []) (pc := 97) C dX11_count_97 (c_X11_total _ _ _ h6) k_1119 ys_X11_total ⟨Nat.le_of_ble_eq_true rfl, Nat.le_of_ble_eq_true rfl⟩ ⟨Nat.le_of_ble_eq_true rfl, Nat.le_of_ble_eq_true rfl⟩ g7 rfl rfl (fun _ => Nat.le_of_ble_eq_true rfl) ?_
          exact J_iret (pc := 100) C  rfl rfl dX11_count_100 hf
        refine J_case (v := 1) hf (fun g8 hf => ?_) (fun g8 hf => ?_)
        · refine J_tabIn (pc := 48) C dX11_count_48 (tgt := 101) (by rw [g8]; decide) (by rw [g8]; decide) (by rw [g8]; rfl) (by decide) ?_
          refine J_iload_n (pc := 101) C dX11_count_101 rfl 2 rfl ?_
          exact J_iret (pc := 102) C  rfl rfl dX11_count_102 hf
        refine J_case (v := 2) hf (fun g9 hf => ?_) (fun g9 hf => ?_)
        · refine J_tabIn (pc := 48) C dX11_count_48 (tgt := 103) (by rw [g9]; decide) (by rw [g9]; decide) (by rw [g9]; rfl) (by decide) ?_
          refine J_aload_n (pc := 103) C dX11_count_103 rfl 0 rfl ?_
          obtain ⟨q10, h11, hf⟩ := bind_ok hf
          obtain ⟨_, g12, h11⟩ := cl_spec h11
          refine J_cV (S := []) (pc := 104) C dX11_count_104 (c_X11_unlike _ _ _ h11) k_1316 ys_X11_unlike ⟨Nat.le_of_ble_eq_true rfl, Nat.le_of_ble_eq_true rfl⟩ ⟨Nat.le_of_ble_eq_true rfl, Nat.le_of_ble_eq_true rfl⟩ g12 rfl rfl (fun _ => Nat.le_of_ble_eq_true rfl) ?_
          exact J_iret (pc := 107) C  rfl rfl dX11_count_107 hf
        refine J_case (v := 3) hf (fun g13 hf => ?_) (fun g13 hf => ?_)
        · refine J_tabIn (pc := 48) C dX11_count_48 (tgt := 108) (by rw [g13]; decide) (by rw [g13]; decide) (by rw [g13]; rfl) (by decide) ?_
          refine J_iload_n (pc := 108) C dX11_count_108 rfl 3 rfl ?_
          exact J_iret (pc := 109) C  rfl rfl dX11_count_109 hf
        refine J_case (v := 4) hf (fun g14 hf => ?_) (fun g14 hf => ?_)
        · refine J_tabIn (pc := 48) C dX11_count_48 (tgt := 110) (by rw [g14]; decide) (by rw [g14]; decide) (by rw [g14]; rfl) (by decide) ?_
          refine J_aload_n (pc := 110) C dX11_count_110 rfl 0 rfl ?_
          refine J_getI (pc := 111) C dX11_count_111 (ci := 11) (k0 := 8) rfl iX11 (by decide) k_1011 hf (fun x15 hf => ?_)
          exact J_iret (pc := 114) C  rfl rfl dX11_count_114 hf
        refine J_case (v := 5) hf (fun g16 hf => ?_) (fun g16 hf => ?_)
        · refine J_tabIn (pc := 48) C dX11_count_48 (tgt := 115) (by rw [g16]; decide) (by rw [g16]; decide) (by rw [g16]; rfl) (by decide) ?_
          refine J_aload_n (pc := 115) C dX11_count_115 rfl 0 rfl ?_
          refine J_getI (pc := 116) C dX11_count_116 (ci := 11) (k0 := 4) rfl iX11 (by decide) k_1007 hf (fun x17 hf => ?_)
          exact J_iret (pc := 119) C  rfl rfl dX11_count_119 hf
        refine J_case (v := 6) hf (fun g18 hf => ?_) (fun g18 hf => ?_)
        · refine J_tabIn (pc := 48) C dX11_count_48 (tgt := 120) (by rw [g18]; decide) (by rw [g18]; decide) (by rw [g18]; rfl) (by decide) ?_
          refine J_aload_n (pc := 120) C dX11_count_120 rfl 0 rfl ?_
          obtain ⟨q19, h20, hf⟩ := bind_ok hf
          obtain ⟨_, g21, h20⟩ := cl_spec h20
          refine J_cV (S := []) (pc := 121) C dX11_count_121 (c_X11_huffman _ _ _ h20) k_1321 ys_X11_huffman ⟨Nat.le_of_ble_eq_true rfl, Nat.le_of_ble_eq_true rfl⟩ ⟨Nat.le_of_ble_eq_true rfl, Nat.le_of_ble_eq_true rfl⟩ g21 rfl rfl (fun _ => Nat.le_of_ble_eq_true rfl) ?_
          exact J_iret (pc := 124) C  rfl rfl dX11_count_124 hf
        refine J_case (v := 7) hf (fun g22 hf => ?_) (fun g22 hf => ?_)
        · refine J_tabIn (pc := 48) C dX11_count_48 (tgt := 125) (by rw [g22]; decide) (by rw [g22]; decide) (by rw [g22]; rfl) (by decide) ?_
          refine J_aload_n (pc := 125) C dX11_count_125 rfl 0 rfl ?_
          refine J_getI (pc := 126) C dX11_count_126 (ci := 11) (k0 := 5) rfl iX11 (by decide) k_1008 hf (fun x23 hf => ?_)
          exact J_iret (pc := 129) C  rfl rfl dX11_count_129 hf
        refine J_tabOut (pc := 48) C dX11_count_48 (tgt := 130) (by have z0 := lv_neT g4 (k := 0) (a := 0) (by decide); have z1 := lv_neT g8 (k := 1) (a := 1) (by decide); have z2 := lv_neT g9 (k := 2) (a := 2) (by decide); have z3 := lv_neT g13 (k := 3) (a := 3) (by decide); have z4 := lv_neT g14 (k := 4) (a := 4) (by decide); have z5 := lv_neT g16 (k := 5) (a := 5) (by decide); have z6 := lv_neT g18 (k := 6) (a := 6) (by decide); have z7 := lv_neT g22 (k := 7) (a := 7) (by decide); omega) (by decide) ?_
        refine J_iconst (pc := 130) C dX11_count_130 (v := -1) (by decide) ?_
        exact J_iret (pc := 131) C  rfl rfl dX11_count_131 hf
      · refine J_iload_n (pc := 14) C dX11_count_14 rfl 2 rfl ?_
        refine J_aload_n (pc := 15) C dX11_count_15 rfl 0 rfl ?_
        refine J_iload (pc := 16) C dX11_count_16 4 rfl ?_
        obtain ⟨q24, h25, hf⟩ := bind_ok hf
        obtain ⟨_, g26, h25⟩ := cl_spec h25
        refine J_cV (S := [.int v2]) (pc := 18) C dX11_count_18 (c_X11_many _ _ _ h25) k_1111 ys_X11_many ⟨Nat.le_of_ble_eq_true rfl, Nat.le_of_ble_eq_true rfl⟩ ⟨Nat.le_of_ble_eq_true rfl, Nat.le_of_ble_eq_true rfl⟩ g26 rfl rfl (fun _ => Nat.le_of_ble_eq_true rfl) ?_
        refine J_if_le (pc := 21) C dX11_count_21 (tgt := 28) (by decide) hf (fun _ hf => ?_) (fun _ hf => ?_)
        · refine J_iconst (pc := 28) C dX11_count_28 (v := 0) (by decide) ?_
          refine J_sub [0, 1, 3, 4] (L1 := [(0, .ref v0), (1, .int v1), (3, .int v3), (4, .int v4)]) rfl ?_
          exact B29 (f_X11_count_7 fu n) ih w v0 v1 v3 v4 v2 (0 : Int32) hf
        · refine J_iconst (pc := 24) C dX11_count_24 (v := 1) (by decide) ?_
          refine J_goto (pc := 25) C dX11_count_25 (tgt := 29) (by decide) ?_
          refine J_sub [0, 1, 3, 4] (L1 := [(0, .ref v0), (1, .int v1), (3, .int v3), (4, .int v4)]) rfl ?_
          exact B29 (f_X11_count_7 fu n) ih w v0 v1 v3 v4 v2 (1 : Int32) hf
  rw [f_X11_count] at hf
  refine J_sub [0, 1] (L1 := [(0, .ref v0), (1, .int v1)]) rfl ?_
  refine J_iconst (pc := 0) C dX11_count_0 (v := 0) (by decide) ?_
  refine J_istore_n (pc := 1) C dX11_count_1 rfl (by decide) hf (fun q => [(2, .int q), (0, .ref v0), (1, .int v1)]) (fun _ => rfl) (fun x1 hf => ?_)
  refine J_iconst (pc := 2) C dX11_count_2 (v := 0) (by decide) ?_
  refine J_istore_n (pc := 3) C dX11_count_3 rfl (by decide) hf (fun q => [(3, .int q), (2, .int x1), (0, .ref v0), (1, .int v1)]) (fun _ => rfl) (fun x2 hf => ?_)
  refine J_iconst (pc := 4) C dX11_count_4 (v := 0) (by decide) ?_
  refine J_istore (pc := 5) C dX11_count_5 (by decide) hf (fun q => [(4, .int q), (3, .int x2), (2, .int x1), (0, .ref v0), (1, .int v1)]) (fun _ => rfl) (fun x3 hf => ?_)
  refine J_sub [3, 4, 2, 1, 0] (L1 := [(0, .ref v0), (1, .int v1), (2, .int x1), (3, .int x2), (4, .int x3)]) rfl ?_
  exact B7 fu w v0 v1 x1 x2 x3 hf
set_option maxRecDepth 100000 in
set_option maxHeartbeats 4000000 in
theorem c_X11_pair {l : Launch} {D : va_G} {dA : FieldType → ClassId} (fu : Nat) (w : MW) (v0 : Nat) (v1 : Int32) (v2 : Int32) (v3 : Int32) {rr : Int32} {w' : MW} (hf : f_X11_pair fu w v0 v1 v2 v3 = some (rr, w')) : CT l D dA yX11_pair cX11_pair 4 (some .int) rmX11_pair [.ref v0, .int v1, .int v2, .int v3] w (some (.int rr)) w' := by
  refine J_met (by decide) rfl (Nat.le_of_ble_eq_true rfl) (fun p e s m args below meth c A E C => ?_)
  rw [f_X11_pair] at hf
  refine J_sub [0, 1, 2, 3] (L1 := [(0, .ref v0), (1, .int v1), (2, .int v2), (3, .int v3)]) rfl ?_
  refine J_aload_n (pc := 0) C dX11_pair_0 rfl 0 rfl ?_
  refine J_iload_n (pc := 1) C dX11_pair_1 rfl 1 rfl ?_
  refine J_iload_n (pc := 2) C dX11_pair_2 rfl 2 rfl ?_
  obtain ⟨q1, h2, hf⟩ := bind_ok hf
  obtain ⟨_, g3, h2⟩ := cl_spec h2
  refine J_cV (S := []) (pc := 3) C dX11_pair_3 (c_X11_areTwo _ _ _ _ h2) k_1159 ys_X11_areTwo ⟨Nat.le_of_ble_eq_true rfl, Nat.le_of_ble_eq_true rfl⟩ ⟨Nat.le_of_ble_eq_true rfl, Nat.le_of_ble_eq_true rfl⟩ g3 rfl rfl (fun _ => Nat.le_of_ble_eq_true rfl) ?_
  refine J_if_ne (pc := 6) C dX11_pair_6 (tgt := 11) (by decide) hf (fun _ hf => ?_) (fun _ hf => ?_)
  · refine J_aload_n (pc := 11) C dX11_pair_11 rfl 0 rfl ?_
    refine J_iload_n (pc := 12) C dX11_pair_12 rfl 1 rfl ?_
    refine J_iload_n (pc := 13) C dX11_pair_13 rfl 2 rfl ?_
    obtain ⟨q4, h5, hf⟩ := bind_ok hf
    obtain ⟨_, g6, h5⟩ := cl_spec h5
    refine J_cV (S := []) (pc := 14) C dX11_pair_14 (c_X11_laysRuns _ _ _ _ _ h5) k_1195 ys_X11_laysRuns ⟨Nat.le_of_ble_eq_true rfl, Nat.le_of_ble_eq_true rfl⟩ ⟨Nat.le_of_ble_eq_true rfl, Nat.le_of_ble_eq_true rfl⟩ g6 rfl rfl (fun _ => Nat.le_of_ble_eq_true rfl) ?_
    refine J_iload_n (pc := 17) C dX11_pair_17 rfl 3 rfl ?_
    refine J_case (v := 0) hf (fun g7 hf => ?_) (fun g7 hf => ?_)
    · refine J_tabIn (pc := 18) C dX11_pair_18 (tgt := 60) (by rw [g7]; decide) (by rw [g7]; decide) (by rw [g7]; rfl) (by decide) ?_
      refine J_aload_n (pc := 60) C dX11_pair_60 rfl 0 rfl ?_
      refine J_getI (pc := 61) C dX11_pair_61 (ci := 11) (k0 := 16) rfl iX11 (by decide) k_1019 hf (fun x8 hf => ?_)
      exact J_iret (pc := 64) C  rfl rfl dX11_pair_64 hf
    refine J_case (v := 1) hf (fun g9 hf => ?_) (fun g9 hf => ?_)
    · refine J_tabIn (pc := 18) C dX11_pair_18 (tgt := 65) (by rw [g9]; decide) (by rw [g9]; decide) (by rw [g9]; rfl) (by decide) ?_
      refine J_aload_n (pc := 65) C dX11_pair_65 rfl 0 rfl ?_
      refine J_iload_n (pc := 66) C dX11_pair_66 rfl 1 rfl ?_
      refine J_iload_n (pc := 67) C dX11_pair_67 rfl 2 rfl ?_
      obtain ⟨q10, h11, hf⟩ := bind_ok hf
      obtain ⟨_, g12, h11⟩ := cl_spec h11
      refine J_cV (S := []) (pc := 68) C dX11_pair_68 (c_X11_twins _ _ _ _ _ h11) k_1191 ys_X11_twins ⟨Nat.le_of_ble_eq_true rfl, Nat.le_of_ble_eq_true rfl⟩ ⟨Nat.le_of_ble_eq_true rfl, Nat.le_of_ble_eq_true rfl⟩ g12 rfl rfl (fun _ => Nat.le_of_ble_eq_true rfl) ?_
      exact J_iret (pc := 71) C  rfl rfl dX11_pair_71 hf
    refine J_case (v := 2) hf (fun g13 hf => ?_) (fun g13 hf => ?_)
    · refine J_tabIn (pc := 18) C dX11_pair_18 (tgt := 72) (by rw [g13]; decide) (by rw [g13]; decide) (by rw [g13]; rfl) (by decide) ?_
      refine J_aload_n (pc := 72) C dX11_pair_72 rfl 0 rfl ?_
      refine J_getI (pc := 73) C dX11_pair_73 (ci := 11) (k0 := 17) rfl iX11 (by decide) k_1020 hf (fun x14 hf => ?_)
      exact J_iret (pc := 76) C  rfl rfl dX11_pair_76 hf
    refine J_case (v := 3) hf (fun g15 hf => ?_) (fun g15 hf => ?_)
    · refine J_tabIn (pc := 18) C dX11_pair_18 (tgt := 77) (by rw [g15]; decide) (by rw [g15]; decide) (by rw [g15]; rfl) (by decide) ?_
      refine J_aload_n (pc := 77) C dX11_pair_77 rfl 0 rfl ?_
      refine J_iload_n (pc := 78) C dX11_pair_78 rfl 1 rfl ?_
      obtain ⟨q16, h17, hf⟩ := bind_ok hf
      obtain ⟨_, g18, h17⟩ := cl_spec h17
      refine J_cV (S := []) (pc := 79) C dX11_pair_79 (c_X11_many _ _ _ h17) k_1111 ys_X11_many ⟨Nat.le_of_ble_eq_true rfl, Nat.le_of_ble_eq_true rfl⟩ ⟨Nat.le_of_ble_eq_true rfl, Nat.le_of_ble_eq_true rfl⟩ g18 rfl rfl (fun _ => Nat.le_of_ble_eq_true rfl) ?_
      refine J_aload_n (pc := 82) C dX11_pair_82 rfl 0 rfl ?_
      refine J_iload_n (pc := 83) C dX11_pair_83 rfl 2 rfl ?_
      obtain ⟨q19, h20, hf⟩ := bind_ok hf
      obtain ⟨_, g21, h20⟩ := cl_spec h20
      refine J_cV (S := [.int q16]) (pc := 84) C dX11_pair_84 (c_X11_many _ _ _ h20) k_1111 ys_X11_many ⟨Nat.le_of_ble_eq_true rfl, Nat.le_of_ble_eq_true rfl⟩ ⟨Nat.le_of_ble_eq_true rfl, Nat.le_of_ble_eq_true rfl⟩ g21 rfl rfl (fun _ => Nat.le_of_ble_eq_true rfl) ?_
      refine J_iadd (pc := 87) C dX11_pair_87 ?_
      refine J_iconst (pc := 88) C dX11_pair_88 (v := 2) (by decide) ?_
      refine J_aload_n (pc := 89) C dX11_pair_89 rfl 0 rfl ?_
      refine J_iload_n (pc := 90) C dX11_pair_90 rfl 1 rfl ?_
      refine J_iload_n (pc := 91) C dX11_pair_91 rfl 2 rfl ?_
      obtain ⟨q22, h23, hf⟩ := bind_ok hf
      obtain ⟨_, g24, h23⟩ := cl_spec h23
      refine J_cV (S := [.int (2 : Int32), .int (q16 + q19)]) (pc := 92) C dX11_pair_92 (c_X11_twins _ _ _ _ _ h23) k_1191 ys_X11_twins ⟨Nat.le_of_ble_eq_true rfl, Nat.le_of_ble_eq_true rfl⟩ ⟨Nat.le_of_ble_eq_true rfl, Nat.le_of_ble_eq_true rfl⟩ g24 rfl rfl (fun _ => Nat.le_of_ble_eq_true rfl) ?_
      refine J_imul (pc := 95) C dX11_pair_95 ?_
      refine J_isub (pc := 96) C dX11_pair_96 ?_
      exact J_iret (pc := 97) C  rfl rfl dX11_pair_97 hf
    refine J_case (v := 4) hf (fun g25 hf => ?_) (fun g25 hf => ?_)
    · refine J_tabIn (pc := 18) C dX11_pair_18 (tgt := 98) (by rw [g25]; decide) (by rw [g25]; decide) (by rw [g25]; rfl) (by decide) ?_
      refine J_aload_n (pc := 98) C dX11_pair_98 rfl 0 rfl ?_
      refine J_getI (pc := 99) C dX11_pair_99 (ci := 11) (k0 := 18) rfl iX11 (by decide) k_1021 hf (fun x26 hf => ?_)
      exact J_iret (pc := 102) C  rfl rfl dX11_pair_102 hf
    refine J_case (v := 5) hf (fun g27 hf => ?_) (fun g27 hf => ?_)
    · refine J_tabIn (pc := 18) C dX11_pair_18 (tgt := 103) (by rw [g27]; decide) (by rw [g27]; decide) (by rw [g27]; rfl) (by decide) ?_
      refine J_aload_n (pc := 103) C dX11_pair_103 rfl 0 rfl ?_
      refine J_iload_n (pc := 104) C dX11_pair_104 rfl 1 rfl ?_
      refine J_iload_n (pc := 105) C dX11_pair_105 rfl 2 rfl ?_
      obtain ⟨q28, h29, hf⟩ := bind_ok hf
      obtain ⟨_, g30, h29⟩ := cl_spec h29
      refine J_cV (S := []) (pc := 106) C dX11_pair_106 (c_X11_refusesJoin _ _ _ _ h29) k_1179 ys_X11_refusesJoin ⟨Nat.le_of_ble_eq_true rfl, Nat.le_of_ble_eq_true rfl⟩ ⟨Nat.le_of_ble_eq_true rfl, Nat.le_of_ble_eq_true rfl⟩ g30 rfl rfl (fun _ => Nat.le_of_ble_eq_true rfl) ?_
      refine J_if_ne (pc := 109) C dX11_pair_109 (tgt := 116) (by decide) hf (fun _ hf => ?_) (fun _ hf => ?_)
      · refine J_iconst (pc := 116) C dX11_pair_116 (v := 0) (by decide) ?_
        exact J_iret (pc := 117) C  rfl rfl dX11_pair_117 hf
      · refine J_iconst (pc := 112) C dX11_pair_112 (v := 1) (by decide) ?_
        refine J_goto (pc := 113) C dX11_pair_113 (tgt := 117) (by decide) ?_
        exact J_iret (pc := 117) C  rfl rfl dX11_pair_117 hf
    refine J_case (v := 6) hf (fun g31 hf => ?_) (fun g31 hf => ?_)
    · refine J_tabIn (pc := 18) C dX11_pair_18 (tgt := 118) (by rw [g31]; decide) (by rw [g31]; decide) (by rw [g31]; rfl) (by decide) ?_
      refine J_aload_n (pc := 118) C dX11_pair_118 rfl 0 rfl ?_
      refine J_iload_n (pc := 119) C dX11_pair_119 rfl 1 rfl ?_
      refine J_iload_n (pc := 120) C dX11_pair_120 rfl 2 rfl ?_
      obtain ⟨q32, h33, hf⟩ := bind_ok hf
      obtain ⟨_, g34, h33⟩ := cl_spec h33
      refine J_cV (S := []) (pc := 121) C dX11_pair_121 (c_X11_refusesMelt _ _ _ _ _ h33) k_1187 ys_X11_refusesMelt ⟨Nat.le_of_ble_eq_true rfl, Nat.le_of_ble_eq_true rfl⟩ ⟨Nat.le_of_ble_eq_true rfl, Nat.le_of_ble_eq_true rfl⟩ g34 rfl rfl (fun _ => Nat.le_of_ble_eq_true rfl) ?_
      refine J_if_ne (pc := 124) C dX11_pair_124 (tgt := 131) (by decide) hf (fun _ hf => ?_) (fun _ hf => ?_)
      · refine J_iconst (pc := 131) C dX11_pair_131 (v := 0) (by decide) ?_
        exact J_iret (pc := 132) C  rfl rfl dX11_pair_132 hf
      · refine J_iconst (pc := 127) C dX11_pair_127 (v := 1) (by decide) ?_
        refine J_goto (pc := 128) C dX11_pair_128 (tgt := 132) (by decide) ?_
        exact J_iret (pc := 132) C  rfl rfl dX11_pair_132 hf
    refine J_tabOut (pc := 18) C dX11_pair_18 (tgt := 133) (by have z0 := lv_neT g7 (k := 0) (a := 0) (by decide); have z1 := lv_neT g9 (k := 1) (a := 1) (by decide); have z2 := lv_neT g13 (k := 2) (a := 2) (by decide); have z3 := lv_neT g15 (k := 3) (a := 3) (by decide); have z4 := lv_neT g25 (k := 4) (a := 4) (by decide); have z5 := lv_neT g27 (k := 5) (a := 5) (by decide); have z6 := lv_neT g31 (k := 6) (a := 6) (by decide); omega) (by decide) ?_
    refine J_iconst (pc := 133) C dX11_pair_133 (v := -1) (by decide) ?_
    exact J_iret (pc := 134) C  rfl rfl dX11_pair_134 hf
  · refine J_iconst (pc := 9) C dX11_pair_9 (v := -1) (by decide) ?_
    exact J_iret (pc := 10) C  rfl rfl dX11_pair_10 hf
