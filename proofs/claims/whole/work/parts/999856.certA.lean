set_option maxRecDepth 100000 in
set_option maxHeartbeats 4000000 in
theorem c_X10_cut {l : Launch} {D : va_G} {dA : FieldType → ClassId} (fu : Nat) (w : MW) (v0 : Nat) (v1 : Int32) (v2 : Int32) (v3 : Int32) {rr : Int32} {w' : MW} (hf : f_X10_cut fu w v0 v1 v2 v3 = some (rr, w')) : CT l D dA yX10_cut cX10_cut 4 (some .int) rmX10_cut [.ref v0, .int v1, .int v2, .int v3] w (some (.int rr)) w' := by
  refine J_met (by decide) rfl (Nat.le_of_ble_eq_true rfl) (fun p e s m args below meth c A E C => ?_)
  rw [f_X10_cut] at hf
  refine J_sub [0, 1, 2, 3] (L1 := [(0, .ref v0), (1, .int v1), (2, .int v2), (3, .int v3)]) rfl ?_
  refine J_aload_n (pc := 0) C dX10_cut_0 rfl 0 rfl ?_
  refine J_getR (pc := 1) C dX10_cut_1 (ci := 10) (k0 := 1) rfl iX10 (by decide) k_369 hf (fun x1 hf => ?_)
  refine J_aload_n (pc := 4) C dX10_cut_4 rfl 0 rfl ?_
  refine J_getR (pc := 5) C dX10_cut_5 (ci := 10) (k0 := 0) rfl iX10 (by decide) k_368 hf (fun x2 hf => ?_)
  obtain ⟨q3, h4, hf⟩ := bind_ok hf
  obtain ⟨_, g5, h4⟩ := cl_spec h4
  refine J_cV (S := []) (pc := 8) C dX10_cut_8 (c_X3_prepare _ _ _ _ h4) k_694 ys_X3_prepare ⟨Nat.le_of_ble_eq_true rfl, Nat.le_of_ble_eq_true rfl⟩ ⟨Nat.le_of_ble_eq_true rfl, Nat.le_of_ble_eq_true rfl⟩ g5 rfl rfl (fun _ => Nat.le_of_ble_eq_true rfl) ?_
  refine J_aload_n (pc := 11) C dX10_cut_11 rfl 0 rfl ?_
  refine J_getR (pc := 12) C dX10_cut_12 (ci := 10) (k0 := 1) rfl iX10 (by decide) k_369 hf (fun x6 hf => ?_)
  refine J_aload_n (pc := 15) C dX10_cut_15 rfl 0 rfl ?_
  refine J_getR (pc := 16) C dX10_cut_16 (ci := 10) (k0 := 0) rfl iX10 (by decide) k_368 hf (fun x7 hf => ?_)
  refine J_iload_n (pc := 19) C dX10_cut_19 rfl 1 rfl ?_
  refine J_iload_n (pc := 20) C dX10_cut_20 rfl 2 rfl ?_
  refine J_iload_n (pc := 21) C dX10_cut_21 rfl 3 rfl ?_
  obtain ⟨q8, h9, hf⟩ := bind_ok hf
  obtain ⟨_, g10, h9⟩ := cl_spec h9
  refine J_cV (S := [.ref x6]) (pc := 22) C dX10_cut_22 (c_X7_cutAbove _ _ _ _ _ _ h9) k_718 ys_X7_cutAbove ⟨Nat.le_of_ble_eq_true rfl, Nat.le_of_ble_eq_true rfl⟩ ⟨Nat.le_of_ble_eq_true rfl, Nat.le_of_ble_eq_true rfl⟩ g10 rfl rfl (fun _ => Nat.le_of_ble_eq_true rfl) ?_
  obtain ⟨q11, h12, hf⟩ := bind_ok hf
  obtain ⟨_, g13, h12⟩ := cl_spec h12
  refine J_cV (S := []) (pc := 25) C dX10_cut_25 (c_X3_settle _ _ _ h12) k_700 ys_X3_settle ⟨Nat.le_of_ble_eq_true rfl, Nat.le_of_ble_eq_true rfl⟩ ⟨Nat.le_of_ble_eq_true rfl, Nat.le_of_ble_eq_true rfl⟩ g13 rfl rfl (fun _ => Nat.le_of_ble_eq_true rfl) ?_
  exact J_iret (pc := 28) C  rfl rfl dX10_cut_28 hf
set_option maxRecDepth 100000 in
set_option maxHeartbeats 4000000 in
theorem c_X10_join {l : Launch} {D : va_G} {dA : FieldType → ClassId} (fu : Nat) (w : MW) (v0 : Nat) (v1 : Int32) (v2 : Int32) {rr : Int32} {w' : MW} (hf : f_X10_join fu w v0 v1 v2 = some (rr, w')) : CT l D dA yX10_join cX10_join 3 (some .int) rmX10_join [.ref v0, .int v1, .int v2] w (some (.int rr)) w' := by
  refine J_met (by decide) rfl (Nat.le_of_ble_eq_true rfl) (fun p e s m args below meth c A E C => ?_)
  rw [f_X10_join] at hf
  refine J_sub [0, 1, 2] (L1 := [(0, .ref v0), (1, .int v1), (2, .int v2)]) rfl ?_
  refine J_aload_n (pc := 0) C dX10_join_0 rfl 0 rfl ?_
  refine J_getR (pc := 1) C dX10_join_1 (ci := 10) (k0 := 1) rfl iX10 (by decide) k_369 hf (fun x1 hf => ?_)
  refine J_aload_n (pc := 4) C dX10_join_4 rfl 0 rfl ?_
  refine J_getR (pc := 5) C dX10_join_5 (ci := 10) (k0 := 0) rfl iX10 (by decide) k_368 hf (fun x2 hf => ?_)
  obtain ⟨q3, h4, hf⟩ := bind_ok hf
  obtain ⟨_, g5, h4⟩ := cl_spec h4
  refine J_cV (S := []) (pc := 8) C dX10_join_8 (c_X3_prepare _ _ _ _ h4) k_694 ys_X3_prepare ⟨Nat.le_of_ble_eq_true rfl, Nat.le_of_ble_eq_true rfl⟩ ⟨Nat.le_of_ble_eq_true rfl, Nat.le_of_ble_eq_true rfl⟩ g5 rfl rfl (fun _ => Nat.le_of_ble_eq_true rfl) ?_
  refine J_aload_n (pc := 11) C dX10_join_11 rfl 0 rfl ?_
  refine J_getR (pc := 12) C dX10_join_12 (ci := 10) (k0 := 1) rfl iX10 (by decide) k_369 hf (fun x6 hf => ?_)
  refine J_aload_n (pc := 15) C dX10_join_15 rfl 0 rfl ?_
  refine J_getR (pc := 16) C dX10_join_16 (ci := 10) (k0 := 0) rfl iX10 (by decide) k_368 hf (fun x7 hf => ?_)
  refine J_iload_n (pc := 19) C dX10_join_19 rfl 1 rfl ?_
  refine J_iload_n (pc := 20) C dX10_join_20 rfl 2 rfl ?_
  obtain ⟨q8, h9, hf⟩ := bind_ok hf
  obtain ⟨_, g10, h9⟩ := cl_spec h9
  refine J_cV (S := [.ref x6]) (pc := 21) C dX10_join_21 (c_X7_joinTo _ _ _ _ _ h9) k_723 ys_X7_joinTo ⟨Nat.le_of_ble_eq_true rfl, Nat.le_of_ble_eq_true rfl⟩ ⟨Nat.le_of_ble_eq_true rfl, Nat.le_of_ble_eq_true rfl⟩ g10 rfl rfl (fun _ => Nat.le_of_ble_eq_true rfl) ?_
  obtain ⟨q11, h12, hf⟩ := bind_ok hf
  obtain ⟨_, g13, h12⟩ := cl_spec h12
  refine J_cV (S := []) (pc := 24) C dX10_join_24 (c_X3_settle _ _ _ h12) k_700 ys_X3_settle ⟨Nat.le_of_ble_eq_true rfl, Nat.le_of_ble_eq_true rfl⟩ ⟨Nat.le_of_ble_eq_true rfl, Nat.le_of_ble_eq_true rfl⟩ g13 rfl rfl (fun _ => Nat.le_of_ble_eq_true rfl) ?_
  exact J_iret (pc := 27) C  rfl rfl dX10_join_27 hf
set_option maxRecDepth 100000 in
set_option maxHeartbeats 4000000 in
theorem c_X10_melt {l : Launch} {D : va_G} {dA : FieldType → ClassId} (fu : Nat) (w : MW) (v0 : Nat) (v1 : Int32) (v2 : Int32) {rr : Int32} {w' : MW} (hf : f_X10_melt fu w v0 v1 v2 = some (rr, w')) : CT l D dA yX10_melt cX10_melt 3 (some .int) rmX10_melt [.ref v0, .int v1, .int v2] w (some (.int rr)) w' := by
  refine J_met (by decide) rfl (Nat.le_of_ble_eq_true rfl) (fun p e s m args below meth c A E C => ?_)
  rw [f_X10_melt] at hf
  refine J_sub [0, 1, 2] (L1 := [(0, .ref v0), (1, .int v1), (2, .int v2)]) rfl ?_
  refine J_aload_n (pc := 0) C dX10_melt_0 rfl 0 rfl ?_
  refine J_getR (pc := 1) C dX10_melt_1 (ci := 10) (k0 := 1) rfl iX10 (by decide) k_369 hf (fun x1 hf => ?_)
  refine J_aload_n (pc := 4) C dX10_melt_4 rfl 0 rfl ?_
  refine J_getR (pc := 5) C dX10_melt_5 (ci := 10) (k0 := 0) rfl iX10 (by decide) k_368 hf (fun x2 hf => ?_)
  obtain ⟨q3, h4, hf⟩ := bind_ok hf
  obtain ⟨_, g5, h4⟩ := cl_spec h4
  refine J_cV (S := []) (pc := 8) C dX10_melt_8 (c_X3_prepare _ _ _ _ h4) k_694 ys_X3_prepare ⟨Nat.le_of_ble_eq_true rfl, Nat.le_of_ble_eq_true rfl⟩ ⟨Nat.le_of_ble_eq_true rfl, Nat.le_of_ble_eq_true rfl⟩ g5 rfl rfl (fun _ => Nat.le_of_ble_eq_true rfl) ?_
  refine J_aload_n (pc := 11) C dX10_melt_11 rfl 0 rfl ?_
  refine J_getR (pc := 12) C dX10_melt_12 (ci := 10) (k0 := 1) rfl iX10 (by decide) k_369 hf (fun x6 hf => ?_)
  refine J_aload_n (pc := 15) C dX10_melt_15 rfl 0 rfl ?_
  refine J_getR (pc := 16) C dX10_melt_16 (ci := 10) (k0 := 0) rfl iX10 (by decide) k_368 hf (fun x7 hf => ?_)
  refine J_iload_n (pc := 19) C dX10_melt_19 rfl 1 rfl ?_
  refine J_iload_n (pc := 20) C dX10_melt_20 rfl 2 rfl ?_
  obtain ⟨q8, h9, hf⟩ := bind_ok hf
  obtain ⟨_, g10, h9⟩ := cl_spec h9
  refine J_cV (S := [.ref x6]) (pc := 21) C dX10_melt_21 (c_X7_meltTo _ _ _ _ _ h9) k_728 ys_X7_meltTo ⟨Nat.le_of_ble_eq_true rfl, Nat.le_of_ble_eq_true rfl⟩ ⟨Nat.le_of_ble_eq_true rfl, Nat.le_of_ble_eq_true rfl⟩ g10 rfl rfl (fun _ => Nat.le_of_ble_eq_true rfl) ?_
  obtain ⟨q11, h12, hf⟩ := bind_ok hf
  obtain ⟨_, g13, h12⟩ := cl_spec h12
  refine J_cV (S := []) (pc := 24) C dX10_melt_24 (c_X3_settle _ _ _ h12) k_700 ys_X3_settle ⟨Nat.le_of_ble_eq_true rfl, Nat.le_of_ble_eq_true rfl⟩ ⟨Nat.le_of_ble_eq_true rfl, Nat.le_of_ble_eq_true rfl⟩ g13 rfl rfl (fun _ => Nat.le_of_ble_eq_true rfl) ?_
  exact J_iret (pc := 27) C  rfl rfl dX10_melt_27 hf
set_option maxRecDepth 100000 in
set_option maxHeartbeats 4000000 in
theorem c_X10_shift {l : Launch} {D : va_G} {dA : FieldType → ClassId} (fu : Nat) (w : MW) (v0 : Nat) (v1 : Int32) (v2 : Int32) {rr : Int32} {w' : MW} (hf : f_X10_shift fu w v0 v1 v2 = some (rr, w')) : CT l D dA yX10_shift cX10_shift 3 (some .int) rmX10_shift [.ref v0, .int v1, .int v2] w (some (.int rr)) w' := by
  refine J_met (by decide) rfl (Nat.le_of_ble_eq_true rfl) (fun p e s m args below meth c A E C => ?_)
  rw [f_X10_shift] at hf
  refine J_sub [0, 1, 2] (L1 := [(0, .ref v0), (1, .int v1), (2, .int v2)]) rfl ?_
  refine J_aload_n (pc := 0) C dX10_shift_0 rfl 0 rfl ?_
  refine J_getR (pc := 1) C dX10_shift_1 (ci := 10) (k0 := 1) rfl iX10 (by decide) k_369 hf (fun x1 hf => ?_)
  refine J_aload_n (pc := 4) C dX10_shift_4 rfl 0 rfl ?_
  refine J_getR (pc := 5) C dX10_shift_5 (ci := 10) (k0 := 0) rfl iX10 (by decide) k_368 hf (fun x2 hf => ?_)
  obtain ⟨q3, h4, hf⟩ := bind_ok hf
  obtain ⟨_, g5, h4⟩ := cl_spec h4
  refine J_cV (S := []) (pc := 8) C dX10_shift_8 (c_X3_prepare _ _ _ _ h4) k_694 ys_X3_prepare ⟨Nat.le_of_ble_eq_true rfl, Nat.le_of_ble_eq_true rfl⟩ ⟨Nat.le_of_ble_eq_true rfl, Nat.le_of_ble_eq_true rfl⟩ g5 rfl rfl (fun _ => Nat.le_of_ble_eq_true rfl) ?_
  refine J_aload_n (pc := 11) C dX10_shift_11 rfl 0 rfl ?_
  refine J_getR (pc := 12) C dX10_shift_12 (ci := 10) (k0 := 1) rfl iX10 (by decide) k_369 hf (fun x6 hf => ?_)
  refine J_aload_n (pc := 15) C dX10_shift_15 rfl 0 rfl ?_
  refine J_getR (pc := 16) C dX10_shift_16 (ci := 10) (k0 := 0) rfl iX10 (by decide) k_368 hf (fun x7 hf => ?_)
  refine J_iload_n (pc := 19) C dX10_shift_19 rfl 1 rfl ?_
  refine J_iload_n (pc := 20) C dX10_shift_20 rfl 2 rfl ?_
  obtain ⟨q8, h9, hf⟩ := bind_ok hf
  obtain ⟨_, g10, h9⟩ := cl_spec h9
  refine J_cV (S := [.ref x6]) (pc := 21) C dX10_shift_21 (c_X7_shiftBy _ _ _ _ _ h9) k_733 ys_X7_shiftBy ⟨Nat.le_of_ble_eq_true rfl, Nat.le_of_ble_eq_true rfl⟩ ⟨Nat.le_of_ble_eq_true rfl, Nat.le_of_ble_eq_true rfl⟩ g10 rfl rfl (fun _ => Nat.le_of_ble_eq_true rfl) ?_
  obtain ⟨q11, h12, hf⟩ := bind_ok hf
  obtain ⟨_, g13, h12⟩ := cl_spec h12
  refine J_cV (S := []) (pc := 24) C dX10_shift_24 (c_X3_settle _ _ _ h12) k_700 ys_X3_settle ⟨Nat.le_of_ble_eq_true rfl, Nat.le_of_ble_eq_true rfl⟩ ⟨Nat.le_of_ble_eq_true rfl, Nat.le_of_ble_eq_true rfl⟩ g13 rfl rfl (fun _ => Nat.le_of_ble_eq_true rfl) ?_
  exact J_iret (pc := 27) C  rfl rfl dX10_shift_27 hf
set_option maxRecDepth 100000 in
set_option maxHeartbeats 4000000 in
theorem c_X10_move {l : Launch} {D : va_G} {dA : FieldType → ClassId} (fu : Nat) (w : MW) (v0 : Nat) (v1 : Int32) (v2 : Int32) (v3 : Int32) (v4 : Int32) {rr : Int32} {w' : MW} (hf : f_X10_move fu w v0 v1 v2 v3 v4 = some (rr, w')) : CT l D dA yX10_move cX10_move 5 (some .int) rmX10_move [.ref v0, .int v1, .int v2, .int v3, .int v4] w (some (.int rr)) w' := by
  refine J_met (by decide) rfl (Nat.le_of_ble_eq_true rfl) (fun p e s m args below meth c A E C => ?_)
  rw [f_X10_move] at hf
  refine J_sub [0, 1, 2, 3, 4] (L1 := [(0, .ref v0), (1, .int v1), (2, .int v2), (3, .int v3), (4, .int v4)]) rfl ?_
  refine J_aload_n (pc := 0) C dX10_move_0 rfl 0 rfl ?_
  refine J_getR (pc := 1) C dX10_move_1 (ci := 10) (k0 := 1) rfl iX10 (by decide) k_369 hf (fun x1 hf => ?_)
  refine J_aload_n (pc := 4) C dX10_move_4 rfl 0 rfl ?_
  refine J_getR (pc := 5) C dX10_move_5 (ci := 10) (k0 := 0) rfl iX10 (by decide) k_368 hf (fun x2 hf => ?_)
  obtain ⟨q3, h4, hf⟩ := bind_ok hf
  obtain ⟨_, g5, h4⟩ := cl_spec h4
  refine J_cV (S := []) (pc := 8) C dX10_move_8 (c_X3_prepare _ _ _ _ h4) k_694 ys_X3_prepare ⟨Nat.le_of_ble_eq_true rfl, Nat.le_of_ble_eq_true rfl⟩ ⟨Nat.le_of_ble_eq_true rfl, Nat.le_of_ble_eq_true rfl⟩ g5 rfl rfl (fun _ => Nat.le_of_ble_eq_true rfl) ?_
  refine J_aload_n (pc := 11) C dX10_move_11 rfl 0 rfl ?_
  refine J_getR (pc := 12) C dX10_move_12 (ci := 10) (k0 := 1) rfl iX10 (by decide) k_369 hf (fun x6 hf => ?_)
  refine J_aload_n (pc := 15) C dX10_move_15 rfl 0 rfl ?_
  refine J_getR (pc := 16) C dX10_move_16 (ci := 10) (k0 := 0) rfl iX10 (by decide) k_368 hf (fun x7 hf => ?_)
  refine J_iload_n (pc := 19) C dX10_move_19 rfl 1 rfl ?_
  refine J_iload_n (pc := 20) C dX10_move_20 rfl 2 rfl ?_
  refine J_iload_n (pc := 21) C dX10_move_21 rfl 3 rfl ?_
  refine J_iload (pc := 22) C dX10_move_22 4 rfl ?_
  obtain ⟨q8, h9, hf⟩ := bind_ok hf
  obtain ⟨_, g10, h9⟩ := cl_spec h9
  refine J_cV (S := [.ref x6]) (pc := 24) C dX10_move_24 (c_X7_moveStretch _ _ _ _ _ _ _ h9) k_738 ys_X7_moveStretch ⟨Nat.le_of_ble_eq_true rfl, Nat.le_of_ble_eq_true rfl⟩ ⟨Nat.le_of_ble_eq_true rfl, Nat.le_of_ble_eq_true rfl⟩ g10 rfl rfl (fun _ => Nat.le_of_ble_eq_true rfl) ?_
  obtain ⟨q11, h12, hf⟩ := bind_ok hf
  obtain ⟨_, g13, h12⟩ := cl_spec h12
  refine J_cV (S := []) (pc := 27) C dX10_move_27 (c_X3_settle _ _ _ h12) k_700 ys_X3_settle ⟨Nat.le_of_ble_eq_true rfl, Nat.le_of_ble_eq_true rfl⟩ ⟨Nat.le_of_ble_eq_true rfl, Nat.le_of_ble_eq_true rfl⟩ g13 rfl rfl (fun _ => Nat.le_of_ble_eq_true rfl) ?_
  exact J_iret (pc := 30) C  rfl rfl dX10_move_30 hf
set_option maxRecDepth 100000 in
set_option maxHeartbeats 4000000 in
theorem c_X10_mark {l : Launch} {D : va_G} {dA : FieldType → ClassId} (fu : Nat) (w : MW) (v0 : Nat) (v1 : Int32) (v2 : Int32) (v3 : Int32) (v4 : Int32) {rr : Int32} {w' : MW} (hf : f_X10_mark fu w v0 v1 v2 v3 v4 = some (rr, w')) : CT l D dA yX10_mark cX10_mark 5 (some .int) rmX10_mark [.ref v0, .int v1, .int v2, .int v3, .int v4] w (some (.int rr)) w' := by
  refine J_met (by decide) rfl (Nat.le_of_ble_eq_true rfl) (fun p e s m args below meth c A E C => ?_)
  have B32 : ∀ (w : MW) (s0 : Nat) (s1 : Nat) (s2 : Int32) (s3 : Int32) (s4 : Int32) (s5 : Int32), f_X10_mark_32 fu w s0 s1 s2 s3 s4 s5 = some (rr, w') → JW p l e rmX10_mark s m args below meth c 5 D dA A E (MQ below (Qr D dA E (some (.int rr)) w' A) args s 0 0 A) 0 0 32 [] [.int s5, .int s4, .int s3, .int s2, .ref s1, .ref s0] w := by
    intro w s0 s1 s2 s3 s4 s5 hf
    rw [f_X10_mark_32] at hf
    obtain ⟨q8, h9, hf⟩ := bind_ok hf
    obtain ⟨_, g10, h9⟩ := cl_spec h9
    refine J_cV (S := [.ref s0]) (pc := 32) C dX10_mark_32 (c_X7_markStretch _ _ _ _ _ _ _ h9) k_743 ys_X7_markStretch ⟨Nat.le_of_ble_eq_true rfl, Nat.le_of_ble_eq_true rfl⟩ ⟨Nat.le_of_ble_eq_true rfl, Nat.le_of_ble_eq_true rfl⟩ g10 rfl rfl (fun _ => Nat.le_of_ble_eq_true rfl) ?_
    obtain ⟨q11, h12, hf⟩ := bind_ok hf
    obtain ⟨_, g13, h12⟩ := cl_spec h12
    refine J_cV (S := []) (pc := 35) C dX10_mark_35 (c_X3_settle _ _ _ h12) k_700 ys_X3_settle ⟨Nat.le_of_ble_eq_true rfl, Nat.le_of_ble_eq_true rfl⟩ ⟨Nat.le_of_ble_eq_true rfl, Nat.le_of_ble_eq_true rfl⟩ g13 rfl rfl (fun _ => Nat.le_of_ble_eq_true rfl) ?_
    exact J_iret (pc := 38) C  rfl rfl dX10_mark_38 hf
  rw [f_X10_mark] at hf
  refine J_sub [0, 1, 2, 3, 4] (L1 := [(0, .ref v0), (1, .int v1), (2, .int v2), (3, .int v3), (4, .int v4)]) rfl ?_
  refine J_aload_n (pc := 0) C dX10_mark_0 rfl 0 rfl ?_
  refine J_getR (pc := 1) C dX10_mark_1 (ci := 10) (k0 := 1) rfl iX10 (by decide) k_369 hf (fun x1 hf => ?_)
  refine J_aload_n (pc := 4) C dX10_mark_4 rfl 0 rfl ?_
  refine J_getR (pc := 5) C dX10_mark_5 (ci := 10) (k0 := 0) rfl iX10 (by decide) k_368 hf (fun x2 hf => ?_)
  obtain ⟨q3, h4, hf⟩ := bind_ok hf
  obtain ⟨_, g5, h4⟩ := cl_spec h4
  refine J_cV (S := []) (pc := 8) C dX10_mark_8 (c_X3_prepare _ _ _ _ h4) k_694 ys_X3_prepare ⟨Nat.le_of_ble_eq_true rfl, Nat.le_of_ble_eq_true rfl⟩ ⟨Nat.le_of_ble_eq_true rfl, Nat.le_of_ble_eq_true rfl⟩ g5 rfl rfl (fun _ => Nat.le_of_ble_eq_true rfl) ?_
  refine J_aload_n (pc := 11) C dX10_mark_11 rfl 0 rfl ?_
  refine J_getR (pc := 12) C dX10_mark_12 (ci := 10) (k0 := 1) rfl iX10 (by decide) k_369 hf (fun x6 hf => ?_)
  refine J_aload_n (pc := 15) C dX10_mark_15 rfl 0 rfl ?_
  refine J_getR (pc := 16) C dX10_mark_16 (ci := 10) (k0 := 0) rfl iX10 (by decide) k_368 hf (fun x7 hf => ?_)
  refine J_iload_n (pc := 19) C dX10_mark_19 rfl 1 rfl ?_
  refine J_iload_n (pc := 20) C dX10_mark_20 rfl 2 rfl ?_
  refine J_iload_n (pc := 21) C dX10_mark_21 rfl 3 rfl ?_
  refine J_iload (pc := 22) C dX10_mark_22 4 rfl ?_
  refine J_if_ne (pc := 24) C dX10_mark_24 (tgt := 31) (by decide) hf (fun _ hf => ?_) (fun _ hf => ?_)
  · refine J_iconst (pc := 31) C dX10_mark_31 (v := 0) (by decide) ?_
    refine J_sub [] (L1 := []) rfl ?_
    exact B32 q3 x6 x7 v1 v2 v3 (0 : Int32) hf
  · refine J_iconst (pc := 27) C dX10_mark_27 (v := 1) (by decide) ?_
    refine J_goto (pc := 28) C dX10_mark_28 (tgt := 32) (by decide) ?_
    refine J_sub [] (L1 := []) rfl ?_
    exact B32 q3 x6 x7 v1 v2 v3 (1 : Int32) hf
set_option maxRecDepth 100000 in
set_option maxHeartbeats 4000000 in
theorem c_X10_seek {l : Launch} {D : va_G} {dA : FieldType → ClassId} (fu : Nat) (w : MW) (v0 : Nat) (v1 : Int32) (v2 : Int32) {rr : Int32} {w' : MW} (hf : f_X10_seek fu w v0 v1 v2 = some (rr, w')) : CT l D dA yX10_seek cX10_seek 3 (some .int) rmX10_seek [.ref v0, .int v1, .int v2] w (some (.int rr)) w' := by
  refine J_met (by decide) rfl (Nat.le_of_ble_eq_true rfl) (fun p e s m args below meth c A E C => ?_)
  rw [f_X10_seek] at hf
  refine J_sub [0, 1, 2] (L1 := [(0, .ref v0), (1, .int v1), (2, .int v2)]) rfl ?_
  refine J_aload_n (pc := 0) C dX10_seek_0 rfl 0 rfl ?_
  refine J_getR (pc := 1) C dX10_seek_1 (ci := 10) (k0 := 1) rfl iX10 (by decide) k_369 hf (fun x1 hf => ?_)
  refine J_aload_n (pc := 4) C dX10_seek_4 rfl 0 rfl ?_
  refine J_getR (pc := 5) C dX10_seek_5 (ci := 10) (k0 := 0) rfl iX10 (by decide) k_368 hf (fun x2 hf => ?_)
  obtain ⟨q3, h4, hf⟩ := bind_ok hf
  obtain ⟨_, g5, h4⟩ := cl_spec h4
  refine J_cV (S := []) (pc := 8) C dX10_seek_8 (c_X3_prepare _ _ _ _ h4) k_694 ys_X3_prepare ⟨Nat.le_of_ble_eq_true rfl, Nat.le_of_ble_eq_true rfl⟩ ⟨Nat.le_of_ble_eq_true rfl, Nat.le_of_ble_eq_true rfl⟩ g5 rfl rfl (fun _ => Nat.le_of_ble_eq_true rfl) ?_
  refine J_aload_n (pc := 11) C dX10_seek_11 rfl 0 rfl ?_
  refine J_getR (pc := 12) C dX10_seek_12 (ci := 10) (k0 := 1) rfl iX10 (by decide) k_369 hf (fun x6 hf => ?_)
  refine J_aload_n (pc := 15) C dX10_seek_15 rfl 0 rfl ?_
  refine J_getR (pc := 16) C dX10_seek_16 (ci := 10) (k0 := 0) rfl iX10 (by decide) k_368 hf (fun x7 hf => ?_)
  refine J_iload_n (pc := 19) C dX10_seek_19 rfl 1 rfl ?_
  refine J_iload_n (pc := 20) C dX10_seek_20 rfl 2 rfl ?_
  obtain ⟨q8, h9, hf⟩ := bind_ok hf
  obtain ⟨_, g10, h9⟩ := cl_spec h9
  refine J_cV (S := [.ref x6]) (pc := 21) C dX10_seek_21 (c_X7_seekFrom _ _ _ _ _ h9) k_748 ys_X7_seekFrom ⟨Nat.le_of_ble_eq_true rfl, Nat.le_of_ble_eq_true rfl⟩ ⟨Nat.le_of_ble_eq_true rfl, Nat.le_of_ble_eq_true rfl⟩ g10 rfl rfl (fun _ => Nat.le_of_ble_eq_true rfl) ?_
  obtain ⟨q11, h12, hf⟩ := bind_ok hf
  obtain ⟨_, g13, h12⟩ := cl_spec h12
  refine J_cV (S := []) (pc := 24) C dX10_seek_24 (c_X3_settle _ _ _ h12) k_700 ys_X3_settle ⟨Nat.le_of_ble_eq_true rfl, Nat.le_of_ble_eq_true rfl⟩ ⟨Nat.le_of_ble_eq_true rfl, Nat.le_of_ble_eq_true rfl⟩ g13 rfl rfl (fun _ => Nat.le_of_ble_eq_true rfl) ?_
  exact J_iret (pc := 27) C  rfl rfl dX10_seek_27 hf
set_option maxRecDepth 100000 in
set_option maxHeartbeats 4000000 in
theorem c_X10_undo {l : Launch} {D : va_G} {dA : FieldType → ClassId} (fu : Nat) (w : MW) (v0 : Nat) {rr : Int32} {w' : MW} (hf : f_X10_undo fu w v0 = some (rr, w')) : CT l D dA yX10_undo cX10_undo 1 (some .int) rmX10_undo [.ref v0] w (some (.int rr)) w' := by
  refine J_met (by decide) rfl (Nat.le_of_ble_eq_true rfl) (fun p e s m args below meth c A E C => ?_)
  rw [f_X10_undo] at hf
  refine J_sub [0] (L1 := [(0, .ref v0)]) rfl ?_
  refine J_aload_n (pc := 0) C dX10_undo_0 rfl 0 rfl ?_
  refine J_getR (pc := 1) C dX10_undo_1 (ci := 10) (k0 := 1) rfl iX10 (by decide) k_369 hf (fun x1 hf => ?_)
  refine J_getIN (pc := 4) C dX10_undo_4 (ci := 3) (k0 := 2) rfl iX3 (by decide) n_270 hf (fun x2 hf => ?_)
  refine J_if_ne (pc := 7) C dX10_undo_7 (tgt := 12) (by decide) hf (fun _ hf => ?_) (fun _ hf => ?_)
  · refine J_aload_n (pc := 12) C dX10_undo_12 rfl 0 rfl ?_
    refine J_getR (pc := 13) C dX10_undo_13 (ci := 10) (k0 := 1) rfl iX10 (by decide) k_369 hf (fun x3 hf => ?_)
    refine J_aload_n (pc := 16) C dX10_undo_16 rfl 0 rfl ?_
    refine J_getR (pc := 17) C dX10_undo_17 (ci := 10) (k0 := 0) rfl iX10 (by decide) k_368 hf (fun x4 hf => ?_)
    obtain ⟨q5, h6, hf⟩ := bind_ok hf
    obtain ⟨_, g7, h6⟩ := cl_spec h6
    refine J_cV (S := []) (pc := 20) C dX10_undo_20 (c_X3_stepBack _ _ _ _ h6) k_793 ys_X3_stepBack ⟨Nat.le_of_ble_eq_true rfl, Nat.le_of_ble_eq_true rfl⟩ ⟨Nat.le_of_ble_eq_true rfl, Nat.le_of_ble_eq_true rfl⟩ g7 rfl rfl (fun _ => Nat.le_of_ble_eq_true rfl) ?_
    refine J_aload_n (pc := 23) C dX10_undo_23 rfl 0 rfl ?_
    refine J_getR (pc := 24) C dX10_undo_24 (ci := 10) (k0 := 1) rfl iX10 (by decide) k_369 hf (fun x8 hf => ?_)
    refine J_getIN (pc := 27) C dX10_undo_27 (ci := 3) (k0 := 2) rfl iX3 (by decide) n_270 hf (fun x9 hf => ?_)
    exact J_iret (pc := 30) C  rfl rfl dX10_undo_30 hf
  · refine J_iconst (pc := 10) C dX10_undo_10 (v := -1) (by decide) ?_
    exact J_iret (pc := 11) C  rfl rfl dX10_undo_11 hf
set_option maxRecDepth 100000 in
set_option maxHeartbeats 4000000 in
theorem c_X10_set {l : Launch} {D : va_G} {dA : FieldType → ClassId} (fu : Nat) (w : MW) (v0 : Nat) (v1 : Int32) (v2 : Int32) {rr : Int32} {w' : MW} (hf : f_X10_set fu w v0 v1 v2 = some (rr, w')) : CT l D dA yX10_set cX10_set 4 (some .int) rmX10_set [.ref v0, .int v1, .int v2] w (some (.int rr)) w' := by
  refine J_met (by decide) rfl (Nat.le_of_ble_eq_true rfl) (fun p e s m args below meth c A E C => ?_)
  rw [f_X10_set] at hf
  refine J_sub [0, 1, 2] (L1 := [(0, .ref v0), (1, .int v1), (2, .int v2)]) rfl ?_
  refine J_aload_n (pc := 0) C dX10_set_0 rfl 0 rfl ?_
  refine J_getR (pc := 1) C dX10_set_1 (ci := 10) (k0 := 0) rfl iX10 (by decide) k_368 hf (fun x1 hf => ?_)
  refine J_iload_n (pc := 4) C dX10_set_4 rfl 1 rfl ?_
  obtain ⟨q2, h3, hf⟩ := bind_ok hf
  obtain ⟨_, g4, h3⟩ := cl_spec h3
  refine J_cV (S := []) (pc := 5) C dX10_set_5 (c_X7_heapAt _ _ _ h3) k_802 ys_X7_heapAt ⟨Nat.le_of_ble_eq_true rfl, Nat.le_of_ble_eq_true rfl⟩ ⟨Nat.le_of_ble_eq_true rfl, Nat.le_of_ble_eq_true rfl⟩ g4 rfl rfl (fun _ => Nat.le_of_ble_eq_true rfl) ?_
  cases q2 with
  | none =>
    refine J_astore_nN (pc := 8) C dX10_set_8 rfl (by decide) [(3, .null), (0, .ref v0), (1, .int v1), (2, .int v2)] rfl ?_
    refine J_aload_nN (pc := 9) C dX10_set_9 rfl 0 rfl ?_
    refine J_ifnonnullN (pc := 10) C dX10_set_10 ?_
    refine J_iconst (pc := 13) C dX10_set_13 (v := -1) (by decide) ?_
    exact J_iret (pc := 14) C  rfl rfl dX10_set_14 hf
  | some b5 =>
    refine J_astore_n (pc := 8) C dX10_set_8 rfl (by decide) [(3, .ref b5), (0, .ref v0), (1, .int v1), (2, .int v2)] rfl ?_
    refine J_aload_n (pc := 9) C dX10_set_9 rfl 0 rfl ?_
    refine J_ifnonnull (pc := 10) C dX10_set_10 (tgt := 15) (by decide) ?_
    refine J_iload_n (pc := 15) C dX10_set_15 rfl 3 rfl ?_
    refine J_case (v := 0) hf (fun g6 hf => ?_) (fun g6 hf => ?_)
    · refine J_tabIn (pc := 16) C dX10_set_16 (tgt := 76) (by rw [g6]; decide) (by rw [g6]; decide) (by rw [g6]; rfl) (by decide) ?_
      refine J_aload_n (pc := 76) C dX10_set_76 rfl 0 rfl ?_
      refine J_getIN (pc := 77) C dX10_set_77 (ci := 0) (k0 := 1) rfl iX0 (by decide) n_187 hf (fun x7 hf => ?_)
      exact J_iret (pc := 80) C  rfl rfl dX10_set_80 hf
    refine J_case (v := 1) hf (fun g8 hf => ?_) (fun g8 hf => ?_)
    · refine J_tabIn (pc := 16) C dX10_set_16 (tgt := 81) (by rw [g8]; decide) (by rw [g8]; decide) (by rw [g8]; rfl) (by decide) ?_
      refine J_aload_n (pc := 81) C dX10_set_81 rfl 0 rfl ?_
      refine J_iconst (pc := 82) C dX10_set_82 (v := 0) (by decide) ?_
      obtain ⟨q9, h10, hf⟩ := bind_ok hf
      obtain ⟨_, g11, h10⟩ := cl_spec h10
      refine J_cV (S := []) (pc := 83) C dX10_set_83 (c_X0_keyAt _ _ _ h10) k_803 ys_X0_keyAt ⟨Nat.le_of_ble_eq_true rfl, Nat.le_of_ble_eq_true rfl⟩ ⟨Nat.le_of_ble_eq_true rfl, Nat.le_of_ble_eq_true rfl⟩ g11 rfl rfl (fun _ => Nat.le_of_ble_eq_true rfl) ?_
      exact J_iret (pc := 86) C  rfl rfl dX10_set_86 hf
    refine J_case (v := 2) hf (fun g12 hf => ?_) (fun g12 hf => ?_)
    · refine J_tabIn (pc := 16) C dX10_set_16 (tgt := 87) (by rw [g12]; decide) (by rw [g12]; decide) (by rw [g12]; rfl) (by decide) ?_
      refine J_aload_n (pc := 87) C dX10_set_87 rfl 0 rfl ?_
      refine J_aload_n (pc := 88) C dX10_set_88 rfl 0 rfl ?_
      refine J_getIN (pc := 89) C dX10_set_89 (ci := 0) (k0 := 1) rfl iX0 (by decide) n_187 hf (fun x13 hf => ?_)
      refine J_iconst (pc := 92) C dX10_set_92 (v := 1) (by decide) ?_
      refine J_isub (pc := 93) C dX10_set_93 ?_
      obtain ⟨q14, h15, hf⟩ := bind_ok hf
      obtain ⟨_, g16, h15⟩ := cl_spec h15
      refine J_cV (S := []) (pc := 94) C dX10_set_94 (c_X0_keyAt _ _ _ h15) k_803 ys_X0_keyAt ⟨Nat.le_of_ble_eq_true rfl, Nat.le_of_ble_eq_true rfl⟩ ⟨Nat.le_of_ble_eq_true rfl, Nat.le_of_ble_eq_true rfl⟩ g16 rfl rfl (fun _ => Nat.le_of_ble_eq_true rfl) ?_
      exact J_iret (pc := 97) C  rfl rfl dX10_set_97 hf
    refine J_case (v := 3) hf (fun g17 hf => ?_) (fun g17 hf => ?_)
    · refine J_tabIn (pc := 16) C dX10_set_16 (tgt := 98) (by rw [g17]; decide) (by rw [g17]; decide) (by rw [g17]; rfl) (by decide) ?_
      refine J_aload_n (pc := 98) C dX10_set_98 rfl 0 rfl ?_
      refine J_iconst (pc := 99) C dX10_set_99 (v := 0) (by decide) ?_
      refine J_sipush (pc := 100) C dX10_set_100 (v := 9999) (by decide) ?_
      obtain ⟨q18, h19, hf⟩ := bind_ok hf
      obtain ⟨_, g20, h19⟩ := cl_spec h19
      refine J_cV (S := []) (pc := 103) C dX10_set_103 (c_X0_markedBetween _ _ _ _ _ h19) k_804 ys_X0_markedBetween ⟨Nat.le_of_ble_eq_true rfl, Nat.le_of_ble_eq_true rfl⟩ ⟨Nat.le_of_ble_eq_true rfl, Nat.le_of_ble_eq_true rfl⟩ g20 rfl rfl (fun _ => Nat.le_of_ble_eq_true rfl) ?_
      exact J_iret (pc := 106) C  rfl rfl dX10_set_106 hf
    refine J_case (v := 4) hf (fun g21 hf => ?_) (fun g21 hf => ?_)
    · refine J_tabIn (pc := 16) C dX10_set_16 (tgt := 107) (by rw [g21]; decide) (by rw [g21]; decide) (by rw [g21]; rfl) (by decide) ?_
      refine J_aload_n (pc := 107) C dX10_set_107 rfl 1 rfl ?_
      refine J_getR (pc := 108) C dX10_set_108 (ci := 10) (k0 := 0) rfl iX10 (by decide) k_368 hf (fun x22 hf => ?_)
      refine J_aload_n (pc := 111) C dX10_set_111 rfl 0 rfl ?_
      obtain ⟨q23, h24, hf⟩ := bind_ok hf
      obtain ⟨_, g25, h24⟩ := cl_spec h24
      refine J_cV (S := []) (pc := 112) C dX10_set_112 (c_X7_treeOf _ _ _ _ h24) k_812 ys_X7_treeOf ⟨Nat.le_of_ble_eq_true rfl, Nat.le_of_ble_eq_true rfl⟩ ⟨Nat.le_of_ble_eq_true rfl, Nat.le_of_ble_eq_true rfl⟩ g25 rfl rfl (fun _ => Nat.le_of_ble_eq_true rfl) ?_
      obtain ⟨q26, h27, hf⟩ := bind_ok hf
      obtain ⟨_, g28, h27⟩ := cl_spec h27
      refine J_cV (S := []) (pc := 115) C dX10_set_115 (c_X8_rootKey _ _ h27) k_813 ys_X8_rootKey ⟨Nat.le_of_ble_eq_true rfl, Nat.le_of_ble_eq_true rfl⟩ ⟨Nat.le_of_ble_eq_true rfl, Nat.le_of_ble_eq_true rfl⟩ g28 rfl rfl (fun _ => Nat.le_of_ble_eq_true rfl) ?_
      exact J_iret (pc := 118) C  rfl rfl dX10_set_118 hf
    refine J_case (v := 5) hf (fun g29 hf => ?_) (fun g29 hf => ?_)
    · refine J_tabIn (pc := 16) C dX10_set_16 (tgt := 119) (by rw [g29]; decide) (by rw [g29]; decide) (by rw [g29]; rfl) (by decide) ?_
      refine J_aload_n (pc := 119) C dX10_set_119 rfl 1 rfl ?_
      refine J_getR (pc := 120) C dX10_set_120 (ci := 10) (k0 := 0) rfl iX10 (by decide) k_368 hf (fun x30 hf => ?_)
      refine J_aload_n (pc := 123) C dX10_set_123 rfl 0 rfl ?_
      obtain ⟨q31, h32, hf⟩ := bind_ok hf
      obtain ⟨_, g33, h32⟩ := cl_spec h32
      refine J_cV (S := []) (pc := 124) C dX10_set_124 (c_X7_treeOf _ _ _ _ h32) k_812 ys_X7_treeOf ⟨Nat.le_of_ble_eq_true rfl, Nat.le_of_ble_eq_true rfl⟩ ⟨Nat.le_of_ble_eq_true rfl, Nat.le_of_ble_eq_true rfl⟩ g33 rfl rfl (fun _ => Nat.le_of_ble_eq_true rfl) ?_
      obtain ⟨q34, h35, hf⟩ := bind_ok hf
      obtain ⟨_, g36, h35⟩ := cl_spec h35
      refine J_cV (S := []) (pc := 127) C dX10_set_127 (c_X8_high _ _ _ h35) k_821 ys_X8_high ⟨Nat.le_of_ble_eq_true rfl, Nat.le_of_ble_eq_true rfl⟩ ⟨Nat.le_of_ble_eq_true rfl, Nat.le_of_ble_eq_true rfl⟩ g36 rfl rfl (fun _ => Nat.le_of_ble_eq_true rfl) ?_
      exact J_iret (pc := 130) C  rfl rfl dX10_set_130 hf
    refine J_case (v := 6) hf (fun g37 hf => ?_) (fun g37 hf => ?_)
    · refine J_tabIn (pc := 16) C dX10_set_16 (tgt := 131) (by rw [g37]; decide) (by rw [g37]; decide) (by rw [g37]; rfl) (by decide) ?_
      refine J_aload_n (pc := 131) C dX10_set_131 rfl 0 rfl ?_
      refine J_getIN (pc := 132) C dX10_set_132 (ci := 0) (k0 := 2) rfl iX0 (by decide) n_190 hf (fun x38 hf => ?_)
      exact J_iret (pc := 135) C  rfl rfl dX10_set_135 hf
    refine J_case (v := 7) hf (fun g39 hf => ?_) (fun g39 hf => ?_)
    · refine J_tabIn (pc := 16) C dX10_set_16 (tgt := 136) (by rw [g39]; decide) (by rw [g39]; decide) (by rw [g39]; rfl) (by decide) ?_
      refine J_aload_n (pc := 136) C dX10_set_136 rfl 0 rfl ?_
      obtain ⟨q40, h41, hf⟩ := bind_ok hf
      obtain ⟨_, g42, h41⟩ := cl_spec h41
      refine J_cV (S := []) (pc := 137) C dX10_set_137 (c_X0_leastDifference _ _ _ h41) k_825 ys_X0_leastDifference ⟨Nat.le_of_ble_eq_true rfl, Nat.le_of_ble_eq_true rfl⟩ ⟨Nat.le_of_ble_eq_true rfl, Nat.le_of_ble_eq_true rfl⟩ g42 rfl rfl (fun _ => Nat.le_of_ble_eq_true rfl) ?_
      exact J_iret (pc := 140) C  rfl rfl dX10_set_140 hf
    refine J_case (v := 8) hf (fun g43 hf => ?_) (fun g43 hf => ?_)
    · refine J_tabIn (pc := 16) C dX10_set_16 (tgt := 141) (by rw [g43]; decide) (by rw [g43]; decide) (by rw [g43]; rfl) (by decide) ?_
      refine J_aload_n (pc := 141) C dX10_set_141 rfl 1 rfl ?_
      refine J_getR (pc := 142) C dX10_set_142 (ci := 10) (k0 := 0) rfl iX10 (by decide) k_368 hf (fun x44 hf => ?_)
      refine J_aload_n (pc := 145) C dX10_set_145 rfl 0 rfl ?_
      obtain ⟨q45, h46, hf⟩ := bind_ok hf
      obtain ⟨_, g47, h46⟩ := cl_spec h46
      refine J_cV (S := []) (pc := 146) C dX10_set_146 (c_X7_treeOf _ _ _ _ h46) k_812 ys_X7_treeOf ⟨Nat.le_of_ble_eq_true rfl, Nat.le_of_ble_eq_true rfl⟩ ⟨Nat.le_of_ble_eq_true rfl, Nat.le_of_ble_eq_true rfl⟩ g47 rfl rfl (fun _ => Nat.le_of_ble_eq_true rfl) ?_
      obtain ⟨q48, h49, hf⟩ := bind_ok hf
      obtain ⟨_, g50, h49⟩ := cl_spec h49
      refine J_cV (S := []) (pc := 149) C dX10_set_149 (c_X8_allDepths _ _ _ h49) k_829 ys_X8_allDepths ⟨Nat.le_of_ble_eq_true rfl, Nat.le_of_ble_eq_true rfl⟩ ⟨Nat.le_of_ble_eq_true rfl, Nat.le_of_ble_eq_true rfl⟩ g50 rfl rfl (fun _ => Nat.le_of_ble_eq_true rfl) ?_
      exact J_iret (pc := 152) C  rfl rfl dX10_set_152 hf
    refine J_case (v := 9) hf (fun g51 hf => ?_) (fun g51 hf => ?_)
    · refine J_tabIn (pc := 16) C dX10_set_16 (tgt := 153) (by rw [g51]; decide) (by rw [g51]; decide) (by rw [g51]; rfl) (by decide) ?_
      refine J_aload_n (pc := 153) C dX10_set_153 rfl 0 rfl ?_
      obtain ⟨q52, h53, hf⟩ := bind_ok hf
      obtain ⟨_, g54, h53⟩ := cl_spec h53
      refine J_cV (S := []) (pc := 154) C dX10_set_154 (c_X0_stretches _ _ _ h53) k_833 ys_X0_stretches ⟨Nat.le_of_ble_eq_true rfl, Nat.le_of_ble_eq_true rfl⟩ ⟨Nat.le_of_ble_eq_true rfl, Nat.le_of_ble_eq_true rfl⟩ g54 rfl rfl (fun _ => Nat.le_of_ble_eq_true rfl) ?_
      exact J_iret (pc := 157) C  rfl rfl dX10_set_157 hf
    refine J_case (v := 10) hf (fun g55 hf => ?_) (fun g55 hf => ?_)
    · refine J_tabIn (pc := 16) C dX10_set_16 (tgt := 158) (by rw [g55]; decide) (by rw [g55]; decide) (by rw [g55]; rfl) (by decide) ?_
      refine J_aload_n (pc := 158) C dX10_set_158 rfl 0 rfl ?_
      obtain ⟨q56, h57, hf⟩ := bind_ok hf
      obtain ⟨_, g58, h57⟩ := cl_spec h57
      refine J_cV (S := []) (pc := 159) C dX10_set_159 (c_X0_sum _ _ _ h57) k_837 ys_X0_sum ⟨Nat.le_of_ble_eq_true rfl, Nat.le_of_ble_eq_true rfl⟩ ⟨Nat.le_of_ble_eq_true rfl, Nat.le_of_ble_eq_true rfl⟩ g58 rfl rfl (fun _ => Nat.le_of_ble_eq_true rfl) ?_
      exact J_iret (pc := 162) C  rfl rfl dX10_set_162 hf
    refine J_tabOut (pc := 16) C dX10_set_16 (tgt := 163) (by have z0 := lv_neT g6 (k := 0) (a := 0) (by decide); have z1 := lv_neT g8 (k := 1) (a := 1) (by decide); have z2 := lv_neT g12 (k := 2) (a := 2) (by decide); have z3 := lv_neT g17 (k := 3) (a := 3) (by decide); have z4 := lv_neT g21 (k := 4) (a := 4) (by decide); have z5 := lv_neT g29 (k := 5) (a := 5) (by decide); have z6 := lv_neT g37 (k := 6) (a := 6) (by decide); have z7 := lv_neT g39 (k := 7) (a := 7) (by decide); have z8 := lv_neT g43 (k := 8) (a := 8) (by decide); have z9 := lv_neT g51 (k := 9) (a := 9) (by decide); have z10 := lv_neT g55 (k := 10) (a := 10) (by decide); omega) (by decide) ?_
    refine J_iconst (pc := 163) C dX10_set_163 (v := -1) (by decide) ?_
    exact J_iret (pc := 164) C  rfl rfl dX10_set_164 hf
set_option maxRecDepth 100000 in
set_option maxHeartbeats 4000000 in
theorem c_X10_key {l : Launch} {D : va_G} {dA : FieldType → ClassId} (w : MW) (v0 : Nat) (v1 : Int32) (v2 : Int32) {rr : Int32} (hf : f_X10_key w v0 v1 v2 = some rr) : CT l D dA yX10_key cX10_key 4 (some .int) rmX10_key [.ref v0, .int v1, .int v2] w (some (.int rr)) w := by
  refine J_met (by decide) rfl (Nat.le_of_ble_eq_true rfl) (fun p e s m args below meth c A E C => ?_)
  rw [f_X10_key] at hf
  refine J_sub [0, 1, 2] (L1 := [(0, .ref v0), (1, .int v1), (2, .int v2)]) rfl ?_
  refine J_aload_n (pc := 0) C dX10_key_0 rfl 0 rfl ?_
  refine J_getR (pc := 1) C dX10_key_1 (ci := 10) (k0 := 0) rfl iX10 (by decide) k_368 hf (fun x1 hf => ?_)
  refine J_iload_n (pc := 4) C dX10_key_4 rfl 1 rfl ?_
  obtain ⟨q2, h3, hf⟩ := bind_ok hf
  obtain ⟨_, g4, h3⟩ := cl_spec h3
  refine J_cV (S := []) (pc := 5) C dX10_key_5 (c_X7_heapAt _ _ _ h3) k_802 ys_X7_heapAt ⟨Nat.le_of_ble_eq_true rfl, Nat.le_of_ble_eq_true rfl⟩ ⟨Nat.le_of_ble_eq_true rfl, Nat.le_of_ble_eq_true rfl⟩ g4 rfl rfl (fun _ => Nat.le_of_ble_eq_true rfl) ?_
  cases q2 with
  | none =>
    refine J_astore_nN (pc := 8) C dX10_key_8 rfl (by decide) [(3, .null), (0, .ref v0), (1, .int v1), (2, .int v2)] rfl ?_
    refine J_aload_nN (pc := 9) C dX10_key_9 rfl 0 rfl ?_
    refine J_ifnonnullN (pc := 10) C dX10_key_10 ?_
    refine J_iconst (pc := 13) C dX10_key_13 (v := -1) (by decide) ?_
    refine J_goto (pc := 14) C dX10_key_14 (tgt := 22) (by decide) ?_
    exact J_iretP (pc := 22) C  rfl rfl dX10_key_22 hf
  | some b5 =>
    refine J_astore_n (pc := 8) C dX10_key_8 rfl (by decide) [(3, .ref b5), (0, .ref v0), (1, .int v1), (2, .int v2)] rfl ?_
    refine J_aload_n (pc := 9) C dX10_key_9 rfl 0 rfl ?_
    refine J_ifnonnull (pc := 10) C dX10_key_10 (tgt := 17) (by decide) ?_
    refine J_aload_n (pc := 17) C dX10_key_17 rfl 0 rfl ?_
    refine J_iload_n (pc := 18) C dX10_key_18 rfl 3 rfl ?_
    obtain ⟨q6, h7, hf⟩ := bind_ok hf
    obtain ⟨_, g8, h7⟩ := cl_spec h7
    refine J_cV (S := []) (pc := 19) C dX10_key_19 (c_X0_keyAt _ _ _ h7) k_803 ys_X0_keyAt ⟨Nat.le_of_ble_eq_true rfl, Nat.le_of_ble_eq_true rfl⟩ ⟨Nat.le_of_ble_eq_true rfl, Nat.le_of_ble_eq_true rfl⟩ g8 rfl rfl (fun _ => Nat.le_of_ble_eq_true rfl) ?_
    exact J_iretP (pc := 22) C  rfl rfl dX10_key_22 hf
set_option maxRecDepth 100000 in
set_option maxHeartbeats 4000000 in
theorem c_X10_of {l : Launch} {D : va_G} {dA : FieldType → ClassId} (fu : Nat) (w : MW) (v0 : Nat) (v1 : Int32) (v2 : Int32) (v3 : Int32) {rr : Int32} {w' : MW} (hf : f_X10_of fu w v0 v1 v2 v3 = some (rr, w')) : CT l D dA yX10_of cX10_of 6 (some .int) rmX10_of [.ref v0, .int v1, .int v2, .int v3] w (some (.int rr)) w' := by
  refine J_met (by decide) rfl (Nat.le_of_ble_eq_true rfl) (fun p e s m args below meth c A E C => ?_)
  have B25 : ∀ (w : MW) (v0 : Nat) (v2 : Int32) (v3 : Int32) (s0 : Int32), f_X10_of_25 fu w v0 v2 v3 s0 = some (rr, w') → JW p l e rmX10_of s m args below meth c 6 D dA A E (MQ below (Qr D dA E (some (.int rr)) w' A) args s 0 0 A) 0 0 25 [(0, .ref v0), (2, .int v2), (3, .int v3), (4, .null)] [.int s0] w := by
    intro w v0 v2 v3 s0 hf
    rw [f_X10_of_25] at hf
    refine J_istore (pc := 25) C dX10_of_25 (by decide) hf (fun q => [(5, .int q), (0, .ref v0), (2, .int v2), (3, .int v3), (4, .null)]) (fun _ => rfl) (fun x6 hf => ?_)
    refine J_aloadN (pc := 27) C dX10_of_27 4 rfl ?_
    refine J_ifnullN (pc := 29) C dX10_of_29 (tgt := 38) (by decide) ?_
    refine J_iconst (pc := 38) C dX10_of_38 (v := -1) (by decide) ?_
    exact J_iret (pc := 39) C  rfl rfl dX10_of_39 hf
  have B25_1 : ∀ (w : MW) (v0 : Nat) (v2 : Int32) (v3 : Int32) (v4 : Nat) (s0 : Int32), f_X10_of_25_1 fu w v0 v2 v3 v4 s0 = some (rr, w') → JW p l e rmX10_of s m args below meth c 6 D dA A E (MQ below (Qr D dA E (some (.int rr)) w' A) args s 0 0 A) 0 0 25 [(0, .ref v0), (2, .int v2), (3, .int v3), (4, .ref v4)] [.int s0] w := by
    intro w v0 v2 v3 v4 s0 hf
    rw [f_X10_of_25_1] at hf
    refine J_istore (pc := 25) C dX10_of_25 (by decide) hf (fun q => [(5, .int q), (0, .ref v0), (2, .int v2), (3, .int v3), (4, .ref v4)]) (fun _ => rfl) (fun x10 hf => ?_)
    refine J_aload (pc := 27) C dX10_of_27 4 rfl ?_
    refine J_ifnull (pc := 29) C dX10_of_29 ?_
    refine J_iload (pc := 32) C dX10_of_32 0 rfl ?_
    refine J_iconst (pc := 34) C dX10_of_34 (v := -1) (by decide) ?_
    refine J_icmp_ne (pc := 35) C dX10_of_35 (tgt := 40) (by decide) hf (fun _ hf => ?_) (fun _ hf => ?_)
    · refine J_iload_n (pc := 40) C dX10_of_40 rfl 3 rfl ?_
      refine J_case (v := 0) hf (fun g11 hf => ?_) (fun g11 hf => ?_)
      · refine J_tabIn (pc := 41) C dX10_of_41 (tgt := 88) (by rw [g11]; decide) (by rw [g11]; decide) (by rw [g11]; rfl) (by decide) ?_
        refine J_iload (pc := 88) C dX10_of_88 0 rfl ?_
        exact J_iret (pc := 90) C  rfl rfl dX10_of_90 hf
      refine J_case (v := 1) hf (fun g12 hf => ?_) (fun g12 hf => ?_)
      · refine J_tabIn (pc := 41) C dX10_of_41 (tgt := 91) (by rw [g12]; decide) (by rw [g12]; decide) (by rw [g12]; rfl) (by decide) ?_
        refine J_aload (pc := 91) C dX10_of_91 4 rfl ?_
        refine J_iload (pc := 93) C dX10_of_93 0 rfl ?_
        obtain ⟨q13, h14, hf⟩ := bind_ok hf
        obtain ⟨_, g15, h14⟩ := cl_spec h14
        refine J_cV (S := []) (pc := 95) C dX10_of_95 (c_X0_markAt _ _ _ h14) k_850 ys_X0_markAt ⟨Nat.le_of_ble_eq_true rfl, Nat.le_of_ble_eq_true rfl⟩ ⟨Nat.le_of_ble_eq_true rfl, Nat.le_of_ble_eq_true rfl⟩ g15 rfl rfl (fun _ => Nat.le_of_ble_eq_true rfl) ?_
        exact J_iret (pc := 98) C  rfl rfl dX10_of_98 hf
      refine J_case (v := 2) hf (fun g16 hf => ?_) (fun g16 hf => ?_)
      · refine J_tabIn (pc := 41) C dX10_of_41 (tgt := 99) (by rw [g16]; decide) (by rw [g16]; decide) (by rw [g16]; rfl) (by decide) ?_
        refine J_aload_n (pc := 99) C dX10_of_99 rfl 1 rfl ?_
        refine J_getR (pc := 100) C dX10_of_100 (ci := 10) (k0 := 0) rfl iX10 (by decide) k_368 hf (fun x17 hf => ?_)
        refine J_aload (pc := 103) C dX10_of_103 4 rfl ?_
        obtain ⟨q18, h19, hf⟩ := bind_ok hf
        obtain ⟨_, g20, h19⟩ := cl_spec h19
        refine J_cV (S := []) (pc := 105) C dX10_of_105 (c_X7_treeOf _ _ _ _ h19) k_812 ys_X7_treeOf ⟨Nat.le_of_ble_eq_true rfl, Nat.le_of_ble_eq_true rfl⟩ ⟨Nat.le_of_ble_eq_true rfl, Nat.le_of_ble_eq_true rfl⟩ g20 rfl rfl (fun _ => Nat.le_of_ble_eq_true rfl) ?_
        refine J_iload (pc := 108) C dX10_of_108 0 rfl ?_
        obtain ⟨q21, h22, hf⟩ := bind_ok hf
        obtain ⟨_, g23, h22⟩ := cl_spec h22
        refine J_cV (S := []) (pc := 110) C dX10_of_110 (c_X8_depthAt _ _ _ h22) k_851 ys_X8_depthAt ⟨Nat.le_of_ble_eq_true rfl, Nat.le_of_ble_eq_true rfl⟩ ⟨Nat.le_of_ble_eq_true rfl, Nat.le_of_ble_eq_true rfl⟩ g23 rfl rfl (fun _ => Nat.le_of_ble_eq_true rfl) ?_
        exact J_iret (pc := 113) C  rfl rfl dX10_of_113 hf
      refine J_case (v := 3) hf (fun g24 hf => ?_) (fun g24 hf => ?_)
      · refine J_tabIn (pc := 41) C dX10_of_41 (tgt := 114) (by rw [g24]; decide) (by rw [g24]; decide) (by rw [g24]; rfl) (by decide) ?_
        refine J_aload_n (pc := 114) C dX10_of_114 rfl 1 rfl ?_
        refine J_getR (pc := 115) C dX10_of_115 (ci := 10) (k0 := 0) rfl iX10 (by decide) k_368 hf (fun x25 hf => ?_)
        refine J_aload (pc := 118) C dX10_of_118 4 rfl ?_
        obtain ⟨q26, h27, hf⟩ := bind_ok hf
        obtain ⟨_, g28, h27⟩ := cl_spec h27
        refine J_cV (S := []) (pc := 120) C dX10_of_120 (c_X7_treeOf _ _ _ _ h27) k_812 ys_X7_treeOf ⟨Nat.le_of_ble_eq_true rfl, Nat.le_of_ble_eq_true rfl⟩ ⟨Nat.le_of_ble_eq_true rfl, Nat.le_of_ble_eq_true rfl⟩ g28 rfl rfl (fun _ => Nat.le_of_ble_eq_true rfl) ?_
        refine J_iload (pc := 123) C dX10_of_123 0 rfl ?_
        obtain ⟨q29, h30, hf⟩ := bind_ok hf
        obtain ⟨_, g31, h30⟩ := cl_spec h30
        refine J_cV (S := []) (pc := 125) C dX10_of_125 (c_X8_keyAbove _ _ _ h30) k_855 ys_X8_keyAbove ⟨Nat.le_of_ble_eq_true rfl, Nat.le_of_ble_eq_true rfl⟩ ⟨Nat.le_of_ble_eq_true rfl, Nat.le_of_ble_eq_true rfl⟩ g31 rfl rfl (fun _ => Nat.le_of_ble_eq_true rfl) ?_
        exact J_iret (pc := 128) C  rfl rfl dX10_of_128 hf
      refine J_case (v := 4) hf (fun g32 hf => ?_) (fun g32 hf => ?_)
      · refine J_tabIn (pc := 41) C dX10_of_41 (tgt := 129) (by rw [g32]; decide) (by rw [g32]; decide) (by rw [g32]; rfl) (by decide) ?_
        refine J_aload_n (pc := 129) C dX10_of_129 rfl 1 rfl ?_
        refine J_getR (pc := 130) C dX10_of_130 (ci := 10) (k0 := 0) rfl iX10 (by decide) k_368 hf (fun x33 hf => ?_)
        refine J_aload (pc := 133) C dX10_of_133 4 rfl ?_
        obtain ⟨q34, h35, hf⟩ := bind_ok hf
        obtain ⟨_, g36, h35⟩ := cl_spec h35
        refine J_cV (S := []) (pc := 135) C dX10_of_135 (c_X7_treeOf _ _ _ _ h35) k_812 ys_X7_treeOf ⟨Nat.le_of_ble_eq_true rfl, Nat.le_of_ble_eq_true rfl⟩ ⟨Nat.le_of_ble_eq_true rfl, Nat.le_of_ble_eq_true rfl⟩ g36 rfl rfl (fun _ => Nat.le_of_ble_eq_true rfl) ?_
        refine J_iload (pc := 138) C dX10_of_138 0 rfl ?_
        obtain ⟨q37, h38, hf⟩ := bind_ok hf
        obtain ⟨_, g39, h38⟩ := cl_spec h38
        refine J_cV (S := []) (pc := 140) C dX10_of_140 (c_X8_keyAtLeft _ _ _ h38) k_859 ys_X8_keyAtLeft ⟨Nat.le_of_ble_eq_true rfl, Nat.le_of_ble_eq_true rfl⟩ ⟨Nat.le_of_ble_eq_true rfl, Nat.le_of_ble_eq_true rfl⟩ g39 rfl rfl (fun _ => Nat.le_of_ble_eq_true rfl) ?_
        exact J_iret (pc := 143) C  rfl rfl dX10_of_143 hf
      refine J_case (v := 5) hf (fun g40 hf => ?_) (fun g40 hf => ?_)
      · refine J_tabIn (pc := 41) C dX10_of_41 (tgt := 144) (by rw [g40]; decide) (by rw [g40]; decide) (by rw [g40]; rfl) (by decide) ?_
        refine J_aload_n (pc := 144) C dX10_of_144 rfl 1 rfl ?_
        refine J_getR (pc := 145) C dX10_of_145 (ci := 10) (k0 := 0) rfl iX10 (by decide) k_368 hf (fun x41 hf => ?_)
        refine J_aload (pc := 148) C dX10_of_148 4 rfl ?_
        obtain ⟨q42, h43, hf⟩ := bind_ok hf
        obtain ⟨_, g44, h43⟩ := cl_spec h43
        refine J_cV (S := []) (pc := 150) C dX10_of_150 (c_X7_treeOf _ _ _ _ h43) k_812 ys_X7_treeOf ⟨Nat.le_of_ble_eq_true rfl, Nat.le_of_ble_eq_true rfl⟩ ⟨Nat.le_of_ble_eq_true rfl, Nat.le_of_ble_eq_true rfl⟩ g44 rfl rfl (fun _ => Nat.le_of_ble_eq_true rfl) ?_
        refine J_iload (pc := 153) C dX10_of_153 0 rfl ?_
        obtain ⟨q45, h46, hf⟩ := bind_ok hf
        obtain ⟨_, g47, h46⟩ := cl_spec h46
        refine J_cV (S := []) (pc := 155) C dX10_of_155 (c_X8_keyAtRight _ _ _ h46) k_863 ys_X8_keyAtRight ⟨Nat.le_of_ble_eq_true rfl, Nat.le_of_ble_eq_true rfl⟩ ⟨Nat.le_of_ble_eq_true rfl, Nat.le_of_ble_eq_true rfl⟩ g47 rfl rfl (fun _ => Nat.le_of_ble_eq_true rfl) ?_
        exact J_iret (pc := 158) C  rfl rfl dX10_of_158 hf
      refine J_case (v := 6) hf (fun g48 hf => ?_) (fun g48 hf => ?_)
      · refine J_tabIn (pc := 41) C dX10_of_41 (tgt := 159) (by rw [g48]; decide) (by rw [g48]; decide) (by rw [g48]; rfl) (by decide) ?_
        refine J_iload_n (pc := 159) C dX10_of_159 rfl 2 rfl ?_
        refine J_cS (S := []) (pc := 160) C dX10_of_160 (c_X10_priority _ _ rfl) k_867 ys_X10_priority ⟨Nat.le_of_ble_eq_true rfl, Nat.le_of_ble_eq_true rfl⟩ ⟨Nat.le_of_ble_eq_true rfl, Nat.le_of_ble_eq_true rfl⟩ rfl rfl (fun _ => Nat.le_of_ble_eq_true rfl) ?_
        exact J_iret (pc := 163) C  rfl rfl dX10_of_163 hf
      refine J_case (v := 7) hf (fun g49 hf => ?_) (fun g49 hf => ?_)
      · refine J_tabIn (pc := 41) C dX10_of_41 (tgt := 164) (by rw [g49]; decide) (by rw [g49]; decide) (by rw [g49]; rfl) (by decide) ?_
        refine J_aload_n (pc := 164) C dX10_of_164 rfl 1 rfl ?_
        refine J_getR (pc := 165) C dX10_of_165 (ci := 10) (k0 := 0) rfl iX10 (by decide) k_368 hf (fun x50 hf => ?_)
        refine J_aload (pc := 168) C dX10_of_168 4 rfl ?_
        obtain ⟨q51, h52, hf⟩ := bind_ok hf
        obtain ⟨_, g53, h52⟩ := cl_spec h52
        refine J_cV (S := []) (pc := 170) C dX10_of_170 (c_X7_treeOf _ _ _ _ h52) k_812 ys_X7_treeOf ⟨Nat.le_of_ble_eq_true rfl, Nat.le_of_ble_eq_true rfl⟩ ⟨Nat.le_of_ble_eq_true rfl, Nat.le_of_ble_eq_true rfl⟩ g53 rfl rfl (fun _ => Nat.le_of_ble_eq_true rfl) ?_
        refine J_iload (pc := 173) C dX10_of_173 0 rfl ?_
        obtain ⟨q54, h55, hf⟩ := bind_ok hf
        obtain ⟨_, g56, h55⟩ := cl_spec h55
        refine J_cV (S := []) (pc := 175) C dX10_of_175 (c_X8_howManyBelow _ _ _ h55) k_868 ys_X8_howManyBelow ⟨Nat.le_of_ble_eq_true rfl, Nat.le_of_ble_eq_true rfl⟩ ⟨Nat.le_of_ble_eq_true rfl, Nat.le_of_ble_eq_true rfl⟩ g56 rfl rfl (fun _ => Nat.le_of_ble_eq_true rfl) ?_
        exact J_iret (pc := 178) C  rfl rfl dX10_of_178 hf
      refine J_tabOut (pc := 41) C dX10_of_41 (tgt := 179) (by have z0 := lv_neT g11 (k := 0) (a := 0) (by decide); have z1 := lv_neT g12 (k := 1) (a := 1) (by decide); have z2 := lv_neT g16 (k := 2) (a := 2) (by decide); have z3 := lv_neT g24 (k := 3) (a := 3) (by decide); have z4 := lv_neT g32 (k := 4) (a := 4) (by decide); have z5 := lv_neT g40 (k := 5) (a := 5) (by decide); have z6 := lv_neT g48 (k := 6) (a := 6) (by decide); have z7 := lv_neT g49 (k := 7) (a := 7) (by decide); omega) (by decide) ?_
      refine J_iconst (pc := 179) C dX10_of_179 (v := -1) (by decide) ?_
      exact J_iret (pc := 180) C  rfl rfl dX10_of_180 hf
    · refine J_iconst (pc := 38) C dX10_of_38 (v := -1) (by decide) ?_
      exact J_iret (pc := 39) C  rfl rfl dX10_of_39 hf
  rw [f_X10_of] at hf
  refine J_sub [0, 1, 2, 3] (L1 := [(0, .ref v0), (1, .int v1), (2, .int v2), (3, .int v3)]) rfl ?_
  refine J_aload_n (pc := 0) C dX10_of_0 rfl 0 rfl ?_
  refine J_getR (pc := 1) C dX10_of_1 (ci := 10) (k0 := 0) rfl iX10 (by decide) k_368 hf (fun x1 hf => ?_)
  refine J_iload_n (pc := 4) C dX10_of_4 rfl 1 rfl ?_
  obtain ⟨q2, h3, hf⟩ := bind_ok hf
  obtain ⟨_, g4, h3⟩ := cl_spec h3
  refine J_cV (S := []) (pc := 5) C dX10_of_5 (c_X7_heapAt _ _ _ h3) k_802 ys_X7_heapAt ⟨Nat.le_of_ble_eq_true rfl, Nat.le_of_ble_eq_true rfl⟩ ⟨Nat.le_of_ble_eq_true rfl, Nat.le_of_ble_eq_true rfl⟩ g4 rfl rfl (fun _ => Nat.le_of_ble_eq_true rfl) ?_
  cases q2 with
  | none =>
    refine J_astoreN (pc := 8) C dX10_of_8 (by decide) [(4, .null), (0, .ref v0), (1, .int v1), (2, .int v2), (3, .int v3)] rfl ?_
    refine J_aloadN (pc := 10) C dX10_of_10 0 rfl ?_
    refine J_ifnonnullN (pc := 12) C dX10_of_12 ?_
    refine J_iconst (pc := 15) C dX10_of_15 (v := -1) (by decide) ?_
    refine J_goto (pc := 16) C dX10_of_16 (tgt := 25) (by decide) ?_
    refine J_sub [1, 3, 4, 0] (L1 := [(0, .ref v0), (2, .int v2), (3, .int v3), (4, .null)]) rfl ?_
    exact B25 w v0 v2 v3 (-1 : Int32) hf
  | some b5 =>
    refine J_astore (pc := 8) C dX10_of_8 (by decide) [(4, .ref b5), (0, .ref v0), (1, .int v1), (2, .int v2), (3, .int v3)] rfl ?_
    refine J_aload (pc := 10) C dX10_of_10 0 rfl ?_
    refine J_ifnonnull (pc := 12) C dX10_of_12 (tgt := 19) (by decide) ?_
    refine J_aload (pc := 19) C dX10_of_19 0 rfl ?_
    refine J_iload_n (pc := 21) C dX10_of_21 rfl 3 rfl ?_
    obtain ⟨q7, h8, hf⟩ := bind_ok hf
    obtain ⟨_, g9, h8⟩ := cl_spec h8
    refine J_cV (S := []) (pc := 22) C dX10_of_22 (c_X0_rankOf _ _ _ _ h8) k_849 ys_X0_rankOf ⟨Nat.le_of_ble_eq_true rfl, Nat.le_of_ble_eq_true rfl⟩ ⟨Nat.le_of_ble_eq_true rfl, Nat.le_of_ble_eq_true rfl⟩ g9 rfl rfl (fun _ => Nat.le_of_ble_eq_true rfl) ?_
    refine J_sub [1, 3, 4, 0] (L1 := [(0, .ref v0), (2, .int v2), (3, .int v3), (4, .ref b5)]) rfl ?_
    exact B25_1 w v0 v2 v3 b5 q7 hf
set_option maxRecDepth 100000 in
set_option maxHeartbeats 4000000 in
theorem c_X10_within {l : Launch} {D : va_G} {dA : FieldType → ClassId} (fu : Nat) (w : MW) (v0 : Nat) (v1 : Int32) (v2 : Int32) (v3 : Int32) (v4 : Int32) {rr : Int32} (hf : f_X10_within fu w v0 v1 v2 v3 v4 = some rr) : CT l D dA yX10_within cX10_within 6 (some .int) rmX10_within [.ref v0, .int v1, .int v2, .int v3, .int v4] w (some (.int rr)) w := by
  refine J_met (by decide) rfl (Nat.le_of_ble_eq_true rfl) (fun p e s m args below meth c A E C => ?_)
  rw [f_X10_within] at hf
  refine J_sub [0, 1, 2, 3, 4] (L1 := [(0, .ref v0), (1, .int v1), (2, .int v2), (3, .int v3), (4, .int v4)]) rfl ?_
  refine J_aload_n (pc := 0) C dX10_within_0 rfl 0 rfl ?_
  refine J_getR (pc := 1) C dX10_within_1 (ci := 10) (k0 := 0) rfl iX10 (by decide) k_368 hf (fun x1 hf => ?_)
  refine J_iload_n (pc := 4) C dX10_within_4 rfl 1 rfl ?_
  obtain ⟨q2, h3, hf⟩ := bind_ok hf
  obtain ⟨_, g4, h3⟩ := cl_spec h3
  refine J_cV (S := []) (pc := 5) C dX10_within_5 (c_X7_heapAt _ _ _ h3) k_802 ys_X7_heapAt ⟨Nat.le_of_ble_eq_true rfl, Nat.le_of_ble_eq_true rfl⟩ ⟨Nat.le_of_ble_eq_true rfl, Nat.le_of_ble_eq_true rfl⟩ g4 rfl rfl (fun _ => Nat.le_of_ble_eq_true rfl) ?_
  cases q2 with
  | none =>
    refine J_astoreN (pc := 8) C dX10_within_8 (by decide) [(5, .null), (0, .ref v0), (1, .int v1), (2, .int v2), (3, .int v3), (4, .int v4)] rfl ?_
    refine J_aloadN (pc := 10) C dX10_within_10 0 rfl ?_
    refine J_ifnonnullN (pc := 12) C dX10_within_12 ?_
    refine J_iconst (pc := 15) C dX10_within_15 (v := -1) (by decide) ?_
    exact J_iretP (pc := 16) C  rfl rfl dX10_within_16 hf
  | some b5 =>
    refine J_astore (pc := 8) C dX10_within_8 (by decide) [(5, .ref b5), (0, .ref v0), (1, .int v1), (2, .int v2), (3, .int v3), (4, .int v4)] rfl ?_
    refine J_aload (pc := 10) C dX10_within_10 0 rfl ?_
    refine J_ifnonnull (pc := 12) C dX10_within_12 (tgt := 17) (by decide) ?_
    refine J_iload (pc := 17) C dX10_within_17 5 rfl ?_
    refine J_if_eq (pc := 19) C dX10_within_19 (tgt := 32) (by decide) hf (fun _ hf => ?_) (fun _ hf => ?_)
    · refine J_aload (pc := 32) C dX10_within_32 0 rfl ?_
      refine J_iload_n (pc := 34) C dX10_within_34 rfl 3 rfl ?_
      refine J_iload_n (pc := 35) C dX10_within_35 rfl 4 rfl ?_
      obtain ⟨q6, h7, hf⟩ := bind_ok hf
      obtain ⟨_, g8, h7⟩ := cl_spec h7
      refine J_cV (S := []) (pc := 36) C dX10_within_36 (c_X0_howManyBetween _ _ _ _ _ h7) k_876 ys_X0_howManyBetween ⟨Nat.le_of_ble_eq_true rfl, Nat.le_of_ble_eq_true rfl⟩ ⟨Nat.le_of_ble_eq_true rfl, Nat.le_of_ble_eq_true rfl⟩ g8 rfl rfl (fun _ => Nat.le_of_ble_eq_true rfl) ?_
      exact J_iretP (pc := 39) C  rfl rfl dX10_within_39 hf
    · refine J_aload (pc := 22) C dX10_within_22 0 rfl ?_
      refine J_iload_n (pc := 24) C dX10_within_24 rfl 3 rfl ?_
      refine J_iload_n (pc := 25) C dX10_within_25 rfl 4 rfl ?_
      obtain ⟨q9, h10, hf⟩ := bind_ok hf
      obtain ⟨_, g11, h10⟩ := cl_spec h10
      refine J_cV (S := []) (pc := 26) C dX10_within_26 (c_X0_markedBetween _ _ _ _ _ h10) k_804 ys_X0_markedBetween ⟨Nat.le_of_ble_eq_true rfl, Nat.le_of_ble_eq_true rfl⟩ ⟨Nat.le_of_ble_eq_true rfl, Nat.le_of_ble_eq_true rfl⟩ g11 rfl rfl (fun _ => Nat.le_of_ble_eq_true rfl) ?_
      refine J_goto (pc := 29) C dX10_within_29 (tgt := 39) (by decide) ?_
      exact J_iretP (pc := 39) C  rfl rfl dX10_within_39 hf
set_option maxRecDepth 100000 in
set_option maxHeartbeats 4000000 in
theorem c_X10_far {l : Launch} {D : va_G} {dA : FieldType → ClassId} (fu : Nat) (w : MW) (v0 : Nat) (v1 : Int32) (v2 : Int32) (v3 : Int32) {rr : Int32} {w' : MW} (hf : f_X10_far fu w v0 v1 v2 v3 = some (rr, w')) : CT l D dA yX10_far cX10_far 5 (some .int) rmX10_far [.ref v0, .int v1, .int v2, .int v3] w (some (.int rr)) w' := by
  refine J_met (by decide) rfl (Nat.le_of_ble_eq_true rfl) (fun p e s m args below meth c A E C => ?_)
  rw [f_X10_far] at hf
  refine J_sub [0, 1, 2, 3] (L1 := [(0, .ref v0), (1, .int v1), (2, .int v2), (3, .int v3)]) rfl ?_
  refine J_aload_n (pc := 0) C dX10_far_0 rfl 0 rfl ?_
  refine J_getR (pc := 1) C dX10_far_1 (ci := 10) (k0 := 0) rfl iX10 (by decide) k_368 hf (fun x1 hf => ?_)
  refine J_iload_n (pc := 4) C dX10_far_4 rfl 1 rfl ?_
  obtain ⟨q2, h3, hf⟩ := bind_ok hf
  obtain ⟨_, g4, h3⟩ := cl_spec h3
  refine J_cV (S := []) (pc := 5) C dX10_far_5 (c_X7_heapAt _ _ _ h3) k_802 ys_X7_heapAt ⟨Nat.le_of_ble_eq_true rfl, Nat.le_of_ble_eq_true rfl⟩ ⟨Nat.le_of_ble_eq_true rfl, Nat.le_of_ble_eq_true rfl⟩ g4 rfl rfl (fun _ => Nat.le_of_ble_eq_true rfl) ?_
  cases q2 with
  | none =>
    refine J_astoreN (pc := 8) C dX10_far_8 (by decide) [(4, .null), (0, .ref v0), (1, .int v1), (2, .int v2), (3, .int v3)] rfl ?_
    refine J_aloadN (pc := 10) C dX10_far_10 0 rfl ?_
    refine J_ifnonnullN (pc := 12) C dX10_far_12 ?_
    refine J_iconst (pc := 15) C dX10_far_15 (v := -1) (by decide) ?_
    refine J_goto (pc := 16) C dX10_far_16 (tgt := 43) (by decide) ?_
    exact J_iret (pc := 43) C  rfl rfl dX10_far_43 hf
  | some b5 =>
    refine J_astore (pc := 8) C dX10_far_8 (by decide) [(4, .ref b5), (0, .ref v0), (1, .int v1), (2, .int v2), (3, .int v3)] rfl ?_
    refine J_aload (pc := 10) C dX10_far_10 0 rfl ?_
    refine J_ifnonnull (pc := 12) C dX10_far_12 (tgt := 19) (by decide) ?_
    refine J_aload_n (pc := 19) C dX10_far_19 rfl 1 rfl ?_
    refine J_getR (pc := 20) C dX10_far_20 (ci := 10) (k0 := 0) rfl iX10 (by decide) k_368 hf (fun x6 hf => ?_)
    refine J_aload (pc := 23) C dX10_far_23 0 rfl ?_
    obtain ⟨q7, h8, hf⟩ := bind_ok hf
    obtain ⟨_, g9, h8⟩ := cl_spec h8
    refine J_cV (S := []) (pc := 25) C dX10_far_25 (c_X7_treeOf _ _ _ _ h8) k_812 ys_X7_treeOf ⟨Nat.le_of_ble_eq_true rfl, Nat.le_of_ble_eq_true rfl⟩ ⟨Nat.le_of_ble_eq_true rfl, Nat.le_of_ble_eq_true rfl⟩ g9 rfl rfl (fun _ => Nat.le_of_ble_eq_true rfl) ?_
    refine J_aload (pc := 28) C dX10_far_28 0 rfl ?_
    refine J_iload_n (pc := 30) C dX10_far_30 rfl 3 rfl ?_
    obtain ⟨q10, h11, hf⟩ := bind_ok hf
    obtain ⟨_, g12, h11⟩ := cl_spec h11
    refine J_cV (S := [.ref q7.1]) (pc := 31) C dX10_far_31 (c_X0_rankOf _ _ _ _ h11) k_849 ys_X0_rankOf ⟨Nat.le_of_ble_eq_true rfl, Nat.le_of_ble_eq_true rfl⟩ ⟨Nat.le_of_ble_eq_true rfl, Nat.le_of_ble_eq_true rfl⟩ g12 rfl rfl (fun _ => Nat.le_of_ble_eq_true rfl) ?_
    refine J_aload (pc := 34) C dX10_far_34 0 rfl ?_
    refine J_iload_n (pc := 36) C dX10_far_36 rfl 4 rfl ?_
    obtain ⟨q13, h14, hf⟩ := bind_ok hf
    obtain ⟨_, g15, h14⟩ := cl_spec h14
    refine J_cV (S := [.int q10, .ref q7.1]) (pc := 37) C dX10_far_37 (c_X0_rankOf _ _ _ _ h14) k_849 ys_X0_rankOf ⟨Nat.le_of_ble_eq_true rfl, Nat.le_of_ble_eq_true rfl⟩ ⟨Nat.le_of_ble_eq_true rfl, Nat.le_of_ble_eq_true rfl⟩ g15 rfl rfl (fun _ => Nat.le_of_ble_eq_true rfl) ?_
    obtain ⟨q16, h17, hf⟩ := bind_ok hf
    obtain ⟨_, g18, h17⟩ := cl_spec h17
    refine J_cV (S := []) (pc := 40) C dX10_far_40 (c_X8_steps _ _ _ _ _ h17) k_881 ys_X8_steps ⟨Nat.le_of_ble_eq_true rfl, Nat.le_of_ble_eq_true rfl⟩ ⟨Nat.le_of_ble_eq_true rfl, Nat.le_of_ble_eq_true rfl⟩ g18 rfl rfl (fun _ => Nat.le_of_ble_eq_true rfl) ?_
    exact J_iret (pc := 43) C  rfl rfl dX10_far_43 hf
set_option maxRecDepth 100000 in
set_option maxHeartbeats 4000000 in
theorem c_X10_where {l : Launch} {D : va_G} {dA : FieldType → ClassId} (fu : Nat) (w : MW) (v0 : Nat) (v1 : Int32) {rr : Int32} (hf : f_X10_where fu w v0 v1 = some rr) : CT l D dA yX10_where cX10_where 4 (some .int) rmX10_where [.ref v0, .int v1] w (some (.int rr)) w := by
  refine J_met (by decide) rfl (Nat.le_of_ble_eq_true rfl) (fun p e s m args below meth c A E C => ?_)
  have B33 : ∀ (lr4 : Nat → Int32 → Int32 → Int32 → Option Int32) (lh4 : ∀ (v0 : Nat) (v1 : Int32) (v2 : Int32) (v3 : Int32), lr4 v0 v1 v2 v3 = some rr → JW p l e rmX10_where s m args below meth c 4 D dA A E (MQ below (Qr D dA E (some (.int rr)) w A) args s 0 0 A) 0 0 4 [(0, .ref v0), (1, .int v1), (2, .int v2), (3, .int v3)] [] w) (v0 : Nat) (v1 : Int32) (v2 : Int32) (v3 : Int32), f_X10_where_33 fu w lr4 v0 v1 v2 v3 = some rr → JW p l e rmX10_where s m args below meth c 4 D dA A E (MQ below (Qr D dA E (some (.int rr)) w A) args s 0 0 A) 0 0 33 [(0, .ref v0), (1, .int v1), (2, .int v2), (3, .int v3)] [] w := by
    intro lr4 lh4 v0 v1 v2 v3 hf
    rw [f_X10_where_33] at hf
    refine J_iinc (pc := 33) C dX10_where_33 3 rfl (y := v3 + 1) rfl (by decide) hf (fun q => [(3, .int q), (0, .ref v0), (1, .int v1), (2, .int v2)]) (fun _ => rfl) (fun x9 hf => ?_)
    refine J_goto (pc := 36) C dX10_where_36 (tgt := 4) (by decide) ?_
    refine J_sub [1, 2, 3, 0] (L1 := [(0, .ref v0), (1, .int v1), (2, .int v2), (3, .int x9)]) rfl ?_
    exact lh4 v0 v1 v2 x9 hf
  have B4 : ∀ (n : Nat) (v0 : Nat) (v1 : Int32) (v2 : Int32) (v3 : Int32), f_X10_where_4 fu w n v0 v1 v2 v3 = some rr → JW p l e rmX10_where s m args below meth c 4 D dA A E (MQ below (Qr D dA E (some (.int rr)) w A) args s 0 0 A) 0 0 4 [(0, .ref v0), (1, .int v1), (2, .int v2), (3, .int v3)] [] w := by
    intro n
    induction n with
    | zero => intro v0 v1 v2 v3 hf; rw [f_X10_where_4] at hf; cases hf
    | succ n ih =>
      intro v0 v1 v2 v3 hf
      rw [f_X10_where_4] at hf
      refine J_iload_n (pc := 4) C dX10_where_4 rfl 3 rfl ?_
      refine J_bipush (pc := 5) C dX10_where_5 (v := 8) (by decide) ?_
      refine J_icmp_ge (pc := 7) C dX10_where_7 (tgt := 39) (by decide) hf (fun _ hf => ?_) (fun _ hf => ?_)
      · refine J_iload_n (pc := 39) C dX10_where_39 rfl 2 rfl ?_
        exact J_iretP (pc := 40) C  rfl rfl dX10_where_40 hf
      · refine J_aload_n (pc := 10) C dX10_where_10 rfl 0 rfl ?_
        refine J_getR (pc := 11) C dX10_where_11 (ci := 10) (k0 := 0) rfl iX10 (by decide) k_368 hf (fun x3 hf => ?_)
        refine J_getRN (pc := 14) C dX10_where_14 (ci := 7) (k0 := 0) rfl iX7 (by decide) n_214 hf (fun x4 hf => ?_)
        refine J_iload_n (pc := 17) C dX10_where_17 rfl 3 rfl ?_
        refine J_aald (Cn := RX0) (pc := 18) C 3 (fun _ => rfl) dX10_where_18 hf (fun x5 hf => ?_)
        refine J_iload_n (pc := 19) C dX10_where_19 rfl 1 rfl ?_
        obtain ⟨q6, h7, hf⟩ := bind_ok hf
        obtain ⟨_, g8, h7⟩ := cl_spec h7
        refine J_cV (S := []) (pc := 20) C dX10_where_20 (c_X0_rankOf _ _ _ _ h7) k_849 ys_X0_rankOf ⟨Nat.le_of_ble_eq_true rfl, Nat.le_of_ble_eq_true rfl⟩ ⟨Nat.le_of_ble_eq_true rfl, Nat.le_of_ble_eq_true rfl⟩ g8 rfl rfl (fun _ => Nat.le_of_ble_eq_true rfl) ?_
        refine J_iconst (pc := 23) C dX10_where_23 (v := -1) (by decide) ?_
        refine J_icmp_eq (pc := 24) C dX10_where_24 (tgt := 33) (by decide) hf (fun _ hf => ?_) (fun _ hf => ?_)
        · refine J_sub [0, 1, 2, 3] (L1 := [(0, .ref v0), (1, .int v1), (2, .int v2), (3, .int v3)]) rfl ?_
          exact B33 (f_X10_where_4 fu w n) ih v0 v1 v2 v3 hf
        · refine J_iload_n (pc := 27) C dX10_where_27 rfl 2 rfl ?_
          refine J_iconst (pc := 28) C dX10_where_28 (v := 1) (by decide) ?_
          refine J_iload_n (pc := 29) C dX10_where_29 rfl 3 rfl ?_
          refine J_ishl (pc := 30) C dX10_where_30 ?_
          refine J_ior (pc := 31) C dX10_where_31 ?_
          refine J_istore_n (pc := 32) C dX10_where_32 rfl (by decide) hf (fun q => [(2, .int q), (0, .ref v0), (1, .int v1), (3, .int v3)]) (fun _ => rfl) (fun x10 hf => ?_)
          refine J_sub [1, 2, 0, 3] (L1 := [(0, .ref v0), (1, .int v1), (2, .int x10), (3, .int v3)]) rfl ?_
          exact B33 (f_X10_where_4 fu w n) ih v0 v1 x10 v3 hf
  rw [f_X10_where] at hf
  refine J_sub [0, 1] (L1 := [(0, .ref v0), (1, .int v1)]) rfl ?_
  refine J_iconst (pc := 0) C dX10_where_0 (v := 0) (by decide) ?_
  refine J_istore_n (pc := 1) C dX10_where_1 rfl (by decide) hf (fun q => [(2, .int q), (0, .ref v0), (1, .int v1)]) (fun _ => rfl) (fun x1 hf => ?_)
  refine J_iconst (pc := 2) C dX10_where_2 (v := 0) (by decide) ?_
  refine J_istore_n (pc := 3) C dX10_where_3 rfl (by decide) hf (fun q => [(3, .int q), (2, .int x1), (0, .ref v0), (1, .int v1)]) (fun _ => rfl) (fun x2 hf => ?_)
  refine J_sub [2, 3, 1, 0] (L1 := [(0, .ref v0), (1, .int v1), (2, .int x1), (3, .int x2)]) rfl ?_
  exact B4 fu v0 v1 x1 x2 hf
set_option maxRecDepth 100000 in
set_option maxHeartbeats 4000000 in
theorem c_X10_count {l : Launch} {D : va_G} {dA : FieldType → ClassId} (fu : Nat) (w : MW) (v0 : Nat) (v1 : Int32) {rr : Int32} {w' : MW} (hf : f_X10_count fu w v0 v1 = some (rr, w')) : CT l D dA yX10_count cX10_count 2 (some .int) rmX10_count [.ref v0, .int v1] w (some (.int rr)) w' := by
  refine J_met (by decide) rfl (Nat.le_of_ble_eq_true rfl) (fun p e s m args below meth c A E C => ?_)
  rw [f_X10_count] at hf
  refine J_sub [0, 1] (L1 := [(0, .ref v0), (1, .int v1)]) rfl ?_
  refine J_iload_n (pc := 0) C dX10_count_0 rfl 1 rfl ?_
  refine J_case (v := 0) hf (fun g1 hf => ?_) (fun g1 hf => ?_)
  · refine J_tabIn (pc := 1) C dX10_count_1 (tgt := 48) (by rw [g1]; decide) (by rw [g1]; decide) (by rw [g1]; rfl) (by decide) ?_
    refine J_aload_n (pc := 48) C dX10_count_48 rfl 0 rfl ?_
    refine J_getR (pc := 49) C dX10_count_49 (ci := 10) (k0 := 0) rfl iX10 (by decide) k_368 hf (fun x2 hf => ?_)
    obtain ⟨q3, h4, hf⟩ := bind_ok hf
    obtain ⟨_, g5, h4⟩ := cl_spec h4
    refine J_cV (S := []) (pc := 52) C dX10_count_52 (c_X7_total _ _ _ h4) k_685 ys_X7_total ⟨Nat.le_of_ble_eq_true rfl, Nat.le_of_ble_eq_true rfl⟩ ⟨Nat.le_of_ble_eq_true rfl, Nat.le_of_ble_eq_true rfl⟩ g5 rfl rfl (fun _ => Nat.le_of_ble_eq_true rfl) ?_
    exact J_iret (pc := 55) C  rfl rfl dX10_count_55 hf
  refine J_case (v := 1) hf (fun g6 hf => ?_) (fun g6 hf => ?_)
  · refine J_tabIn (pc := 1) C dX10_count_1 (tgt := 56) (by rw [g6]; decide) (by rw [g6]; decide) (by rw [g6]; rfl) (by decide) ?_
    refine J_aload_n (pc := 56) C dX10_count_56 rfl 0 rfl ?_
    refine J_getR (pc := 57) C dX10_count_57 (ci := 10) (k0 := 0) rfl iX10 (by decide) k_368 hf (fun x7 hf => ?_)
    obtain ⟨q8, h9, hf⟩ := bind_ok hf
    obtain ⟨_, g10, h9⟩ := cl_spec h9
    refine J_cV (S := []) (pc := 60) C dX10_count_60 (c_X7_notEmpty _ _ _ h9) k_890 ys_X7_notEmpty ⟨Nat.le_of_ble_eq_true rfl, Nat.le_of_ble_eq_true rfl⟩ ⟨Nat.le_of_ble_eq_true rfl, Nat.le_of_ble_eq_true rfl⟩ g10 rfl rfl (fun _ => Nat.le_of_ble_eq_true rfl) ?_
    exact J_iret (pc := 63) C  rfl rfl dX10_count_63 hf
  refine J_case (v := 2) hf (fun g11 hf => ?_) (fun g11 hf => ?_)
  · refine J_tabIn (pc := 1) C dX10_count_1 (tgt := 64) (by rw [g11]; decide) (by rw [g11]; decide) (by rw [g11]; rfl) (by decide) ?_
    refine J_aload_n (pc := 64) C dX10_count_64 rfl 0 rfl ?_
    refine J_getR (pc := 65) C dX10_count_65 (ci := 10) (k0 := 0) rfl iX10 (by decide) k_368 hf (fun x12 hf => ?_)
    obtain ⟨q13, h14, hf⟩ := bind_ok hf
    obtain ⟨_, g15, h14⟩ := cl_spec h14
    refine J_cV (S := []) (pc := 68) C dX10_count_68 (c_X7_unlike _ _ _ h14) k_894 ys_X7_unlike ⟨Nat.le_of_ble_eq_true rfl, Nat.le_of_ble_eq_true rfl⟩ ⟨Nat.le_of_ble_eq_true rfl, Nat.le_of_ble_eq_true rfl⟩ g15 rfl rfl (fun _ => Nat.le_of_ble_eq_true rfl) ?_
    exact J_iret (pc := 71) C  rfl rfl dX10_count_71 hf
  refine J_case (v := 3) hf (fun g16 hf => ?_) (fun g16 hf => ?_)
  · refine J_tabIn (pc := 1) C dX10_count_1 (tgt := 72) (by rw [g16]; decide) (by rw [g16]; decide) (by rw [g16]; rfl) (by decide) ?_
    refine J_aload_n (pc := 72) C dX10_count_72 rfl 0 rfl ?_
    refine J_getR (pc := 73) C dX10_count_73 (ci := 10) (k0 := 0) rfl iX10 (by decide) k_368 hf (fun x17 hf => ?_)
    obtain ⟨q18, h19, hf⟩ := bind_ok hf
    obtain ⟨_, g20, h19⟩ := cl_spec h19
    refine J_cV (S := []) (pc := 76) C dX10_count_76 (c_X7_allMarked _ _ _ h19) k_907 ys_X7_allMarked ⟨Nat.le_of_ble_eq_true rfl, Nat.le_of_ble_eq_true rfl⟩ ⟨Nat.le_of_ble_eq_true rfl, Nat.le_of_ble_eq_true rfl⟩ g20 rfl rfl (fun _ => Nat.le_of_ble_eq_true rfl) ?_
    exact J_iret (pc := 79) C  rfl rfl dX10_count_79 hf
  refine J_case (v := 4) hf (fun g21 hf => ?_) (fun g21 hf => ?_)
  · refine J_tabIn (pc := 1) C dX10_count_1 (tgt := 80) (by rw [g21]; decide) (by rw [g21]; decide) (by rw [g21]; rfl) (by decide) ?_
    refine J_aload_n (pc := 80) C dX10_count_80 rfl 0 rfl ?_
    refine J_getR (pc := 81) C dX10_count_81 (ci := 10) (k0 := 1) rfl iX10 (by decide) k_369 hf (fun x22 hf => ?_)
    refine J_getIN (pc := 84) C dX10_count_84 (ci := 3) (k0 := 2) rfl iX3 (by decide) n_270 hf (fun x23 hf => ?_)
    exact J_iret (pc := 87) C  rfl rfl dX10_count_87 hf
  refine J_case (v := 5) hf (fun g24 hf => ?_) (fun g24 hf => ?_)
  · refine J_tabIn (pc := 1) C dX10_count_1 (tgt := 88) (by rw [g24]; decide) (by rw [g24]; decide) (by rw [g24]; rfl) (by decide) ?_
    refine J_aload_n (pc := 88) C dX10_count_88 rfl 0 rfl ?_
    refine J_getR (pc := 89) C dX10_count_89 (ci := 10) (k0 := 2) rfl iX10 (by decide) k_370 hf (fun x25 hf => ?_)
    refine J_getIN (pc := 92) C dX10_count_92 (ci := 4) (k0 := 1) rfl iX4 (by decide) n_286 hf (fun x26 hf => ?_)
    exact J_iret (pc := 95) C  rfl rfl dX10_count_95 hf
  refine J_case (v := 6) hf (fun g27 hf => ?_) (fun g27 hf => ?_)
  · refine J_tabIn (pc := 1) C dX10_count_1 (tgt := 96) (by rw [g27]; decide) (by rw [g27]; decide) (by rw [g27]; rfl) (by decide) ?_
    refine J_aload_n (pc := 96) C dX10_count_96 rfl 0 rfl ?_
    refine J_getR (pc := 97) C dX10_count_97 (ci := 10) (k0 := 0) rfl iX10 (by decide) k_368 hf (fun x28 hf => ?_)
    obtain ⟨q29, h30, hf⟩ := bind_ok hf
    obtain ⟨_, g31, h30⟩ := cl_spec h30
    refine J_cV (S := []) (pc := 100) C dX10_count_100 (c_X7_huffman _ _ _ h30) k_912 ys_X7_huffman ⟨Nat.le_of_ble_eq_true rfl, Nat.le_of_ble_eq_true rfl⟩ ⟨Nat.le_of_ble_eq_true rfl, Nat.le_of_ble_eq_true rfl⟩ g31 rfl rfl (fun _ => Nat.le_of_ble_eq_true rfl) ?_
    exact J_iret (pc := 103) C  rfl rfl dX10_count_103 hf
  refine J_case (v := 7) hf (fun g32 hf => ?_) (fun g32 hf => ?_)
  · refine J_tabIn (pc := 1) C dX10_count_1 (tgt := 104) (by rw [g32]; decide) (by rw [g32]; decide) (by rw [g32]; rfl) (by decide) ?_
    refine J_aload_n (pc := 104) C dX10_count_104 rfl 0 rfl ?_
    refine J_getR (pc := 105) C dX10_count_105 (ci := 10) (k0 := 3) rfl iX10 (by decide) k_371 hf (fun x33 hf => ?_)
    refine J_getIN (pc := 108) C dX10_count_108 (ci := 4) (k0 := 1) rfl iX4 (by decide) n_286 hf (fun x34 hf => ?_)
    exact J_iret (pc := 111) C  rfl rfl dX10_count_111 hf
  refine J_tabOut (pc := 1) C dX10_count_1 (tgt := 112) (by have z0 := lv_neT g1 (k := 0) (a := 0) (by decide); have z1 := lv_neT g6 (k := 1) (a := 1) (by decide); have z2 := lv_neT g11 (k := 2) (a := 2) (by decide); have z3 := lv_neT g16 (k := 3) (a := 3) (by decide); have z4 := lv_neT g21 (k := 4) (a := 4) (by decide); have z5 := lv_neT g24 (k := 5) (a := 5) (by decide); have z6 := lv_neT g27 (k := 6) (a := 6) (by decide); have z7 := lv_neT g32 (k := 7) (a := 7) (by decide); omega) (by decide) ?_
  refine J_iconst (pc := 112) C dX10_count_112 (v := -1) (by decide) ?_
  exact J_iret (pc := 113) C  rfl rfl dX10_count_113 hf
set_option maxRecDepth 100000 in
set_option maxHeartbeats 4000000 in
theorem c_X10_pair {l : Launch} {D : va_G} {dA : FieldType → ClassId} (fu : Nat) (w : MW) (v0 : Nat) (v1 : Int32) (v2 : Int32) (v3 : Int32) {rr : Int32} {w' : MW} (hf : f_X10_pair fu w v0 v1 v2 v3 = some (rr, w')) : CT l D dA yX10_pair cX10_pair 7 (some .int) rmX10_pair [.ref v0, .int v1, .int v2, .int v3] w (some (.int rr)) w' := by
  refine J_met (by decide) rfl (Nat.le_of_ble_eq_true rfl) (fun p e s m args below meth c A E C => ?_)
  rw [f_X10_pair] at hf
  refine J_sub [0, 1, 2, 3] (L1 := [(0, .ref v0), (1, .int v1), (2, .int v2), (3, .int v3)]) rfl ?_
  refine J_aload_n (pc := 0) C dX10_pair_0 rfl 0 rfl ?_
  refine J_getR (pc := 1) C dX10_pair_1 (ci := 10) (k0 := 0) rfl iX10 (by decide) k_368 hf (fun x1 hf => ?_)
  refine J_iload_n (pc := 4) C dX10_pair_4 rfl 1 rfl ?_
  obtain ⟨q2, h3, hf⟩ := bind_ok hf
  obtain ⟨_, g4, h3⟩ := cl_spec h3
  refine J_cV (S := []) (pc := 5) C dX10_pair_5 (c_X7_heapAt _ _ _ h3) k_802 ys_X7_heapAt ⟨Nat.le_of_ble_eq_true rfl, Nat.le_of_ble_eq_true rfl⟩ ⟨Nat.le_of_ble_eq_true rfl, Nat.le_of_ble_eq_true rfl⟩ g4 rfl rfl (fun _ => Nat.le_of_ble_eq_true rfl) ?_
  cases q2 with
  | none =>
    refine J_astoreN (pc := 8) C dX10_pair_8 (by decide) [(4, .null), (0, .ref v0), (1, .int v1), (2, .int v2), (3, .int v3)] rfl ?_
    refine J_aload_n (pc := 10) C dX10_pair_10 rfl 1 rfl ?_
    refine J_getR (pc := 11) C dX10_pair_11 (ci := 10) (k0 := 0) rfl iX10 (by decide) k_368 hf (fun x6 hf => ?_)
    refine J_iload_n (pc := 14) C dX10_pair_14 rfl 3 rfl ?_
    obtain ⟨q7, h8, hf⟩ := bind_ok hf
    obtain ⟨_, g9, h8⟩ := cl_spec h8
    refine J_cV (S := []) (pc := 15) C dX10_pair_15 (c_X7_heapAt _ _ _ h8) k_802 ys_X7_heapAt ⟨Nat.le_of_ble_eq_true rfl, Nat.le_of_ble_eq_true rfl⟩ ⟨Nat.le_of_ble_eq_true rfl, Nat.le_of_ble_eq_true rfl⟩ g9 rfl rfl (fun _ => Nat.le_of_ble_eq_true rfl) ?_
    cases q7 with
    | none =>
      refine J_astoreN (pc := 18) C dX10_pair_18 (by decide) [(5, .null), (4, .null), (0, .ref v0), (1, .int v1), (2, .int v2), (3, .int v3)] rfl ?_
      refine J_aloadN (pc := 20) C dX10_pair_20 1 rfl ?_
      refine J_ifnullN (pc := 22) C dX10_pair_22 (tgt := 35) (by decide) ?_
      refine J_iconst (pc := 35) C dX10_pair_35 (v := -1) (by decide) ?_
      exact J_iret (pc := 36) C  rfl rfl dX10_pair_36 hf
    | some b10 =>
      refine J_astore (pc := 18) C dX10_pair_18 (by decide) [(5, .ref b10), (4, .null), (0, .ref v0), (1, .int v1), (2, .int v2), (3, .int v3)] rfl ?_
      refine J_aloadN (pc := 20) C dX10_pair_20 1 rfl ?_
      refine J_ifnullN (pc := 22) C dX10_pair_22 (tgt := 35) (by decide) ?_
      refine J_iconst (pc := 35) C dX10_pair_35 (v := -1) (by decide) ?_
      exact J_iret (pc := 36) C  rfl rfl dX10_pair_36 hf
  | some b5 =>
    refine J_astore (pc := 8) C dX10_pair_8 (by decide) [(4, .ref b5), (0, .ref v0), (1, .int v1), (2, .int v2), (3, .int v3)] rfl ?_
    refine J_aload_n (pc := 10) C dX10_pair_10 rfl 1 rfl ?_
    refine J_getR (pc := 11) C dX10_pair_11 (ci := 10) (k0 := 0) rfl iX10 (by decide) k_368 hf (fun x11 hf => ?_)
    refine J_iload_n (pc := 14) C dX10_pair_14 rfl 3 rfl ?_
    obtain ⟨q12, h13, hf⟩ := bind_ok hf
    obtain ⟨_, g14, h13⟩ := cl_spec h13
    refine J_cV (S := []) (pc := 15) C dX10_pair_15 (c_X7_heapAt _ _ _ h13) k_802 ys_X7_heapAt ⟨Nat.le_of_ble_eq_true rfl, Nat.le_of_ble_eq_true rfl⟩ ⟨Nat.le_of_ble_eq_true rfl, Nat.le_of_ble_eq_true rfl⟩ g14 rfl rfl (fun _ => Nat.le_of_ble_eq_true rfl) ?_
    cases q12 with
    | none =>
      refine J_astoreN (pc := 18) C dX10_pair_18 (by decide) [(5, .null), (4, .ref b5), (0, .ref v0), (1, .int v1), (2, .int v2), (3, .int v3)] rfl ?_
      refine J_aload (pc := 20) C dX10_pair_20 1 rfl ?_
      refine J_ifnull (pc := 22) C dX10_pair_22 ?_
      refine J_aloadN (pc := 25) C dX10_pair_25 0 rfl ?_
      refine J_ifnullN (pc := 27) C dX10_pair_27 (tgt := 35) (by decide) ?_
      refine J_iconst (pc := 35) C dX10_pair_35 (v := -1) (by decide) ?_
      exact J_iret (pc := 36) C  rfl rfl dX10_pair_36 hf
    | some b15 =>
      refine J_astore (pc := 18) C dX10_pair_18 (by decide) [(5, .ref b15), (4, .ref b5), (0, .ref v0), (1, .int v1), (2, .int v2), (3, .int v3)] rfl ?_
      refine J_aload (pc := 20) C dX10_pair_20 1 rfl ?_
      refine J_ifnull (pc := 22) C dX10_pair_22 ?_
      refine J_aload (pc := 25) C dX10_pair_25 0 rfl ?_
      refine J_ifnull (pc := 27) C dX10_pair_27 ?_
      refine J_iload_n (pc := 30) C dX10_pair_30 rfl 3 rfl ?_
      refine J_iload_n (pc := 31) C dX10_pair_31 rfl 4 rfl ?_
      refine J_icmp_ne (pc := 32) C dX10_pair_32 (tgt := 37) (by decide) hf (fun _ hf => ?_) (fun _ hf => ?_)
      · refine J_aload_n (pc := 37) C dX10_pair_37 rfl 2 rfl ?_
        refine J_getR (pc := 38) C dX10_pair_38 (ci := 10) (k0 := 0) rfl iX10 (by decide) k_368 hf (fun x16 hf => ?_)
        refine J_aload (pc := 41) C dX10_pair_41 1 rfl ?_
        refine J_aload (pc := 43) C dX10_pair_43 0 rfl ?_
        obtain ⟨q17, h18, hf⟩ := bind_ok hf
        obtain ⟨_, g19, h18⟩ := cl_spec h18
        refine J_cV (S := []) (pc := 45) C dX10_pair_45 (c_X7_weaveOf _ _ _ _ _ h18) k_926 ys_X7_weaveOf ⟨Nat.le_of_ble_eq_true rfl, Nat.le_of_ble_eq_true rfl⟩ ⟨Nat.le_of_ble_eq_true rfl, Nat.le_of_ble_eq_true rfl⟩ g19 rfl rfl (fun _ => Nat.le_of_ble_eq_true rfl) ?_
        refine J_astore (pc := 48) C dX10_pair_48 (by decide) [(6, .ref q17.1), (5, .ref b15), (4, .ref b5), (0, .ref v0), (1, .int v1), (2, .int v2), (3, .int v3)] rfl ?_
        refine J_iload_n (pc := 50) C dX10_pair_50 rfl 6 rfl ?_
        refine J_case (v := 0) hf (fun g20 hf => ?_) (fun g20 hf => ?_)
        · refine J_tabIn (pc := 51) C dX10_pair_51 (tgt := 92) (by rw [g20]; decide) (by rw [g20]; decide) (by rw [g20]; rfl) (by decide) ?_
          refine J_aload (pc := 92) C dX10_pair_92 0 rfl ?_
          refine J_getIN (pc := 94) C dX10_pair_94 (ci := 9) (k0 := 0) rfl iX9 (by decide) n_153 hf (fun x21 hf => ?_)
          exact J_iret (pc := 97) C  rfl rfl dX10_pair_97 hf
        refine J_case (v := 1) hf (fun g22 hf => ?_) (fun g22 hf => ?_)
        · refine J_tabIn (pc := 51) C dX10_pair_51 (tgt := 98) (by rw [g22]; decide) (by rw [g22]; decide) (by rw [g22]; rfl) (by decide) ?_
          refine J_aload (pc := 98) C dX10_pair_98 0 rfl ?_
          refine J_getIN (pc := 100) C dX10_pair_100 (ci := 9) (k0 := 1) rfl iX9 (by decide) n_155 hf (fun x23 hf => ?_)
          exact J_iret (pc := 103) C  rfl rfl dX10_pair_103 hf
        refine J_case (v := 2) hf (fun g24 hf => ?_) (fun g24 hf => ?_)
        · refine J_tabIn (pc := 51) C dX10_pair_51 (tgt := 104) (by rw [g24]; decide) (by rw [g24]; decide) (by rw [g24]; rfl) (by decide) ?_
          refine J_aload (pc := 104) C dX10_pair_104 0 rfl ?_
          refine J_getIN (pc := 106) C dX10_pair_106 (ci := 9) (k0 := 2) rfl iX9 (by decide) n_158 hf (fun x25 hf => ?_)
          exact J_iret (pc := 109) C  rfl rfl dX10_pair_109 hf
        refine J_case (v := 3) hf (fun g26 hf => ?_) (fun g26 hf => ?_)
        · refine J_tabIn (pc := 51) C dX10_pair_51 (tgt := 110) (by rw [g26]; decide) (by rw [g26]; decide) (by rw [g26]; rfl) (by decide) ?_
          refine J_aload (pc := 110) C dX10_pair_110 0 rfl ?_
          refine J_getIN (pc := 112) C dX10_pair_112 (ci := 9) (k0 := 4) rfl iX9 (by decide) n_163 hf (fun x27 hf => ?_)
          refine J_aload (pc := 115) C dX10_pair_115 0 rfl ?_
          refine J_getIN (pc := 117) C dX10_pair_117 (ci := 9) (k0 := 1) rfl iX9 (by decide) n_155 hf (fun x28 hf => ?_)
          refine J_isub (pc := 120) C dX10_pair_120 ?_
          exact J_iret (pc := 121) C  rfl rfl dX10_pair_121 hf
        refine J_case (v := 4) hf (fun g29 hf => ?_) (fun g29 hf => ?_)
        · refine J_tabIn (pc := 51) C dX10_pair_51 (tgt := 122) (by rw [g29]; decide) (by rw [g29]; decide) (by rw [g29]; rfl) (by decide) ?_
          refine J_aload (pc := 122) C dX10_pair_122 0 rfl ?_
          refine J_getIN (pc := 124) C dX10_pair_124 (ci := 9) (k0 := 3) rfl iX9 (by decide) n_160 hf (fun x30 hf => ?_)
          exact J_iret (pc := 127) C  rfl rfl dX10_pair_127 hf
        refine J_case (v := 5) hf (fun g31 hf => ?_) (fun g31 hf => ?_)
        · refine J_tabIn (pc := 51) C dX10_pair_51 (tgt := 128) (by rw [g31]; decide) (by rw [g31]; decide) (by rw [g31]; rfl) (by decide) ?_
          refine J_aload_n (pc := 128) C dX10_pair_128 rfl 3 rfl ?_
          refine J_getR (pc := 129) C dX10_pair_129 (ci := 10) (k0 := 0) rfl iX10 (by decide) k_368 hf (fun x32 hf => ?_)
          refine J_aload (pc := 132) C dX10_pair_132 2 rfl ?_
          refine J_aload (pc := 134) C dX10_pair_134 1 rfl ?_
          obtain ⟨q33, h34, hf⟩ := bind_ok hf
          obtain ⟨_, g35, h34⟩ := cl_spec h34
          refine J_cV (S := []) (pc := 136) C dX10_pair_136 (c_X7_whyNotJoin _ _ _ _ h34) k_930 ys_X7_whyNotJoin ⟨Nat.le_of_ble_eq_true rfl, Nat.le_of_ble_eq_true rfl⟩ ⟨Nat.le_of_ble_eq_true rfl, Nat.le_of_ble_eq_true rfl⟩ g35 rfl rfl (fun _ => Nat.le_of_ble_eq_true rfl) ?_
          refine J_if_ne (pc := 139) C dX10_pair_139 (tgt := 146) (by decide) hf (fun _ hf => ?_) (fun _ hf => ?_)
          · refine J_iconst (pc := 146) C dX10_pair_146 (v := 0) (by decide) ?_
            exact J_iret (pc := 147) C  rfl rfl dX10_pair_147 hf
          · refine J_iconst (pc := 142) C dX10_pair_142 (v := 1) (by decide) ?_
            refine J_goto (pc := 143) C dX10_pair_143 (tgt := 147) (by decide) ?_
            exact J_iret (pc := 147) C  rfl rfl dX10_pair_147 hf
        refine J_case (v := 6) hf (fun g36 hf => ?_) (fun g36 hf => ?_)
        · refine J_tabIn (pc := 51) C dX10_pair_51 (tgt := 148) (by rw [g36]; decide) (by rw [g36]; decide) (by rw [g36]; rfl) (by decide) ?_
          refine J_aload_n (pc := 148) C dX10_pair_148 rfl 3 rfl ?_
          refine J_getR (pc := 149) C dX10_pair_149 (ci := 10) (k0 := 0) rfl iX10 (by decide) k_368 hf (fun x37 hf => ?_)
          refine J_aload (pc := 152) C dX10_pair_152 1 rfl ?_
          refine J_aload (pc := 154) C dX10_pair_154 0 rfl ?_
          obtain ⟨q38, h39, hf⟩ := bind_ok hf
          obtain ⟨_, g40, h39⟩ := cl_spec h39
          refine J_cV (S := []) (pc := 156) C dX10_pair_156 (c_X7_whyNotMelt _ _ _ _ h39) k_931 ys_X7_whyNotMelt ⟨Nat.le_of_ble_eq_true rfl, Nat.le_of_ble_eq_true rfl⟩ ⟨Nat.le_of_ble_eq_true rfl, Nat.le_of_ble_eq_true rfl⟩ g40 rfl rfl (fun _ => Nat.le_of_ble_eq_true rfl) ?_
          refine J_if_ne (pc := 159) C dX10_pair_159 (tgt := 166) (by decide) hf (fun _ hf => ?_) (fun _ hf => ?_)
          · refine J_iconst (pc := 166) C dX10_pair_166 (v := 0) (by decide) ?_
            exact J_iret (pc := 167) C  rfl rfl dX10_pair_167 hf
          · refine J_iconst (pc := 162) C dX10_pair_162 (v := 1) (by decide) ?_
            refine J_goto (pc := 163) C dX10_pair_163 (tgt := 167) (by decide) ?_
            exact J_iret (pc := 167) C  rfl rfl dX10_pair_167 hf
        refine J_tabOut (pc := 51) C dX10_pair_51 (tgt := 168) (by have z0 := lv_neT g20 (k := 0) (a := 0) (by decide); have z1 := lv_neT g22 (k := 1) (a := 1) (by decide); have z2 := lv_neT g24 (k := 2) (a := 2) (by decide); have z3 := lv_neT g26 (k := 3) (a := 3) (by decide); have z4 := lv_neT g29 (k := 4) (a := 4) (by decide); have z5 := lv_neT g31 (k := 5) (a := 5) (by decide); have z6 := lv_neT g36 (k := 6) (a := 6) (by decide); omega) (by decide) ?_
        refine J_iconst (pc := 168) C dX10_pair_168 (v := -1) (by decide) ?_
        exact J_iret (pc := 169) C  rfl rfl dX10_pair_169 hf
      · refine J_iconst (pc := 35) C dX10_pair_35 (v := -1) (by decide) ?_
        exact J_iret (pc := 36) C  rfl rfl dX10_pair_36 hf
set_option maxRecDepth 100000 in
set_option maxHeartbeats 4000000 in
theorem c_X10_cheapest {l : Launch} {D : va_G} {dA : FieldType → ClassId} (fu : Nat) (w : MW) (v0 : Nat) (v1 : Int32) {rr : Int32} {w' : MW} (hf : f_X10_cheapest fu w v0 v1 = some (rr, w')) : CT l D dA yX10_cheapest cX10_cheapest 2 (some .int) rmX10_cheapest [.ref v0, .int v1] w (some (.int rr)) w' := by
  refine J_met (by decide) rfl (Nat.le_of_ble_eq_true rfl) (fun p e s m args below meth c A E C => ?_)
  rw [f_X10_cheapest] at hf
  refine J_sub [0, 1] (L1 := [(0, .ref v0), (1, .int v1)]) rfl ?_
  refine J_aload_n (pc := 0) C dX10_cheapest_0 rfl 0 rfl ?_
  refine J_getR (pc := 1) C dX10_cheapest_1 (ci := 10) (k0 := 0) rfl iX10 (by decide) k_368 hf (fun x1 hf => ?_)
  obtain ⟨q2, h3, hf⟩ := bind_ok hf
  obtain ⟨_, g4, h3⟩ := cl_spec h3
  refine J_cV (S := []) (pc := 4) C dX10_cheapest_4 (c_X7_findCheapest _ _ _ h3) k_936 ys_X7_findCheapest ⟨Nat.le_of_ble_eq_true rfl, Nat.le_of_ble_eq_true rfl⟩ ⟨Nat.le_of_ble_eq_true rfl, Nat.le_of_ble_eq_true rfl⟩ g4 rfl rfl (fun _ => Nat.le_of_ble_eq_true rfl) ?_
  refine J_iload_n (pc := 7) C dX10_cheapest_7 rfl 1 rfl ?_
  refine J_case (v := 0) hf (fun g5 hf => ?_) (fun g5 hf => ?_)
  · refine J_tabIn (pc := 8) C dX10_cheapest_8 (tgt := 36) (by rw [g5]; decide) (by rw [g5]; decide) (by rw [g5]; rfl) (by decide) ?_
    refine J_aload_n (pc := 36) C dX10_cheapest_36 rfl 0 rfl ?_
    refine J_getR (pc := 37) C dX10_cheapest_37 (ci := 10) (k0 := 0) rfl iX10 (by decide) k_368 hf (fun x6 hf => ?_)
    refine J_getIN (pc := 40) C dX10_cheapest_40 (ci := 7) (k0 := 5) rfl iX7 (by decide) n_222 hf (fun x7 hf => ?_)
    exact J_iret (pc := 43) C  rfl rfl dX10_cheapest_43 hf
  refine J_case (v := 1) hf (fun g8 hf => ?_) (fun g8 hf => ?_)
  · refine J_tabIn (pc := 8) C dX10_cheapest_8 (tgt := 44) (by rw [g8]; decide) (by rw [g8]; decide) (by rw [g8]; rfl) (by decide) ?_
    refine J_aload_n (pc := 44) C dX10_cheapest_44 rfl 0 rfl ?_
    refine J_getR (pc := 45) C dX10_cheapest_45 (ci := 10) (k0 := 0) rfl iX10 (by decide) k_368 hf (fun x9 hf => ?_)
    refine J_getIN (pc := 48) C dX10_cheapest_48 (ci := 7) (k0 := 6) rfl iX7 (by decide) n_224 hf (fun x10 hf => ?_)
    exact J_iret (pc := 51) C  rfl rfl dX10_cheapest_51 hf
  refine J_case (v := 2) hf (fun g11 hf => ?_) (fun g11 hf => ?_)
  · refine J_tabIn (pc := 8) C dX10_cheapest_8 (tgt := 52) (by rw [g11]; decide) (by rw [g11]; decide) (by rw [g11]; rfl) (by decide) ?_
    refine J_aload_n (pc := 52) C dX10_cheapest_52 rfl 0 rfl ?_
    refine J_getR (pc := 53) C dX10_cheapest_53 (ci := 10) (k0 := 0) rfl iX10 (by decide) k_368 hf (fun x12 hf => ?_)
    refine J_getIN (pc := 56) C dX10_cheapest_56 (ci := 7) (k0 := 7) rfl iX7 (by decide) n_226 hf (fun x13 hf => ?_)
    exact J_iret (pc := 59) C  rfl rfl dX10_cheapest_59 hf
  refine J_tabOut (pc := 8) C dX10_cheapest_8 (tgt := 60) (by have z0 := lv_neT g5 (k := 0) (a := 0) (by decide); have z1 := lv_neT g8 (k := 1) (a := 1) (by decide); have z2 := lv_neT g11 (k := 2) (a := 2) (by decide); omega) (by decide) ?_
  refine J_iconst (pc := 60) C dX10_cheapest_60 (v := -1) (by decide) ?_
  exact J_iret (pc := 61) C  rfl rfl dX10_cheapest_61 hf
set_option maxRecDepth 100000 in
set_option maxHeartbeats 4000000 in
theorem c_X10_merged {l : Launch} {D : va_G} {dA : FieldType → ClassId} (fu : Nat) (w : MW) (v0 : Nat) (v1 : Int32) {rr : Int32} {w' : MW} (hf : f_X10_merged fu w v0 v1 = some (rr, w')) : CT l D dA yX10_merged cX10_merged 4 (some .int) rmX10_merged [.ref v0, .int v1] w (some (.int rr)) w' := by
  refine J_met (by decide) rfl (Nat.le_of_ble_eq_true rfl) (fun p e s m args below meth c A E C => ?_)
  have B31 : ∀ (n : Nat) (w : MW) (v0 : Nat) (v1 : Int32) (v2 : Int32) (v3 : Int32), f_X10_merged_31 fu n w v0 v1 v2 v3 = some (rr, w') → JW p l e rmX10_merged s m args below meth c 4 D dA A E (MQ below (Qr D dA E (some (.int rr)) w' A) args s 0 0 A) 0 0 31 [(0, .ref v0), (1, .int v1), (2, .int v2), (3, .int v3)] [] w := by
    intro n
    induction n with
    | zero => intro w v0 v1 v2 v3 hf; rw [f_X10_merged_31] at hf; cases hf
    | succ n ih =>
      intro w v0 v1 v2 v3 hf
      rw [f_X10_merged_31] at hf
      refine J_iload_n (pc := 31) C dX10_merged_31 rfl 3 rfl ?_
      refine J_iload_n (pc := 32) C dX10_merged_32 rfl 1 rfl ?_
      refine J_icmp_gt (pc := 33) C dX10_merged_33 (tgt := 53) (by decide) hf (fun _ hf => ?_) (fun _ hf => ?_)
      · refine J_iload_n (pc := 53) C dX10_merged_53 rfl 2 rfl ?_
        exact J_iret (pc := 54) C  rfl rfl dX10_merged_54 hf
      · refine J_aload_n (pc := 36) C dX10_merged_36 rfl 0 rfl ?_
        refine J_getR (pc := 37) C dX10_merged_37 (ci := 10) (k0 := 0) rfl iX10 (by decide) k_368 hf (fun x12 hf => ?_)
        refine J_getRN (pc := 40) C dX10_merged_40 (ci := 7) (k0 := 3) rfl iX7 (by decide) n_219 hf (fun x13 hf => ?_)
        obtain ⟨q14, h15, hf⟩ := bind_ok hf
        obtain ⟨_, g16, h15⟩ := cl_spec h15
        refine J_cV (S := []) (pc := 43) C dX10_merged_43 (c_X2_next _ _ _ h15) k_949 ys_X2_next ⟨Nat.le_of_ble_eq_true rfl, Nat.le_of_ble_eq_true rfl⟩ ⟨Nat.le_of_ble_eq_true rfl, Nat.le_of_ble_eq_true rfl⟩ g16 rfl rfl (fun _ => Nat.le_of_ble_eq_true rfl) ?_
        refine J_istore_n (pc := 46) C dX10_merged_46 rfl (by decide) hf (fun q => [(2, .int q), (0, .ref v0), (1, .int v1), (3, .int v3)]) (fun _ => rfl) (fun x17 hf => ?_)
        refine J_iinc (pc := 47) C dX10_merged_47 3 rfl (y := v3 + 1) rfl (by decide) hf (fun q => [(3, .int q), (2, .int x17), (0, .ref v0), (1, .int v1)]) (fun _ => rfl) (fun x18 hf => ?_)
        refine J_goto (pc := 50) C dX10_merged_50 (tgt := 31) (by decide) ?_
        refine J_sub [2, 3, 1, 0] (L1 := [(0, .ref v0), (1, .int v1), (2, .int x17), (3, .int x18)]) rfl ?_
        exact ih q14.2 v0 v1 x17 x18 hf
  rw [f_X10_merged] at hf
  refine J_sub [0, 1] (L1 := [(0, .ref v0), (1, .int v1)]) rfl ?_
  refine J_iload_n (pc := 0) C dX10_merged_0 rfl 1 rfl ?_
  refine J_if_lt (pc := 1) C dX10_merged_1 (tgt := 15) (by decide) hf (fun _ hf => ?_) (fun _ hf => ?_)
  · refine J_iconst (pc := 15) C dX10_merged_15 (v := -1) (by decide) ?_
    exact J_iret (pc := 16) C  rfl rfl dX10_merged_16 hf
  · refine J_iload_n (pc := 4) C dX10_merged_4 rfl 1 rfl ?_
    refine J_aload_n (pc := 5) C dX10_merged_5 rfl 0 rfl ?_
    refine J_getR (pc := 6) C dX10_merged_6 (ci := 10) (k0 := 0) rfl iX10 (by decide) k_368 hf (fun x1 hf => ?_)
    obtain ⟨q2, h3, hf⟩ := bind_ok hf
    obtain ⟨_, g4, h3⟩ := cl_spec h3
    refine J_cV (S := [.int v1]) (pc := 9) C dX10_merged_9 (c_X7_total _ _ _ h3) k_685 ys_X7_total ⟨Nat.le_of_ble_eq_true rfl, Nat.le_of_ble_eq_true rfl⟩ ⟨Nat.le_of_ble_eq_true rfl, Nat.le_of_ble_eq_true rfl⟩ g4 rfl rfl (fun _ => Nat.le_of_ble_eq_true rfl) ?_
    refine J_icmp_lt (pc := 12) C dX10_merged_12 (tgt := 17) (by decide) hf (fun _ hf => ?_) (fun _ hf => ?_)
    · refine J_aload_n (pc := 17) C dX10_merged_17 rfl 0 rfl ?_
      refine J_getR (pc := 18) C dX10_merged_18 (ci := 10) (k0 := 0) rfl iX10 (by decide) k_368 hf (fun x5 hf => ?_)
      refine J_getRN (pc := 21) C dX10_merged_21 (ci := 7) (k0 := 3) rfl iX7 (by decide) n_219 hf (fun x6 hf => ?_)
      obtain ⟨q7, h8, hf⟩ := bind_ok hf
      obtain ⟨_, g9, h8⟩ := cl_spec h8
      refine J_cV (S := []) (pc := 24) C dX10_merged_24 (c_X2_begin _ _ _ h8) k_948 ys_X2_begin ⟨Nat.le_of_ble_eq_true rfl, Nat.le_of_ble_eq_true rfl⟩ ⟨Nat.le_of_ble_eq_true rfl, Nat.le_of_ble_eq_true rfl⟩ g9 rfl rfl (fun _ => Nat.le_of_ble_eq_true rfl) ?_
      refine J_iconst (pc := 27) C dX10_merged_27 (v := -1) (by decide) ?_
      refine J_istore_n (pc := 28) C dX10_merged_28 rfl (by decide) hf (fun q => [(2, .int q), (0, .ref v0), (1, .int v1)]) (fun _ => rfl) (fun x10 hf => ?_)
      refine J_iconst (pc := 29) C dX10_merged_29 (v := 0) (by decide) ?_
      refine J_istore_n (pc := 30) C dX10_merged_30 rfl (by decide) hf (fun q => [(3, .int q), (2, .int x10), (0, .ref v0), (1, .int v1)]) (fun _ => rfl) (fun x11 hf => ?_)
      refine J_sub [2, 3, 1, 0] (L1 := [(0, .ref v0), (1, .int v1), (2, .int x10), (3, .int x11)]) rfl ?_
      exact B31 fu q7 v0 v1 x10 x11 hf
    · refine J_iconst (pc := 15) C dX10_merged_15 (v := -1) (by decide) ?_
      exact J_iret (pc := 16) C  rfl rfl dX10_merged_16 hf
set_option maxRecDepth 100000 in
set_option maxHeartbeats 4000000 in
theorem c_X10_would {l : Launch} {D : va_G} {dA : FieldType → ClassId} (fu : Nat) (w : MW) (v0 : Nat) (v1 : Int32) (v2 : Int32) (v3 : Int32) {rr : Int32} {w' : MW} (hf : f_X10_would fu w v0 v1 v2 v3 = some (rr, w')) : CT l D dA yX10_would cX10_would 6 (some .int) rmX10_would [.ref v0, .int v1, .int v2, .int v3] w (some (.int rr)) w' := by
  refine J_met (by decide) rfl (Nat.le_of_ble_eq_true rfl) (fun p e s m args below meth c A E C => ?_)
  have B76 : ∀ (w : MW) (v0 : Nat) (s0 : Nat) (s1 : Nat) (s2 : Int32) (s3 : Int32), f_X10_would_76 fu w v0 s0 s1 s2 s3 = some (rr, w') → JW p l e rmX10_would s m args below meth c 6 D dA A E (MQ below (Qr D dA E (some (.int rr)) w' A) args s 0 0 A) 0 0 76 [(0, .ref v0)] [.int s3, .int s2, .ref s1, .ref s0] w := by
    intro w v0 s0 s1 s2 s3 hf
    rw [f_X10_would_76] at hf
    obtain ⟨q12, h13, hf⟩ := bind_ok hf
    obtain ⟨_, g14, h13⟩ := cl_spec h13
    refine J_cV (S := []) (pc := 76) C dX10_would_76 (c_X8_grow _ _ _ _ _ _ h13) k_955 ys_X8_grow ⟨Nat.le_of_ble_eq_true rfl, Nat.le_of_ble_eq_true rfl⟩ ⟨Nat.le_of_ble_eq_true rfl, Nat.le_of_ble_eq_true rfl⟩ g14 rfl rfl (fun _ => Nat.le_of_ble_eq_true rfl) ?_
    refine J_aload_n (pc := 79) C dX10_would_79 rfl 0 rfl ?_
    refine J_getR (pc := 80) C dX10_would_80 (ci := 10) (k0 := 0) rfl iX10 (by decide) k_368 hf (fun x15 hf => ?_)
    refine J_getRN (pc := 83) C dX10_would_83 (ci := 7) (k0 := 1) rfl iX7 (by decide) n_216 hf (fun x16 hf => ?_)
    obtain ⟨q17, h18, hf⟩ := bind_ok hf
    obtain ⟨_, g19, h18⟩ := cl_spec h18
    refine J_cV (S := []) (pc := 86) C dX10_would_86 (c_X8_high _ _ _ h18) k_821 ys_X8_high ⟨Nat.le_of_ble_eq_true rfl, Nat.le_of_ble_eq_true rfl⟩ ⟨Nat.le_of_ble_eq_true rfl, Nat.le_of_ble_eq_true rfl⟩ g19 rfl rfl (fun _ => Nat.le_of_ble_eq_true rfl) ?_
    exact J_iret (pc := 89) C  rfl rfl dX10_would_89 hf
  have B67 : ∀ (w : MW) (v0 : Nat) (v2 : Int32) (v3 : Int32) (s0 : Nat) (s1 : Nat) (s2 : Int32), f_X10_would_67 fu w v0 v2 v3 s0 s1 s2 = some (rr, w') → JW p l e rmX10_would s m args below meth c 6 D dA A E (MQ below (Qr D dA E (some (.int rr)) w' A) args s 0 0 A) 0 0 67 [(0, .ref v0), (2, .int v2), (3, .int v3)] [.int s2, .ref s1, .ref s0] w := by
    intro w v0 v2 v3 s0 s1 s2 hf
    rw [f_X10_would_67] at hf
    refine J_iload_n (pc := 67) C dX10_would_67 rfl 2 rfl ?_
    refine J_if_eq (pc := 68) C dX10_would_68 (tgt := 75) (by decide) hf (fun _ hf => ?_) (fun _ hf => ?_)
    · refine J_iconst (pc := 75) C dX10_would_75 (v := -1) (by decide) ?_
      refine J_sub [0] (L1 := [(0, .ref v0)]) rfl ?_
      exact B76 w v0 s0 s1 s2 (-1 : Int32) hf
    · refine J_iload_n (pc := 71) C dX10_would_71 rfl 1 rfl ?_
      refine J_goto (pc := 72) C dX10_would_72 (tgt := 76) (by decide) ?_
      refine J_sub [0] (L1 := [(0, .ref v0)]) rfl ?_
      exact B76 w v0 s0 s1 s2 v2 hf
  have B39 : ∀ (w : MW) (v0 : Nat) (v2 : Int32) (v3 : Int32) (v4 : Nat) (s0 : Int32), f_X10_would_39 fu w v0 v2 v3 v4 s0 = some (rr, w') → JW p l e rmX10_would s m args below meth c 6 D dA A E (MQ below (Qr D dA E (some (.int rr)) w' A) args s 0 0 A) 0 0 39 [(0, .ref v0), (2, .int v2), (3, .int v3), (4, .ref v4)] [.int s0] w := by
    intro w v0 v2 v3 v4 s0 hf
    rw [f_X10_would_39] at hf
    refine J_istore (pc := 39) C dX10_would_39 (by decide) hf (fun q => [(5, .int q), (0, .ref v0), (2, .int v2), (3, .int v3), (4, .ref v4)]) (fun _ => rfl) (fun x9 hf => ?_)
    refine J_iload (pc := 41) C dX10_would_41 0 rfl ?_
    refine J_iload_n (pc := 43) C dX10_would_43 rfl 3 rfl ?_
    refine J_icmp_eq (pc := 44) C dX10_would_44 (tgt := 49) (by decide) hf (fun _ hf => ?_) (fun _ hf => ?_)
    · refine J_aload_n (pc := 49) C dX10_would_49 rfl 1 rfl ?_
      refine J_getR (pc := 50) C dX10_would_50 (ci := 10) (k0 := 0) rfl iX10 (by decide) k_368 hf (fun x10 hf => ?_)
      refine J_getRN (pc := 53) C dX10_would_53 (ci := 7) (k0 := 1) rfl iX7 (by decide) n_216 hf (fun x11 hf => ?_)
      refine J_aload (pc := 56) C dX10_would_56 4 rfl ?_
      refine J_iload_n (pc := 58) C dX10_would_58 rfl 3 rfl ?_
      refine J_if_eq (pc := 59) C dX10_would_59 (tgt := 66) (by decide) hf (fun _ hf => ?_) (fun _ hf => ?_)
      · refine J_iload_n (pc := 66) C dX10_would_66 rfl 2 rfl ?_
        refine J_sub [1, 2, 3] (L1 := [(0, .ref v0), (2, .int v2), (3, .int v3)]) rfl ?_
        exact B67 w v0 v2 v3 x11 v4 v2 hf
      · refine J_iconst (pc := 62) C dX10_would_62 (v := -1) (by decide) ?_
        refine J_goto (pc := 63) C dX10_would_63 (tgt := 67) (by decide) ?_
        refine J_sub [1, 2, 3] (L1 := [(0, .ref v0), (2, .int v2), (3, .int v3)]) rfl ?_
        exact B67 w v0 v2 v3 x11 v4 (-1 : Int32) hf
    · refine J_iconst (pc := 47) C dX10_would_47 (v := -1) (by decide) ?_
      exact J_iret (pc := 48) C  rfl rfl dX10_would_48 hf
  rw [f_X10_would] at hf
  refine J_sub [0, 1, 2, 3] (L1 := [(0, .ref v0), (1, .int v1), (2, .int v2), (3, .int v3)]) rfl ?_
  refine J_aload_n (pc := 0) C dX10_would_0 rfl 0 rfl ?_
  refine J_getR (pc := 1) C dX10_would_1 (ci := 10) (k0 := 0) rfl iX10 (by decide) k_368 hf (fun x1 hf => ?_)
  refine J_iload_n (pc := 4) C dX10_would_4 rfl 1 rfl ?_
  obtain ⟨q2, h3, hf⟩ := bind_ok hf
  obtain ⟨_, g4, h3⟩ := cl_spec h3
  refine J_cV (S := []) (pc := 5) C dX10_would_5 (c_X7_heapAt _ _ _ h3) k_802 ys_X7_heapAt ⟨Nat.le_of_ble_eq_true rfl, Nat.le_of_ble_eq_true rfl⟩ ⟨Nat.le_of_ble_eq_true rfl, Nat.le_of_ble_eq_true rfl⟩ g4 rfl rfl (fun _ => Nat.le_of_ble_eq_true rfl) ?_
  cases q2 with
  | none =>
    refine J_astoreN (pc := 8) C dX10_would_8 (by decide) [(4, .null), (0, .ref v0), (1, .int v1), (2, .int v2), (3, .int v3)] rfl ?_
    refine J_aloadN (pc := 10) C dX10_would_10 0 rfl ?_
    refine J_ifnullN (pc := 12) C dX10_would_12 (tgt := 22) (by decide) ?_
    refine J_iconst (pc := 22) C dX10_would_22 (v := -1) (by decide) ?_
    exact J_iret (pc := 23) C  rfl rfl dX10_would_23 hf
  | some b5 =>
    refine J_astore (pc := 8) C dX10_would_8 (by decide) [(4, .ref b5), (0, .ref v0), (1, .int v1), (2, .int v2), (3, .int v3)] rfl ?_
    refine J_aload (pc := 10) C dX10_would_10 0 rfl ?_
    refine J_ifnull (pc := 12) C dX10_would_12 ?_
    refine J_iload_n (pc := 15) C dX10_would_15 rfl 3 rfl ?_
    refine J_cS (S := []) (pc := 16) C dX10_would_16 (c_X10_isKey _ _ rfl) k_954 ys_X10_isKey ⟨Nat.le_of_ble_eq_true rfl, Nat.le_of_ble_eq_true rfl⟩ ⟨Nat.le_of_ble_eq_true rfl, Nat.le_of_ble_eq_true rfl⟩ rfl rfl (fun _ => Nat.le_of_ble_eq_true rfl) ?_
    refine J_if_ne (pc := 19) C dX10_would_19 (tgt := 24) (by decide) hf (fun _ hf => ?_) (fun _ hf => ?_)
    · refine J_aload (pc := 24) C dX10_would_24 0 rfl ?_
      refine J_iload_n (pc := 26) C dX10_would_26 rfl 3 rfl ?_
      obtain ⟨q6, h7, hf⟩ := bind_ok hf
      obtain ⟨_, g8, h7⟩ := cl_spec h7
      refine J_cV (S := []) (pc := 27) C dX10_would_27 (c_X0_rankOf _ _ _ _ h7) k_849 ys_X0_rankOf ⟨Nat.le_of_ble_eq_true rfl, Nat.le_of_ble_eq_true rfl⟩ ⟨Nat.le_of_ble_eq_true rfl, Nat.le_of_ble_eq_true rfl⟩ g8 rfl rfl (fun _ => Nat.le_of_ble_eq_true rfl) ?_
      refine J_iconst (pc := 30) C dX10_would_30 (v := -1) (by decide) ?_
      refine J_icmp_eq (pc := 31) C dX10_would_31 (tgt := 38) (by decide) hf (fun _ hf => ?_) (fun _ hf => ?_)
      · refine J_iconst (pc := 38) C dX10_would_38 (v := 0) (by decide) ?_
        refine J_sub [1, 3, 4, 0] (L1 := [(0, .ref v0), (2, .int v2), (3, .int v3), (4, .ref b5)]) rfl ?_
        exact B39 w v0 v2 v3 b5 (0 : Int32) hf
      · refine J_iconst (pc := 34) C dX10_would_34 (v := 1) (by decide) ?_
        refine J_goto (pc := 35) C dX10_would_35 (tgt := 39) (by decide) ?_
        refine J_sub [1, 3, 4, 0] (L1 := [(0, .ref v0), (2, .int v2), (3, .int v3), (4, .ref b5)]) rfl ?_
        exact B39 w v0 v2 v3 b5 (1 : Int32) hf
    · refine J_iconst (pc := 22) C dX10_would_22 (v := -1) (by decide) ?_
      exact J_iret (pc := 23) C  rfl rfl dX10_would_23 hf
