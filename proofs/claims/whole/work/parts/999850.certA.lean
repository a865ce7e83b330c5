set_option maxRecDepth 100000 in
set_option maxHeartbeats 4000000 in
theorem c_X0_init {l : Launch} {D : va_G} {dA : FieldType → ClassId} (w0 : MW) (v0 : Nat) {w' : MW} (hf : f_X0_init w0 v0 = some w') : CA l D dA yX0_init cX0_init 1 none rmX0_init 1 60 [.ref v0] w0 none w' := by
  refine J_metA (by decide) rfl (Nat.le_of_ble_eq_true rfl) (fun p e s m args below meth c A E C hini hEE => ?_)
  rw [f_X0_init] at hf
  refine J_sub [0] (L1 := [(0, .ref v0)]) rfl ?_
  refine J_aload_n (pc := 0) C dX0_init_0 rfl 0 rfl ?_
  refine J_objInit (pc := 1) C dX0_init_1 k_179 k_101 k_102 (Nat.le_of_ble_eq_true rfl) (fun _ => Nat.le_of_ble_eq_true rfl) ?_
  refine J_aload_n (pc := 4) C dX0_init_4 rfl 0 rfl ?_
  refine J_bipush (pc := 5) C dX0_init_5 (v := 60) (by decide) ?_
  refine J_newa (aty := .int) (ty := .int) (N := 60) (pc := 7) C 0 (fun _ => rfl) dX0_init_7 rfl k_145 (fun _ => rfl) (fun _ _ h => h) (by decide) (by decide) (Nat.le_of_ble_eq_true rfl) ⟨Nat.le_of_ble_eq_true rfl, Nat.le_of_ble_eq_true rfl⟩ hEE [.ref v0, .ref v0] rfl hf (fun w1 hf => ?_)
  refine J_putF (pc := 9) C dX0_init_9 (ci := 0) (k0 := 0) rfl iX0 tyX0 tyX0_ok nmX0 (by decide) k_180 hini rfl rfl (ty := (.array .int)) (by decide +kernel) (fun _ => rfl) (fun _ => rfl) hf (fun w2 hf => ?_)
  refine J_aload_n (pc := 12) C dX0_init_12 rfl 0 rfl ?_
  refine J_iconst (pc := 13) C dX0_init_13 (v := 0) (by decide) ?_
  refine J_put (pc := 14) C dX0_init_14 (ci := 0) (k0 := 1) rfl iX0 tyX0 tyX0_ok nmX0 (by decide) k_182 rfl (ty := .int) (by decide +kernel) (fun _ => rfl) (fun _ => rfl) hf (fun w3 hf => ?_)
  refine J_aload_n (pc := 17) C dX0_init_17 rfl 0 rfl ?_
  refine J_iconst (pc := 18) C dX0_init_18 (v := -1) (by decide) ?_
  refine J_put (pc := 19) C dX0_init_19 (ci := 0) (k0 := 2) rfl iX0 tyX0 tyX0_ok nmX0 (by decide) k_188 rfl (ty := .int) (by decide +kernel) (fun _ => rfl) (fun _ => rfl) hf (fun w4 hf => ?_)
  refine J_widen (k := 1) (n := 60) (Nat.le_of_ble_eq_true rfl) (Nat.le_of_ble_eq_true rfl) ?_
  exact J_vret (pc := 22) C rfl dX0_init_22 hf
set_option maxRecDepth 100000 in
set_option maxHeartbeats 4000000 in
theorem c_X0_empty {l : Launch} {D : va_G} {dA : FieldType → ClassId} (w : MW) (v0 : Nat) {w' : MW} (hf : f_X0_empty w v0 = some w') : CT l D dA yX0_empty cX0_empty 1 none rmX0_empty [.ref v0] w none w' := by
  refine J_met (by decide) rfl (Nat.le_of_ble_eq_true rfl) (fun p e s m args below meth c A E C => ?_)
  rw [f_X0_empty] at hf
  refine J_sub [0] (L1 := [(0, .ref v0)]) rfl ?_
  refine J_aload_n (pc := 0) C dX0_empty_0 rfl 0 rfl ?_
  refine J_iconst (pc := 1) C dX0_empty_1 (v := 0) (by decide) ?_
  refine J_put (pc := 2) C dX0_empty_2 (ci := 0) (k0 := 1) rfl iX0 tyX0 tyX0_ok nmX0 (by decide) k_182 rfl (ty := .int) (by decide +kernel) (fun _ => rfl) (fun _ => rfl) hf (fun w1 hf => ?_)
  refine J_aload_n (pc := 5) C dX0_empty_5 rfl 0 rfl ?_
  refine J_iconst (pc := 6) C dX0_empty_6 (v := -1) (by decide) ?_
  refine J_put (pc := 7) C dX0_empty_7 (ci := 0) (k0 := 2) rfl iX0 tyX0 tyX0_ok nmX0 (by decide) k_188 rfl (ty := .int) (by decide +kernel) (fun _ => rfl) (fun _ => rfl) hf (fun w2 hf => ?_)
  exact J_vret (pc := 10) C rfl dX0_empty_10 hf
set_option maxRecDepth 100000 in
set_option maxHeartbeats 4000000 in
theorem c_X0_keyAt {l : Launch} {D : va_G} {dA : FieldType → ClassId} (w : MW) (v0 : Nat) (v1 : Int32) {rr : Int32} (hf : f_X0_keyAt w v0 v1 = some rr) : CT l D dA yX0_keyAt cX0_keyAt 2 (some .int) rmX0_keyAt [.ref v0, .int v1] w (some (.int rr)) w := by
  refine J_met (by decide) rfl (Nat.le_of_ble_eq_true rfl) (fun p e s m args below meth c A E C => ?_)
  rw [f_X0_keyAt] at hf
  refine J_sub [0, 1] (L1 := [(0, .ref v0), (1, .int v1)]) rfl ?_
  refine J_iload_n (pc := 0) C dX0_keyAt_0 rfl 1 rfl ?_
  refine J_if_lt (pc := 1) C dX0_keyAt_1 (tgt := 23) (by decide) hf (fun _ hf => ?_) (fun _ hf => ?_)
  · refine J_iconst (pc := 23) C dX0_keyAt_23 (v := -1) (by decide) ?_
    exact J_iretP (pc := 24) C  rfl rfl dX0_keyAt_24 hf
  · refine J_iload_n (pc := 4) C dX0_keyAt_4 rfl 1 rfl ?_
    refine J_aload_n (pc := 5) C dX0_keyAt_5 rfl 0 rfl ?_
    refine J_getI (pc := 6) C dX0_keyAt_6 (ci := 0) (k0 := 1) rfl iX0 (by decide) k_182 hf (fun x1 hf => ?_)
    refine J_icmp_ge (pc := 9) C dX0_keyAt_9 (tgt := 23) (by decide) hf (fun _ hf => ?_) (fun _ hf => ?_)
    · refine J_iconst (pc := 23) C dX0_keyAt_23 (v := -1) (by decide) ?_
      exact J_iretP (pc := 24) C  rfl rfl dX0_keyAt_24 hf
    · refine J_aload_n (pc := 12) C dX0_keyAt_12 rfl 0 rfl ?_
      refine J_getR (pc := 13) C dX0_keyAt_13 (ci := 0) (k0 := 0) rfl iX0 (by decide) k_180 hf (fun x2 hf => ?_)
      refine J_iload_n (pc := 16) C dX0_keyAt_16 rfl 1 rfl ?_
      refine J_iald (pc := 17) C dX0_keyAt_17 hf (fun x3 hf => ?_)
      refine J_iconst (pc := 18) C dX0_keyAt_18 (v := 1) (by decide) ?_
      refine J_ishr (pc := 19) C dX0_keyAt_19 ?_
      refine J_goto (pc := 20) C dX0_keyAt_20 (tgt := 24) (by decide) ?_
      exact J_iretP (pc := 24) C  rfl rfl dX0_keyAt_24 hf
set_option maxRecDepth 100000 in
set_option maxHeartbeats 4000000 in
theorem c_X0_markAt {l : Launch} {D : va_G} {dA : FieldType → ClassId} (w : MW) (v0 : Nat) (v1 : Int32) {rr : Int32} (hf : f_X0_markAt w v0 v1 = some rr) : CT l D dA yX0_markAt cX0_markAt 2 (some .int) rmX0_markAt [.ref v0, .int v1] w (some (.int rr)) w := by
  refine J_met (by decide) rfl (Nat.le_of_ble_eq_true rfl) (fun p e s m args below meth c A E C => ?_)
  rw [f_X0_markAt] at hf
  refine J_sub [0, 1] (L1 := [(0, .ref v0), (1, .int v1)]) rfl ?_
  refine J_iload_n (pc := 0) C dX0_markAt_0 rfl 1 rfl ?_
  refine J_if_lt (pc := 1) C dX0_markAt_1 (tgt := 23) (by decide) hf (fun _ hf => ?_) (fun _ hf => ?_)
  · refine J_iconst (pc := 23) C dX0_markAt_23 (v := 0) (by decide) ?_
    exact J_iretP (pc := 24) C  rfl rfl dX0_markAt_24 hf
  · refine J_iload_n (pc := 4) C dX0_markAt_4 rfl 1 rfl ?_
    refine J_aload_n (pc := 5) C dX0_markAt_5 rfl 0 rfl ?_
    refine J_getI (pc := 6) C dX0_markAt_6 (ci := 0) (k0 := 1) rfl iX0 (by decide) k_182 hf (fun x1 hf => ?_)
    refine J_icmp_ge (pc := 9) C dX0_markAt_9 (tgt := 23) (by decide) hf (fun _ hf => ?_) (fun _ hf => ?_)
    · refine J_iconst (pc := 23) C dX0_markAt_23 (v := 0) (by decide) ?_
      exact J_iretP (pc := 24) C  rfl rfl dX0_markAt_24 hf
    · refine J_aload_n (pc := 12) C dX0_markAt_12 rfl 0 rfl ?_
      refine J_getR (pc := 13) C dX0_markAt_13 (ci := 0) (k0 := 0) rfl iX0 (by decide) k_180 hf (fun x2 hf => ?_)
      refine J_iload_n (pc := 16) C dX0_markAt_16 rfl 1 rfl ?_
      refine J_iald (pc := 17) C dX0_markAt_17 hf (fun x3 hf => ?_)
      refine J_iconst (pc := 18) C dX0_markAt_18 (v := 1) (by decide) ?_
      refine J_iand (pc := 19) C dX0_markAt_19 ?_
      refine J_goto (pc := 20) C dX0_markAt_20 (tgt := 24) (by decide) ?_
      exact J_iretP (pc := 24) C  rfl rfl dX0_markAt_24 hf
set_option maxRecDepth 100000 in
set_option maxHeartbeats 4000000 in
theorem c_X0_below {l : Launch} {D : va_G} {dA : FieldType → ClassId} (fu : Nat) (w : MW) (v0 : Nat) (v1 : Int32) {rr : Int32} (hf : f_X0_below fu w v0 v1 = some rr) : CT l D dA yX0_below cX0_below 3 (some .int) rmX0_below [.ref v0, .int v1] w (some (.int rr)) w := by
  refine J_met (by decide) rfl (Nat.le_of_ble_eq_true rfl) (fun p e s m args below meth c A E C => ?_)
  have B2 : ∀ (n : Nat) (v0 : Nat) (v1 : Int32) (v2 : Int32), f_X0_below_2 fu w n v0 v1 v2 = some rr → JW p l e rmX0_below s m args below meth c 3 D dA A E (MQ below (Qr D dA E (some (.int rr)) w A) args s 0 0 A) 0 0 2 [(0, .ref v0), (1, .int v1), (2, .int v2)] [] w := by
    intro n
    induction n with
    | zero => intro v0 v1 v2 hf; rw [f_X0_below_2] at hf; cases hf
    | succ n ih =>
      intro v0 v1 v2 hf
      rw [f_X0_below_2] at hf
      refine J_iload_n (pc := 2) C dX0_below_2 rfl 2 rfl ?_
      refine J_aload_n (pc := 3) C dX0_below_3 rfl 0 rfl ?_
      refine J_getI (pc := 4) C dX0_below_4 (ci := 0) (k0 := 1) rfl iX0 (by decide) k_182 hf (fun x2 hf => ?_)
      refine J_icmp_ge (pc := 7) C dX0_below_7 (tgt := 28) (by decide) hf (fun _ hf => ?_) (fun _ hf => ?_)
      · refine J_iload_n (pc := 28) C dX0_below_28 rfl 2 rfl ?_
        exact J_iretP (pc := 29) C  rfl rfl dX0_below_29 hf
      · refine J_aload_n (pc := 10) C dX0_below_10 rfl 0 rfl ?_
        refine J_getR (pc := 11) C dX0_below_11 (ci := 0) (k0 := 0) rfl iX0 (by decide) k_180 hf (fun x3 hf => ?_)
        refine J_iload_n (pc := 14) C dX0_below_14 rfl 2 rfl ?_
        refine J_iald (pc := 15) C dX0_below_15 hf (fun x4 hf => ?_)
        refine J_iconst (pc := 16) C dX0_below_16 (v := 1) (by decide) ?_
        refine J_ishr (pc := 17) C dX0_below_17 ?_
        refine J_iload_n (pc := 18) C dX0_below_18 rfl 1 rfl ?_
        refine J_icmp_ge (pc := 19) C dX0_below_19 (tgt := 28) (by decide) hf (fun _ hf => ?_) (fun _ hf => ?_)
        · refine J_iload_n (pc := 28) C dX0_below_28 rfl 2 rfl ?_
          exact J_iretP (pc := 29) C  rfl rfl dX0_below_29 hf
        · refine J_iinc (pc := 22) C dX0_below_22 2 rfl (y := v2 + 1) rfl (by decide) hf (fun q => [(2, .int q), (0, .ref v0), (1, .int v1)]) (fun _ => rfl) (fun x5 hf => ?_)
          refine J_goto (pc := 25) C dX0_below_25 (tgt := 2) (by decide) ?_
          refine J_sub [1, 2, 0] (L1 := [(0, .ref v0), (1, .int v1), (2, .int x5)]) rfl ?_
          exact ih v0 v1 x5 hf
  rw [f_X0_below] at hf
  refine J_sub [0, 1] (L1 := [(0, .ref v0), (1, .int v1)]) rfl ?_
  refine J_iconst (pc := 0) C dX0_below_0 (v := 0) (by decide) ?_
  refine J_istore_n (pc := 1) C dX0_below_1 rfl (by decide) hf (fun q => [(2, .int q), (0, .ref v0), (1, .int v1)]) (fun _ => rfl) (fun x1 hf => ?_)
  refine J_sub [1, 2, 0] (L1 := [(0, .ref v0), (1, .int v1), (2, .int x1)]) rfl ?_
  exact B2 fu v0 v1 x1 hf
set_option maxRecDepth 100000 in
set_option maxHeartbeats 4000000 in
theorem c_X0_notAbove {l : Launch} {D : va_G} {dA : FieldType → ClassId} (fu : Nat) (w : MW) (v0 : Nat) (v1 : Int32) {rr : Int32} (hf : f_X0_notAbove fu w v0 v1 = some rr) : CT l D dA yX0_notAbove cX0_notAbove 3 (some .int) rmX0_notAbove [.ref v0, .int v1] w (some (.int rr)) w := by
  refine J_met (by decide) rfl (Nat.le_of_ble_eq_true rfl) (fun p e s m args below meth c A E C => ?_)
  have B2 : ∀ (n : Nat) (v0 : Nat) (v1 : Int32) (v2 : Int32), f_X0_notAbove_2 fu w n v0 v1 v2 = some rr → JW p l e rmX0_notAbove s m args below meth c 3 D dA A E (MQ below (Qr D dA E (some (.int rr)) w A) args s 0 0 A) 0 0 2 [(0, .ref v0), (1, .int v1), (2, .int v2)] [] w := by
    intro n
    induction n with
    | zero => intro v0 v1 v2 hf; rw [f_X0_notAbove_2] at hf; cases hf
    | succ n ih =>
      intro v0 v1 v2 hf
      rw [f_X0_notAbove_2] at hf
      refine J_iload_n (pc := 2) C dX0_notAbove_2 rfl 2 rfl ?_
      refine J_aload_n (pc := 3) C dX0_notAbove_3 rfl 0 rfl ?_
      refine J_getI (pc := 4) C dX0_notAbove_4 (ci := 0) (k0 := 1) rfl iX0 (by decide) k_182 hf (fun x2 hf => ?_)
      refine J_icmp_ge (pc := 7) C dX0_notAbove_7 (tgt := 28) (by decide) hf (fun _ hf => ?_) (fun _ hf => ?_)
      · refine J_iload_n (pc := 28) C dX0_notAbove_28 rfl 2 rfl ?_
        exact J_iretP (pc := 29) C  rfl rfl dX0_notAbove_29 hf
      · refine J_aload_n (pc := 10) C dX0_notAbove_10 rfl 0 rfl ?_
        refine J_getR (pc := 11) C dX0_notAbove_11 (ci := 0) (k0 := 0) rfl iX0 (by decide) k_180 hf (fun x3 hf => ?_)
        refine J_iload_n (pc := 14) C dX0_notAbove_14 rfl 2 rfl ?_
        refine J_iald (pc := 15) C dX0_notAbove_15 hf (fun x4 hf => ?_)
        refine J_iconst (pc := 16) C dX0_notAbove_16 (v := 1) (by decide) ?_
        refine J_ishr (pc := 17) C dX0_notAbove_17 ?_
        refine J_iload_n (pc := 18) C dX0_notAbove_18 rfl 1 rfl ?_
        refine J_icmp_gt (pc := 19) C dX0_notAbove_19 (tgt := 28) (by decide) hf (fun _ hf => ?_) (fun _ hf => ?_)
        · refine J_iload_n (pc := 28) C dX0_notAbove_28 rfl 2 rfl ?_
          exact J_iretP (pc := 29) C  rfl rfl dX0_notAbove_29 hf
        · refine J_iinc (pc := 22) C dX0_notAbove_22 2 rfl (y := v2 + 1) rfl (by decide) hf (fun q => [(2, .int q), (0, .ref v0), (1, .int v1)]) (fun _ => rfl) (fun x5 hf => ?_)
          refine J_goto (pc := 25) C dX0_notAbove_25 (tgt := 2) (by decide) ?_
          refine J_sub [1, 2, 0] (L1 := [(0, .ref v0), (1, .int v1), (2, .int x5)]) rfl ?_
          exact ih v0 v1 x5 hf
  rw [f_X0_notAbove] at hf
  refine J_sub [0, 1] (L1 := [(0, .ref v0), (1, .int v1)]) rfl ?_
  refine J_iconst (pc := 0) C dX0_notAbove_0 (v := 0) (by decide) ?_
  refine J_istore_n (pc := 1) C dX0_notAbove_1 rfl (by decide) hf (fun q => [(2, .int q), (0, .ref v0), (1, .int v1)]) (fun _ => rfl) (fun x1 hf => ?_)
  refine J_sub [1, 2, 0] (L1 := [(0, .ref v0), (1, .int v1), (2, .int x1)]) rfl ?_
  exact B2 fu v0 v1 x1 hf
set_option maxRecDepth 100000 in
set_option maxHeartbeats 4000000 in
theorem c_X0_rankOf {l : Launch} {D : va_G} {dA : FieldType → ClassId} (fu : Nat) (w : MW) (v0 : Nat) (v1 : Int32) {rr : Int32} (hf : f_X0_rankOf fu w v0 v1 = some rr) : CT l D dA yX0_rankOf cX0_rankOf 3 (some .int) rmX0_rankOf [.ref v0, .int v1] w (some (.int rr)) w := by
  refine J_met (by decide) rfl (Nat.le_of_ble_eq_true rfl) (fun p e s m args below meth c A E C => ?_)
  rw [f_X0_rankOf] at hf
  refine J_sub [0, 1] (L1 := [(0, .ref v0), (1, .int v1)]) rfl ?_
  refine J_aload_n (pc := 0) C dX0_rankOf_0 rfl 0 rfl ?_
  refine J_iload_n (pc := 1) C dX0_rankOf_1 rfl 1 rfl ?_
  obtain ⟨q1, h2, hf⟩ := bind_ok hf
  obtain ⟨_, g3, h2⟩ := cl_spec h2
  refine J_cV (S := []) (pc := 2) C dX0_rankOf_2 (c_X0_below _ _ _ _ h2) k_570 ys_X0_below ⟨Nat.le_of_ble_eq_true rfl, Nat.le_of_ble_eq_true rfl⟩ ⟨Nat.le_of_ble_eq_true rfl, Nat.le_of_ble_eq_true rfl⟩ g3 rfl rfl (fun _ => Nat.le_of_ble_eq_true rfl) ?_
  refine J_istore_n (pc := 5) C dX0_rankOf_5 rfl (by decide) hf (fun q => [(2, .int q), (0, .ref v0), (1, .int v1)]) (fun _ => rfl) (fun x4 hf => ?_)
  refine J_iload_n (pc := 6) C dX0_rankOf_6 rfl 0 rfl ?_
  refine J_aload_n (pc := 7) C dX0_rankOf_7 rfl 1 rfl ?_
  refine J_getI (pc := 8) C dX0_rankOf_8 (ci := 0) (k0 := 1) rfl iX0 (by decide) k_182 hf (fun x5 hf => ?_)
  refine J_icmp_ge (pc := 11) C dX0_rankOf_11 (tgt := 30) (by decide) hf (fun _ hf => ?_) (fun _ hf => ?_)
  · refine J_iconst (pc := 30) C dX0_rankOf_30 (v := -1) (by decide) ?_
    exact J_iretP (pc := 31) C  rfl rfl dX0_rankOf_31 hf
  · refine J_aload_n (pc := 14) C dX0_rankOf_14 rfl 1 rfl ?_
    refine J_getR (pc := 15) C dX0_rankOf_15 (ci := 0) (k0 := 0) rfl iX0 (by decide) k_180 hf (fun x6 hf => ?_)
    refine J_iload_n (pc := 18) C dX0_rankOf_18 rfl 0 rfl ?_
    refine J_iald (pc := 19) C dX0_rankOf_19 hf (fun x7 hf => ?_)
    refine J_iconst (pc := 20) C dX0_rankOf_20 (v := 1) (by decide) ?_
    refine J_ishr (pc := 21) C dX0_rankOf_21 ?_
    refine J_iload_n (pc := 22) C dX0_rankOf_22 rfl 2 rfl ?_
    refine J_icmp_ne (pc := 23) C dX0_rankOf_23 (tgt := 30) (by decide) hf (fun _ hf => ?_) (fun _ hf => ?_)
    · refine J_iconst (pc := 30) C dX0_rankOf_30 (v := -1) (by decide) ?_
      exact J_iretP (pc := 31) C  rfl rfl dX0_rankOf_31 hf
    · refine J_iload_n (pc := 26) C dX0_rankOf_26 rfl 0 rfl ?_
      refine J_goto (pc := 27) C dX0_rankOf_27 (tgt := 31) (by decide) ?_
      exact J_iretP (pc := 31) C  rfl rfl dX0_rankOf_31 hf
set_option maxRecDepth 100000 in
set_option maxHeartbeats 4000000 in
theorem c_X0_howManyBetween {l : Launch} {D : va_G} {dA : FieldType → ClassId} (fu : Nat) (w : MW) (v0 : Nat) (v1 : Int32) (v2 : Int32) {rr : Int32} (hf : f_X0_howManyBetween fu w v0 v1 v2 = some rr) : CT l D dA yX0_howManyBetween cX0_howManyBetween 3 (some .int) rmX0_howManyBetween [.ref v0, .int v1, .int v2] w (some (.int rr)) w := by
  refine J_met (by decide) rfl (Nat.le_of_ble_eq_true rfl) (fun p e s m args below meth c A E C => ?_)
  rw [f_X0_howManyBetween] at hf
  refine J_sub [0, 1, 2] (L1 := [(0, .ref v0), (1, .int v1), (2, .int v2)]) rfl ?_
  refine J_iconst (pc := 0) C dX0_howManyBetween_0 (v := 0) (by decide) ?_
  refine J_aload_n (pc := 1) C dX0_howManyBetween_1 rfl 0 rfl ?_
  refine J_iload_n (pc := 2) C dX0_howManyBetween_2 rfl 2 rfl ?_
  obtain ⟨q1, h2, hf⟩ := bind_ok hf
  obtain ⟨_, g3, h2⟩ := cl_spec h2
  refine J_cV (S := [.int (0 : Int32)]) (pc := 3) C dX0_howManyBetween_3 (c_X0_notAbove _ _ _ _ h2) k_599 ys_X0_notAbove ⟨Nat.le_of_ble_eq_true rfl, Nat.le_of_ble_eq_true rfl⟩ ⟨Nat.le_of_ble_eq_true rfl, Nat.le_of_ble_eq_true rfl⟩ g3 rfl rfl (fun _ => Nat.le_of_ble_eq_true rfl) ?_
  refine J_aload_n (pc := 6) C dX0_howManyBetween_6 rfl 0 rfl ?_
  refine J_iload_n (pc := 7) C dX0_howManyBetween_7 rfl 1 rfl ?_
  obtain ⟨q4, h5, hf⟩ := bind_ok hf
  obtain ⟨_, g6, h5⟩ := cl_spec h5
  refine J_cV (S := [.int q1, .int (0 : Int32)]) (pc := 8) C dX0_howManyBetween_8 (c_X0_below _ _ _ _ h5) k_570 ys_X0_below ⟨Nat.le_of_ble_eq_true rfl, Nat.le_of_ble_eq_true rfl⟩ ⟨Nat.le_of_ble_eq_true rfl, Nat.le_of_ble_eq_true rfl⟩ g6 rfl rfl (fun _ => Nat.le_of_ble_eq_true rfl) ?_
  refine J_isub (pc := 11) C dX0_howManyBetween_11 ?_
  refine J_max (pc := 12) C dX0_howManyBetween_12 k_675 k_645 k_88 k_646 (Nat.le_of_ble_eq_true rfl) (fun _ => Nat.le_of_ble_eq_true rfl) ⟨Nat.le_of_ble_eq_true rfl, Nat.le_of_ble_eq_true rfl⟩ ?_
  exact J_iretP (pc := 15) C  rfl rfl dX0_howManyBetween_15 hf
set_option maxRecDepth 100000 in
set_option maxHeartbeats 4000000 in
theorem c_X0_markedBetween {l : Launch} {D : va_G} {dA : FieldType → ClassId} (fu : Nat) (w : MW) (v0 : Nat) (v1 : Int32) (v2 : Int32) {rr : Int32} (hf : f_X0_markedBetween fu w v0 v1 v2 = some rr) : CT l D dA yX0_markedBetween cX0_markedBetween 6 (some .int) rmX0_markedBetween [.ref v0, .int v1, .int v2] w (some (.int rr)) w := by
  refine J_met (by decide) rfl (Nat.le_of_ble_eq_true rfl) (fun p e s m args below meth c A E C => ?_)
  have B16 : ∀ (n : Nat) (v0 : Nat) (v3 : Int32) (v4 : Int32) (v5 : Int32), f_X0_markedBetween_16 fu w n v0 v3 v4 v5 = some rr → JW p l e rmX0_markedBetween s m args below meth c 6 D dA A E (MQ below (Qr D dA E (some (.int rr)) w A) args s 0 0 A) 0 0 16 [(0, .ref v0), (3, .int v3), (4, .int v4), (5, .int v5)] [] w := by
    intro n
    induction n with
    | zero => intro v0 v3 v4 v5 hf; rw [f_X0_markedBetween_16] at hf; cases hf
    | succ n ih =>
      intro v0 v3 v4 v5 hf
      rw [f_X0_markedBetween_16] at hf
      refine J_iload (pc := 16) C dX0_markedBetween_16 3 rfl ?_
      refine J_iload_n (pc := 18) C dX0_markedBetween_18 rfl 1 rfl ?_
      refine J_icmp_ge (pc := 19) C dX0_markedBetween_19 (tgt := 39) (by decide) hf (fun _ hf => ?_) (fun _ hf => ?_)
      · refine J_iload (pc := 39) C dX0_markedBetween_39 2 rfl ?_
        exact J_iretP (pc := 41) C  rfl rfl dX0_markedBetween_41 hf
      · refine J_iload (pc := 22) C dX0_markedBetween_22 2 rfl ?_
        refine J_aload_n (pc := 24) C dX0_markedBetween_24 rfl 0 rfl ?_
        refine J_iload (pc := 25) C dX0_markedBetween_25 3 rfl ?_
        obtain ⟨q10, h11, hf⟩ := bind_ok hf
        obtain ⟨_, g12, h11⟩ := cl_spec h11
        refine J_cV (S := [.int v4]) (pc := 27) C dX0_markedBetween_27 (c_X0_markAt _ _ _ h11) k_808 ys_X0_markAt ⟨Nat.le_of_ble_eq_true rfl, Nat.le_of_ble_eq_true rfl⟩ ⟨Nat.le_of_ble_eq_true rfl, Nat.le_of_ble_eq_true rfl⟩ g12 rfl rfl (fun _ => Nat.le_of_ble_eq_true rfl) ?_
        refine J_iadd (pc := 30) C dX0_markedBetween_30 ?_
        refine J_istore (pc := 31) C dX0_markedBetween_31 (by decide) hf (fun q => [(4, .int q), (0, .ref v0), (3, .int v3), (5, .int v5)]) (fun _ => rfl) (fun x13 hf => ?_)
        refine J_iinc (pc := 33) C dX0_markedBetween_33 3 rfl (y := v5 + 1) rfl (by decide) hf (fun q => [(5, .int q), (4, .int x13), (0, .ref v0), (3, .int v3)]) (fun _ => rfl) (fun x14 hf => ?_)
        refine J_goto (pc := 36) C dX0_markedBetween_36 (tgt := 16) (by decide) ?_
        refine J_sub [2, 3, 1, 0] (L1 := [(0, .ref v0), (3, .int v3), (4, .int x13), (5, .int x14)]) rfl ?_
        exact ih v0 v3 x13 x14 hf
  rw [f_X0_markedBetween] at hf
  refine J_sub [0, 1, 2] (L1 := [(0, .ref v0), (1, .int v1), (2, .int v2)]) rfl ?_
  refine J_aload_n (pc := 0) C dX0_markedBetween_0 rfl 0 rfl ?_
  refine J_iload_n (pc := 1) C dX0_markedBetween_1 rfl 2 rfl ?_
  obtain ⟨q1, h2, hf⟩ := bind_ok hf
  obtain ⟨_, g3, h2⟩ := cl_spec h2
  refine J_cV (S := []) (pc := 2) C dX0_markedBetween_2 (c_X0_notAbove _ _ _ _ h2) k_599 ys_X0_notAbove ⟨Nat.le_of_ble_eq_true rfl, Nat.le_of_ble_eq_true rfl⟩ ⟨Nat.le_of_ble_eq_true rfl, Nat.le_of_ble_eq_true rfl⟩ g3 rfl rfl (fun _ => Nat.le_of_ble_eq_true rfl) ?_
  refine J_istore_n (pc := 5) C dX0_markedBetween_5 rfl (by decide) hf (fun q => [(3, .int q), (0, .ref v0), (1, .int v1), (2, .int v2)]) (fun _ => rfl) (fun x4 hf => ?_)
  refine J_iconst (pc := 6) C dX0_markedBetween_6 (v := 0) (by decide) ?_
  refine J_istore (pc := 7) C dX0_markedBetween_7 (by decide) hf (fun q => [(4, .int q), (3, .int x4), (0, .ref v0), (1, .int v1), (2, .int v2)]) (fun _ => rfl) (fun x5 hf => ?_)
  refine J_aload_n (pc := 9) C dX0_markedBetween_9 rfl 2 rfl ?_
  refine J_iload_n (pc := 10) C dX0_markedBetween_10 rfl 3 rfl ?_
  obtain ⟨q6, h7, hf⟩ := bind_ok hf
  obtain ⟨_, g8, h7⟩ := cl_spec h7
  refine J_cV (S := []) (pc := 11) C dX0_markedBetween_11 (c_X0_below _ _ _ _ h7) k_570 ys_X0_below ⟨Nat.le_of_ble_eq_true rfl, Nat.le_of_ble_eq_true rfl⟩ ⟨Nat.le_of_ble_eq_true rfl, Nat.le_of_ble_eq_true rfl⟩ g8 rfl rfl (fun _ => Nat.le_of_ble_eq_true rfl) ?_
  refine J_istore (pc := 14) C dX0_markedBetween_14 (by decide) hf (fun q => [(5, .int q), (4, .int x5), (3, .int x4), (0, .ref v0), (1, .int v1), (2, .int v2)]) (fun _ => rfl) (fun x9 hf => ?_)
  refine J_sub [3, 2, 1, 0] (L1 := [(0, .ref v0), (3, .int x4), (4, .int x5), (5, .int x9)]) rfl ?_
  exact B16 fu v0 x4 x5 x9 hf
set_option maxRecDepth 100000 in
set_option maxHeartbeats 4000000 in
theorem c_X0_leastDifference {l : Launch} {D : va_G} {dA : FieldType → ClassId} (fu : Nat) (w : MW) (v0 : Nat) {rr : Int32} (hf : f_X0_leastDifference fu w v0 = some rr) : CT l D dA yX0_leastDifference cX0_leastDifference 4 (some .int) rmX0_leastDifference [.ref v0] w (some (.int rr)) w := by
  refine J_met (by decide) rfl (Nat.le_of_ble_eq_true rfl) (fun p e s m args below meth c A E C => ?_)
  have B40 : ∀ (lr4 : Nat → Int32 → Int32 → Option Int32) (lh4 : ∀ (v0 : Nat) (v1 : Int32) (v2 : Int32), lr4 v0 v1 v2 = some rr → JW p l e rmX0_leastDifference s m args below meth c 4 D dA A E (MQ below (Qr D dA E (some (.int rr)) w A) args s 0 0 A) 0 0 4 [(0, .ref v0), (1, .int v1), (2, .int v2)] [] w) (v0 : Nat) (v2 : Int32) (s0 : Int32), f_X0_leastDifference_40 fu w lr4 v0 v2 s0 = some rr → JW p l e rmX0_leastDifference s m args below meth c 4 D dA A E (MQ below (Qr D dA E (some (.int rr)) w A) args s 0 0 A) 0 0 40 [(0, .ref v0), (2, .int v2)] [.int s0] w := by
    intro lr4 lh4 v0 v2 s0 hf
    rw [f_X0_leastDifference_40] at hf
    refine J_istore_n (pc := 40) C dX0_leastDifference_40 rfl (by decide) hf (fun q => [(1, .int q), (0, .ref v0), (2, .int v2)]) (fun _ => rfl) (fun x11 hf => ?_)
    refine J_iinc (pc := 41) C dX0_leastDifference_41 2 rfl (y := v2 + 1) rfl (by decide) hf (fun q => [(2, .int q), (1, .int x11), (0, .ref v0)]) (fun _ => rfl) (fun x12 hf => ?_)
    refine J_goto (pc := 44) C dX0_leastDifference_44 (tgt := 4) (by decide) ?_
    refine J_sub [2, 1, 0] (L1 := [(0, .ref v0), (1, .int x11), (2, .int x12)]) rfl ?_
    exact lh4 v0 x11 x12 hf
  have B4 : ∀ (n : Nat) (v0 : Nat) (v1 : Int32) (v2 : Int32), f_X0_leastDifference_4 fu w n v0 v1 v2 = some rr → JW p l e rmX0_leastDifference s m args below meth c 4 D dA A E (MQ below (Qr D dA E (some (.int rr)) w A) args s 0 0 A) 0 0 4 [(0, .ref v0), (1, .int v1), (2, .int v2)] [] w := by
    intro n
    induction n with
    | zero => intro v0 v1 v2 hf; rw [f_X0_leastDifference_4] at hf; cases hf
    | succ n ih =>
      intro v0 v1 v2 hf
      rw [f_X0_leastDifference_4] at hf
      refine J_iload_n (pc := 4) C dX0_leastDifference_4 rfl 2 rfl ?_
      refine J_aload_n (pc := 5) C dX0_leastDifference_5 rfl 0 rfl ?_
      refine J_getI (pc := 6) C dX0_leastDifference_6 (ci := 0) (k0 := 1) rfl iX0 (by decide) k_182 hf (fun x3 hf => ?_)
      refine J_icmp_ge (pc := 9) C dX0_leastDifference_9 (tgt := 47) (by decide) hf (fun _ hf => ?_) (fun _ hf => ?_)
      · refine J_iload_n (pc := 47) C dX0_leastDifference_47 rfl 1 rfl ?_
        exact J_iretP (pc := 48) C  rfl rfl dX0_leastDifference_48 hf
      · refine J_aload_n (pc := 12) C dX0_leastDifference_12 rfl 0 rfl ?_
        refine J_iload_n (pc := 13) C dX0_leastDifference_13 rfl 2 rfl ?_
        obtain ⟨q4, h5, hf⟩ := bind_ok hf
        obtain ⟨_, g6, h5⟩ := cl_spec h5
        refine J_cV (S := []) (pc := 14) C dX0_leastDifference_14 (c_X0_keyAt _ _ _ h5) k_656 ys_X0_keyAt ⟨Nat.le_of_ble_eq_true rfl, Nat.le_of_ble_eq_true rfl⟩ ⟨Nat.le_of_ble_eq_true rfl, Nat.le_of_ble_eq_true rfl⟩ g6 rfl rfl (fun _ => Nat.le_of_ble_eq_true rfl) ?_
        refine J_aload_n (pc := 17) C dX0_leastDifference_17 rfl 0 rfl ?_
        refine J_iload_n (pc := 18) C dX0_leastDifference_18 rfl 2 rfl ?_
        refine J_iconst (pc := 19) C dX0_leastDifference_19 (v := 1) (by decide) ?_
        refine J_isub (pc := 20) C dX0_leastDifference_20 ?_
        obtain ⟨q7, h8, hf⟩ := bind_ok hf
        obtain ⟨_, g9, h8⟩ := cl_spec h8
        refine J_cV (S := [.int q4]) (pc := 21) C dX0_leastDifference_21 (c_X0_keyAt _ _ _ h8) k_656 ys_X0_keyAt ⟨Nat.le_of_ble_eq_true rfl, Nat.le_of_ble_eq_true rfl⟩ ⟨Nat.le_of_ble_eq_true rfl, Nat.le_of_ble_eq_true rfl⟩ g9 rfl rfl (fun _ => Nat.le_of_ble_eq_true rfl) ?_
        refine J_isub (pc := 24) C dX0_leastDifference_24 ?_
        refine J_istore_n (pc := 25) C dX0_leastDifference_25 rfl (by decide) hf (fun q => [(3, .int q), (0, .ref v0), (1, .int v1), (2, .int v2)]) (fun _ => rfl) (fun x10 hf => ?_)
        refine J_iload_n (pc := 26) C dX0_leastDifference_26 rfl 2 rfl ?_
        refine J_iconst (pc := 27) C dX0_leastDifference_27 (v := -1) (by decide) ?_
        refine J_icmp_ne (pc := 28) C dX0_leastDifference_28 (tgt := 35) (by decide) hf (fun _ hf => ?_) (fun _ hf => ?_)
        · refine J_iload_n (pc := 35) C dX0_leastDifference_35 rfl 2 rfl ?_
          refine J_iload_n (pc := 36) C dX0_leastDifference_36 rfl 0 rfl ?_
          refine J_min (pc := 37) C dX0_leastDifference_37 k_655 k_421 k_88 k_422 (Nat.le_of_ble_eq_true rfl) (fun _ => Nat.le_of_ble_eq_true rfl) ⟨Nat.le_of_ble_eq_true rfl, Nat.le_of_ble_eq_true rfl⟩ ?_
          refine J_sub [1, 3] (L1 := [(0, .ref v0), (2, .int v2)]) rfl ?_
          exact B40 (f_X0_leastDifference_4 fu w n) ih v0 v2 (imin v1 x10) hf
        · refine J_iload_n (pc := 31) C dX0_leastDifference_31 rfl 0 rfl ?_
          refine J_goto (pc := 32) C dX0_leastDifference_32 (tgt := 40) (by decide) ?_
          refine J_sub [1, 3] (L1 := [(0, .ref v0), (2, .int v2)]) rfl ?_
          exact B40 (f_X0_leastDifference_4 fu w n) ih v0 v2 x10 hf
  rw [f_X0_leastDifference] at hf
  refine J_sub [0] (L1 := [(0, .ref v0)]) rfl ?_
  refine J_iconst (pc := 0) C dX0_leastDifference_0 (v := -1) (by decide) ?_
  refine J_istore_n (pc := 1) C dX0_leastDifference_1 rfl (by decide) hf (fun q => [(1, .int q), (0, .ref v0)]) (fun _ => rfl) (fun x1 hf => ?_)
  refine J_iconst (pc := 2) C dX0_leastDifference_2 (v := 1) (by decide) ?_
  refine J_istore_n (pc := 3) C dX0_leastDifference_3 rfl (by decide) hf (fun q => [(2, .int q), (1, .int x1), (0, .ref v0)]) (fun _ => rfl) (fun x2 hf => ?_)
  refine J_sub [2, 1, 0] (L1 := [(0, .ref v0), (1, .int x1), (2, .int x2)]) rfl ?_
  exact B4 fu v0 x1 x2 hf
set_option maxRecDepth 100000 in
set_option maxHeartbeats 4000000 in
theorem c_X0_stretches {l : Launch} {D : va_G} {dA : FieldType → ClassId} (fu : Nat) (w : MW) (v0 : Nat) {rr : Int32} (hf : f_X0_stretches fu w v0 = some rr) : CT l D dA yX0_stretches cX0_stretches 3 (some .int) rmX0_stretches [.ref v0] w (some (.int rr)) w := by
  refine J_met (by decide) rfl (Nat.le_of_ble_eq_true rfl) (fun p e s m args below meth c A E C => ?_)
  have B36 : ∀ (lr4 : Nat → Int32 → Int32 → Option Int32) (lh4 : ∀ (v0 : Nat) (v1 : Int32) (v2 : Int32), lr4 v0 v1 v2 = some rr → JW p l e rmX0_stretches s m args below meth c 3 D dA A E (MQ below (Qr D dA E (some (.int rr)) w A) args s 0 0 A) 0 0 4 [(0, .ref v0), (1, .int v1), (2, .int v2)] [] w) (v0 : Nat) (v1 : Int32) (v2 : Int32), f_X0_stretches_36 fu w lr4 v0 v1 v2 = some rr → JW p l e rmX0_stretches s m args below meth c 3 D dA A E (MQ below (Qr D dA E (some (.int rr)) w A) args s 0 0 A) 0 0 36 [(0, .ref v0), (1, .int v1), (2, .int v2)] [] w := by
    intro lr4 lh4 v0 v1 v2 hf
    rw [f_X0_stretches_36] at hf
    refine J_iinc (pc := 36) C dX0_stretches_36 2 rfl (y := v2 + 1) rfl (by decide) hf (fun q => [(2, .int q), (0, .ref v0), (1, .int v1)]) (fun _ => rfl) (fun x5 hf => ?_)
    refine J_goto (pc := 39) C dX0_stretches_39 (tgt := 4) (by decide) ?_
    refine J_sub [1, 2, 0] (L1 := [(0, .ref v0), (1, .int v1), (2, .int x5)]) rfl ?_
    exact lh4 v0 v1 x5 hf
  have B33 : ∀ (lr4 : Nat → Int32 → Int32 → Option Int32) (lh4 : ∀ (v0 : Nat) (v1 : Int32) (v2 : Int32), lr4 v0 v1 v2 = some rr → JW p l e rmX0_stretches s m args below meth c 3 D dA A E (MQ below (Qr D dA E (some (.int rr)) w A) args s 0 0 A) 0 0 4 [(0, .ref v0), (1, .int v1), (2, .int v2)] [] w) (v0 : Nat) (v1 : Int32) (v2 : Int32), f_X0_stretches_33 fu w lr4 v0 v1 v2 = some rr → JW p l e rmX0_stretches s m args below meth c 3 D dA A E (MQ below (Qr D dA E (some (.int rr)) w A) args s 0 0 A) 0 0 33 [(0, .ref v0), (1, .int v1), (2, .int v2)] [] w := by
    intro lr4 lh4 v0 v1 v2 hf
    rw [f_X0_stretches_33] at hf
    refine J_iinc (pc := 33) C dX0_stretches_33 1 rfl (y := v1 + 1) rfl (by decide) hf (fun q => [(1, .int q), (0, .ref v0), (2, .int v2)]) (fun _ => rfl) (fun x4 hf => ?_)
    refine J_sub [1, 0, 2] (L1 := [(0, .ref v0), (1, .int x4), (2, .int v2)]) rfl ?_
    exact B36 lr4 lh4 v0 x4 v2 hf
  have B4 : ∀ (n : Nat) (v0 : Nat) (v1 : Int32) (v2 : Int32), f_X0_stretches_4 fu w n v0 v1 v2 = some rr → JW p l e rmX0_stretches s m args below meth c 3 D dA A E (MQ below (Qr D dA E (some (.int rr)) w A) args s 0 0 A) 0 0 4 [(0, .ref v0), (1, .int v1), (2, .int v2)] [] w := by
    intro n
    induction n with
    | zero => intro v0 v1 v2 hf; rw [f_X0_stretches_4] at hf; cases hf
    | succ n ih =>
      intro v0 v1 v2 hf
      rw [f_X0_stretches_4] at hf
      refine J_iload_n (pc := 4) C dX0_stretches_4 rfl 2 rfl ?_
      refine J_aload_n (pc := 5) C dX0_stretches_5 rfl 0 rfl ?_
      refine J_getI (pc := 6) C dX0_stretches_6 (ci := 0) (k0 := 1) rfl iX0 (by decide) k_182 hf (fun x3 hf => ?_)
      refine J_icmp_ge (pc := 9) C dX0_stretches_9 (tgt := 42) (by decide) hf (fun _ hf => ?_) (fun _ hf => ?_)
      · refine J_iload_n (pc := 42) C dX0_stretches_42 rfl 1 rfl ?_
        exact J_iretP (pc := 43) C  rfl rfl dX0_stretches_43 hf
      · refine J_iload_n (pc := 12) C dX0_stretches_12 rfl 2 rfl ?_
        refine J_if_eq (pc := 13) C dX0_stretches_13 (tgt := 33) (by decide) hf (fun _ hf => ?_) (fun _ hf => ?_)
        · refine J_sub [0, 1, 2] (L1 := [(0, .ref v0), (1, .int v1), (2, .int v2)]) rfl ?_
          exact B33 (f_X0_stretches_4 fu w n) ih v0 v1 v2 hf
        · refine J_aload_n (pc := 16) C dX0_stretches_16 rfl 0 rfl ?_
          refine J_iload_n (pc := 17) C dX0_stretches_17 rfl 2 rfl ?_
          obtain ⟨q6, h7, hf⟩ := bind_ok hf
          obtain ⟨_, g8, h7⟩ := cl_spec h7
          refine J_cV (S := []) (pc := 18) C dX0_stretches_18 (c_X0_keyAt _ _ _ h7) k_656 ys_X0_keyAt ⟨Nat.le_of_ble_eq_true rfl, Nat.le_of_ble_eq_true rfl⟩ ⟨Nat.le_of_ble_eq_true rfl, Nat.le_of_ble_eq_true rfl⟩ g8 rfl rfl (fun _ => Nat.le_of_ble_eq_true rfl) ?_
          refine J_aload_n (pc := 21) C dX0_stretches_21 rfl 0 rfl ?_
          refine J_iload_n (pc := 22) C dX0_stretches_22 rfl 2 rfl ?_
          refine J_iconst (pc := 23) C dX0_stretches_23 (v := 1) (by decide) ?_
          refine J_isub (pc := 24) C dX0_stretches_24 ?_
          obtain ⟨q9, h10, hf⟩ := bind_ok hf
          obtain ⟨_, g11, h10⟩ := cl_spec h10
          refine J_cV (S := [.int q6]) (pc := 25) C dX0_stretches_25 (c_X0_keyAt _ _ _ h10) k_656 ys_X0_keyAt ⟨Nat.le_of_ble_eq_true rfl, Nat.le_of_ble_eq_true rfl⟩ ⟨Nat.le_of_ble_eq_true rfl, Nat.le_of_ble_eq_true rfl⟩ g11 rfl rfl (fun _ => Nat.le_of_ble_eq_true rfl) ?_
          refine J_isub (pc := 28) C dX0_stretches_28 ?_
          refine J_iconst (pc := 29) C dX0_stretches_29 (v := 1) (by decide) ?_
          refine J_icmp_le (pc := 30) C dX0_stretches_30 (tgt := 36) (by decide) hf (fun _ hf => ?_) (fun _ hf => ?_)
          · refine J_sub [0, 1, 2] (L1 := [(0, .ref v0), (1, .int v1), (2, .int v2)]) rfl ?_
            exact B36 (f_X0_stretches_4 fu w n) ih v0 v1 v2 hf
          · refine J_sub [0, 1, 2] (L1 := [(0, .ref v0), (1, .int v1), (2, .int v2)]) rfl ?_
            exact B33 (f_X0_stretches_4 fu w n) ih v0 v1 v2 hf
  rw [f_X0_stretches] at hf
  refine J_sub [0] (L1 := [(0, .ref v0)]) rfl ?_
  refine J_iconst (pc := 0) C dX0_stretches_0 (v := 0) (by decide) ?_
  refine J_istore_n (pc := 1) C dX0_stretches_1 rfl (by decide) hf (fun q => [(1, .int q), (0, .ref v0)]) (fun _ => rfl) (fun x1 hf => ?_)
  refine J_iconst (pc := 2) C dX0_stretches_2 (v := 0) (by decide) ?_
  refine J_istore_n (pc := 3) C dX0_stretches_3 rfl (by decide) hf (fun q => [(2, .int q), (1, .int x1), (0, .ref v0)]) (fun _ => rfl) (fun x2 hf => ?_)
  refine J_sub [2, 1, 0] (L1 := [(0, .ref v0), (1, .int x1), (2, .int x2)]) rfl ?_
  exact B4 fu v0 x1 x2 hf
set_option maxRecDepth 100000 in
set_option maxHeartbeats 4000000 in
theorem c_X0_sum {l : Launch} {D : va_G} {dA : FieldType → ClassId} (fu : Nat) (w : MW) (v0 : Nat) {rr : Int32} (hf : f_X0_sum fu w v0 = some rr) : CT l D dA yX0_sum cX0_sum 3 (some .int) rmX0_sum [.ref v0] w (some (.int rr)) w := by
  refine J_met (by decide) rfl (Nat.le_of_ble_eq_true rfl) (fun p e s m args below meth c A E C => ?_)
  have B4 : ∀ (n : Nat) (v0 : Nat) (v1 : Int32) (v2 : Int32), f_X0_sum_4 fu w n v0 v1 v2 = some rr → JW p l e rmX0_sum s m args below meth c 3 D dA A E (MQ below (Qr D dA E (some (.int rr)) w A) args s 0 0 A) 0 0 4 [(0, .ref v0), (1, .int v1), (2, .int v2)] [] w := by
    intro n
    induction n with
    | zero => intro v0 v1 v2 hf; rw [f_X0_sum_4] at hf; cases hf
    | succ n ih =>
      intro v0 v1 v2 hf
      rw [f_X0_sum_4] at hf
      refine J_iload_n (pc := 4) C dX0_sum_4 rfl 2 rfl ?_
      refine J_aload_n (pc := 5) C dX0_sum_5 rfl 0 rfl ?_
      refine J_getI (pc := 6) C dX0_sum_6 (ci := 0) (k0 := 1) rfl iX0 (by decide) k_182 hf (fun x3 hf => ?_)
      refine J_icmp_ge (pc := 9) C dX0_sum_9 (tgt := 26) (by decide) hf (fun _ hf => ?_) (fun _ hf => ?_)
      · refine J_iload_n (pc := 26) C dX0_sum_26 rfl 1 rfl ?_
        exact J_iretP (pc := 27) C  rfl rfl dX0_sum_27 hf
      · refine J_iload_n (pc := 12) C dX0_sum_12 rfl 1 rfl ?_
        refine J_aload_n (pc := 13) C dX0_sum_13 rfl 0 rfl ?_
        refine J_iload_n (pc := 14) C dX0_sum_14 rfl 2 rfl ?_
        obtain ⟨q4, h5, hf⟩ := bind_ok hf
        obtain ⟨_, g6, h5⟩ := cl_spec h5
        refine J_cV (S := [.int v1]) (pc := 15) C dX0_sum_15 (c_X0_keyAt _ _ _ h5) k_656 ys_X0_keyAt ⟨Nat.le_of_ble_eq_true rfl, Nat.le_of_ble_eq_true rfl⟩ ⟨Nat.le_of_ble_eq_true rfl, Nat.le_of_ble_eq_true rfl⟩ g6 rfl rfl (fun _ => Nat.le_of_ble_eq_true rfl) ?_
        refine J_iadd (pc := 18) C dX0_sum_18 ?_
        refine J_istore_n (pc := 19) C dX0_sum_19 rfl (by decide) hf (fun q => [(1, .int q), (0, .ref v0), (2, .int v2)]) (fun _ => rfl) (fun x7 hf => ?_)
        refine J_iinc (pc := 20) C dX0_sum_20 2 rfl (y := v2 + 1) rfl (by decide) hf (fun q => [(2, .int q), (1, .int x7), (0, .ref v0)]) (fun _ => rfl) (fun x8 hf => ?_)
        refine J_goto (pc := 23) C dX0_sum_23 (tgt := 4) (by decide) ?_
        refine J_sub [2, 1, 0] (L1 := [(0, .ref v0), (1, .int x7), (2, .int x8)]) rfl ?_
        exact ih v0 x7 x8 hf
  rw [f_X0_sum] at hf
  refine J_sub [0] (L1 := [(0, .ref v0)]) rfl ?_
  refine J_iconst (pc := 0) C dX0_sum_0 (v := 0) (by decide) ?_
  refine J_istore_n (pc := 1) C dX0_sum_1 rfl (by decide) hf (fun q => [(1, .int q), (0, .ref v0)]) (fun _ => rfl) (fun x1 hf => ?_)
  refine J_iconst (pc := 2) C dX0_sum_2 (v := 0) (by decide) ?_
  refine J_istore_n (pc := 3) C dX0_sum_3 rfl (by decide) hf (fun q => [(2, .int q), (1, .int x1), (0, .ref v0)]) (fun _ => rfl) (fun x2 hf => ?_)
  refine J_sub [2, 1, 0] (L1 := [(0, .ref v0), (1, .int x1), (2, .int x2)]) rfl ?_
  exact B4 fu v0 x1 x2 hf
set_option maxRecDepth 100000 in
set_option maxHeartbeats 4000000 in
theorem c_X0_lastToldWith {l : Launch} {D : va_G} {dA : FieldType → ClassId} (fu : Nat) (w : MW) (v0 : Nat) (v1 : Int32) {rr : Int32} (hf : f_X0_lastToldWith fu w v0 v1 = some rr) : CT l D dA yX0_lastToldWith cX0_lastToldWith 3 (some .int) rmX0_lastToldWith [.ref v0, .int v1] w (some (.int rr)) w := by
  refine J_met (by decide) rfl (Nat.le_of_ble_eq_true rfl) (fun p e s m args below meth c A E C => ?_)
  have B41 : ∀ (v1 : Int32) (v2 : Int32), f_X0_lastToldWith_41 fu w v1 v2 = some rr → JW p l e rmX0_lastToldWith s m args below meth c 3 D dA A E (MQ below (Qr D dA E (some (.int rr)) w A) args s 0 0 A) 0 0 41 [(1, .int v1), (2, .int v2)] [] w := by
    intro v1 v2 hf
    rw [f_X0_lastToldWith_41] at hf
    refine J_iload_n (pc := 41) C dX0_lastToldWith_41 rfl 1 rfl ?_
    refine J_iload_n (pc := 42) C dX0_lastToldWith_42 rfl 0 rfl ?_
    refine J_isub (pc := 43) C dX0_lastToldWith_43 ?_
    refine J_iconst (pc := 44) C dX0_lastToldWith_44 (v := 2) (by decide) ?_
    refine J_icmp_ge (pc := 45) C dX0_lastToldWith_45 (tgt := 52) (by decide) hf (fun _ hf => ?_) (fun _ hf => ?_)
    · refine J_iload_n (pc := 52) C dX0_lastToldWith_52 rfl 1 rfl ?_
      exact J_iretP (pc := 53) C  rfl rfl dX0_lastToldWith_53 hf
    · refine J_iload_n (pc := 48) C dX0_lastToldWith_48 rfl 0 rfl ?_
      refine J_goto (pc := 49) C dX0_lastToldWith_49 (tgt := 53) (by decide) ?_
      exact J_iretP (pc := 53) C  rfl rfl dX0_lastToldWith_53 hf
  have B6 : ∀ (n : Nat) (v0 : Nat) (v1 : Int32) (v2 : Int32), f_X0_lastToldWith_6 fu w n v0 v1 v2 = some rr → JW p l e rmX0_lastToldWith s m args below meth c 3 D dA A E (MQ below (Qr D dA E (some (.int rr)) w A) args s 0 0 A) 0 0 6 [(0, .ref v0), (1, .int v1), (2, .int v2)] [] w := by
    intro n
    induction n with
    | zero => intro v0 v1 v2 hf; rw [f_X0_lastToldWith_6] at hf; cases hf
    | succ n ih =>
      intro v0 v1 v2 hf
      rw [f_X0_lastToldWith_6] at hf
      refine J_iload_n (pc := 6) C dX0_lastToldWith_6 rfl 2 rfl ?_
      refine J_iconst (pc := 7) C dX0_lastToldWith_7 (v := 1) (by decide) ?_
      refine J_iadd (pc := 8) C dX0_lastToldWith_8 ?_
      refine J_aload_n (pc := 9) C dX0_lastToldWith_9 rfl 0 rfl ?_
      refine J_getI (pc := 10) C dX0_lastToldWith_10 (ci := 0) (k0 := 1) rfl iX0 (by decide) k_182 hf (fun x2 hf => ?_)
      refine J_icmp_ge (pc := 13) C dX0_lastToldWith_13 (tgt := 41) (by decide) hf (fun _ hf => ?_) (fun _ hf => ?_)
      · refine J_sub [1, 2] (L1 := [(1, .int v1), (2, .int v2)]) rfl ?_
        exact B41 v1 v2 hf
      · refine J_aload_n (pc := 16) C dX0_lastToldWith_16 rfl 0 rfl ?_
        refine J_getR (pc := 17) C dX0_lastToldWith_17 (ci := 0) (k0 := 0) rfl iX0 (by decide) k_180 hf (fun x3 hf => ?_)
        refine J_iload_n (pc := 20) C dX0_lastToldWith_20 rfl 2 rfl ?_
        refine J_iconst (pc := 21) C dX0_lastToldWith_21 (v := 1) (by decide) ?_
        refine J_iadd (pc := 22) C dX0_lastToldWith_22 ?_
        refine J_iald (pc := 23) C dX0_lastToldWith_23 hf (fun x4 hf => ?_)
        refine J_aload_n (pc := 24) C dX0_lastToldWith_24 rfl 0 rfl ?_
        refine J_getR (pc := 25) C dX0_lastToldWith_25 (ci := 0) (k0 := 0) rfl iX0 (by decide) k_180 hf (fun x5 hf => ?_)
        refine J_iload_n (pc := 28) C dX0_lastToldWith_28 rfl 2 rfl ?_
        refine J_iald (pc := 29) C dX0_lastToldWith_29 hf (fun x6 hf => ?_)
        refine J_isub (pc := 30) C dX0_lastToldWith_30 ?_
        refine J_iconst (pc := 31) C dX0_lastToldWith_31 (v := 2) (by decide) ?_
        refine J_icmp_ne (pc := 32) C dX0_lastToldWith_32 (tgt := 41) (by decide) hf (fun _ hf => ?_) (fun _ hf => ?_)
        · refine J_sub [1, 2] (L1 := [(1, .int v1), (2, .int v2)]) rfl ?_
          exact B41 v1 v2 hf
        · refine J_iinc (pc := 35) C dX0_lastToldWith_35 2 rfl (y := v2 + 1) rfl (by decide) hf (fun q => [(2, .int q), (0, .ref v0), (1, .int v1)]) (fun _ => rfl) (fun x7 hf => ?_)
          refine J_goto (pc := 38) C dX0_lastToldWith_38 (tgt := 6) (by decide) ?_
          refine J_sub [1, 2, 0] (L1 := [(0, .ref v0), (1, .int v1), (2, .int x7)]) rfl ?_
          exact ih v0 v1 x7 hf
  rw [f_X0_lastToldWith] at hf
  refine J_sub [0, 1] (L1 := [(0, .ref v0), (1, .int v1)]) rfl ?_
  refine J_iload_n (pc := 0) C dX0_lastToldWith_0 rfl 1 rfl ?_
  refine J_iconst (pc := 1) C dX0_lastToldWith_1 (v := 0) (by decide) ?_
  refine J_max (pc := 2) C dX0_lastToldWith_2 k_675 k_645 k_88 k_646 (Nat.le_of_ble_eq_true rfl) (fun _ => Nat.le_of_ble_eq_true rfl) ⟨Nat.le_of_ble_eq_true rfl, Nat.le_of_ble_eq_true rfl⟩ ?_
  refine J_istore_n (pc := 5) C dX0_lastToldWith_5 rfl (by decide) hf (fun q => [(2, .int q), (0, .ref v0), (1, .int v1)]) (fun _ => rfl) (fun x1 hf => ?_)
  refine J_sub [1, 2, 0] (L1 := [(0, .ref v0), (1, .int v1), (2, .int x1)]) rfl ?_
  exact B6 fu v0 v1 x1 hf
set_option maxRecDepth 100000 in
set_option maxHeartbeats 4000000 in
theorem c_X0_openGap {l : Launch} {D : va_G} {dA : FieldType → ClassId} (w : MW) (v0 : Nat) (v1 : Int32) (v2 : Int32) {rr : Int32} {w' : MW} (hf : f_X0_openGap w v0 v1 v2 = some (rr, w')) : CT l D dA yX0_openGap cX0_openGap 3 (some .boolean) rmX0_openGap [.ref v0, .int v1, .int v2] w (some (.int rr)) w' := by
  refine J_met (by decide) rfl (Nat.le_of_ble_eq_true rfl) (fun p e s m args below meth c A E C => ?_)
  rw [f_X0_openGap] at hf
  refine J_sub [0, 1, 2] (L1 := [(0, .ref v0), (1, .int v1), (2, .int v2)]) rfl ?_
  refine J_iload_n (pc := 0) C dX0_openGap_0 rfl 1 rfl ?_
  refine J_if_lt (pc := 1) C dX0_openGap_1 (tgt := 27) (by decide) hf (fun _ hf => ?_) (fun _ hf => ?_)
  · refine J_iconst (pc := 27) C dX0_openGap_27 (v := 0) (by decide) ?_
    exact J_iret (pc := 28) C  rfl (by decide) dX0_openGap_28 hf
  · refine J_iload_n (pc := 4) C dX0_openGap_4 rfl 1 rfl ?_
    refine J_aload_n (pc := 5) C dX0_openGap_5 rfl 0 rfl ?_
    refine J_getI (pc := 6) C dX0_openGap_6 (ci := 0) (k0 := 1) rfl iX0 (by decide) k_182 hf (fun x1 hf => ?_)
    refine J_icmp_gt (pc := 9) C dX0_openGap_9 (tgt := 27) (by decide) hf (fun _ hf => ?_) (fun _ hf => ?_)
    · refine J_iconst (pc := 27) C dX0_openGap_27 (v := 0) (by decide) ?_
      exact J_iret (pc := 28) C  rfl (by decide) dX0_openGap_28 hf
    · refine J_iload_n (pc := 12) C dX0_openGap_12 rfl 2 rfl ?_
      refine J_if_lt (pc := 13) C dX0_openGap_13 (tgt := 27) (by decide) hf (fun _ hf => ?_) (fun _ hf => ?_)
      · refine J_iconst (pc := 27) C dX0_openGap_27 (v := 0) (by decide) ?_
        exact J_iret (pc := 28) C  rfl (by decide) dX0_openGap_28 hf
      · refine J_iload_n (pc := 16) C dX0_openGap_16 rfl 2 rfl ?_
        refine J_bipush (pc := 17) C dX0_openGap_17 (v := 60) (by decide) ?_
        refine J_aload_n (pc := 19) C dX0_openGap_19 rfl 0 rfl ?_
        refine J_getI (pc := 20) C dX0_openGap_20 (ci := 0) (k0 := 1) rfl iX0 (by decide) k_182 hf (fun x2 hf => ?_)
        refine J_isub (pc := 23) C dX0_openGap_23 ?_
        refine J_icmp_le (pc := 24) C dX0_openGap_24 (tgt := 29) (by decide) hf (fun _ hf => ?_) (fun _ hf => ?_)
        · refine J_aload_n (pc := 29) C dX0_openGap_29 rfl 0 rfl ?_
          refine J_getR (pc := 30) C dX0_openGap_30 (ci := 0) (k0 := 0) rfl iX0 (by decide) k_180 hf (fun x3 hf => ?_)
          refine J_iload_n (pc := 33) C dX0_openGap_33 rfl 1 rfl ?_
          refine J_aload_n (pc := 34) C dX0_openGap_34 rfl 0 rfl ?_
          refine J_getR (pc := 35) C dX0_openGap_35 (ci := 0) (k0 := 0) rfl iX0 (by decide) k_180 hf (fun x4 hf => ?_)
          refine J_iload_n (pc := 38) C dX0_openGap_38 rfl 1 rfl ?_
          refine J_iload_n (pc := 39) C dX0_openGap_39 rfl 2 rfl ?_
          refine J_iadd (pc := 40) C dX0_openGap_40 ?_
          refine J_aload_n (pc := 41) C dX0_openGap_41 rfl 0 rfl ?_
          refine J_getI (pc := 42) C dX0_openGap_42 (ci := 0) (k0 := 1) rfl iX0 (by decide) k_182 hf (fun x5 hf => ?_)
          refine J_iload_n (pc := 45) C dX0_openGap_45 rfl 1 rfl ?_
          refine J_isub (pc := 46) C dX0_openGap_46 ?_
          refine J_copy (ty := .int) (pc := 47) C 0 (fun _ => rfl) rfl k_586 k_425 k_424 k_89 (Nat.le_of_ble_eq_true rfl) (fun _ => Nat.le_of_ble_eq_true rfl) dX0_openGap_47 hf (fun w6 hf => ?_)
          refine J_aload_n (pc := 50) C dX0_openGap_50 rfl 0 rfl ?_
          refine J_dup (pc := 51) C dX0_openGap_51 rfl ?_
          refine J_getI (pc := 52) C dX0_openGap_52 (ci := 0) (k0 := 1) rfl iX0 (by decide) k_182 hf (fun x7 hf => ?_)
          refine J_iload_n (pc := 55) C dX0_openGap_55 rfl 2 rfl ?_
          refine J_iadd (pc := 56) C dX0_openGap_56 ?_
          refine J_put (pc := 57) C dX0_openGap_57 (ci := 0) (k0 := 1) rfl iX0 tyX0 tyX0_ok nmX0 (by decide) k_182 rfl (ty := .int) (by decide +kernel) (fun _ => rfl) (fun _ => rfl) hf (fun w8 hf => ?_)
          refine J_aload_n (pc := 60) C dX0_openGap_60 rfl 0 rfl ?_
          refine J_iconst (pc := 61) C dX0_openGap_61 (v := -1) (by decide) ?_
          refine J_put (pc := 62) C dX0_openGap_62 (ci := 0) (k0 := 2) rfl iX0 tyX0 tyX0_ok nmX0 (by decide) k_188 rfl (ty := .int) (by decide +kernel) (fun _ => rfl) (fun _ => rfl) hf (fun w9 hf => ?_)
          refine J_iconst (pc := 65) C dX0_openGap_65 (v := 1) (by decide) ?_
          exact J_iret (pc := 66) C  rfl (by decide) dX0_openGap_66 hf
        · refine J_iconst (pc := 27) C dX0_openGap_27 (v := 0) (by decide) ?_
          exact J_iret (pc := 28) C  rfl (by decide) dX0_openGap_28 hf
set_option maxRecDepth 100000 in
set_option maxHeartbeats 4000000 in
theorem c_X0_closeGap {l : Launch} {D : va_G} {dA : FieldType → ClassId} (w : MW) (v0 : Nat) (v1 : Int32) (v2 : Int32) {w' : MW} (hf : f_X0_closeGap w v0 v1 v2 = some w') : CT l D dA yX0_closeGap cX0_closeGap 3 none rmX0_closeGap [.ref v0, .int v1, .int v2] w none w' := by
  refine J_met (by decide) rfl (Nat.le_of_ble_eq_true rfl) (fun p e s m args below meth c A E C => ?_)
  rw [f_X0_closeGap] at hf
  refine J_sub [0, 1, 2] (L1 := [(0, .ref v0), (1, .int v1), (2, .int v2)]) rfl ?_
  refine J_iload_n (pc := 0) C dX0_closeGap_0 rfl 1 rfl ?_
  refine J_if_lt (pc := 1) C dX0_closeGap_1 (tgt := 56) (by decide) hf (fun _ hf => ?_) (fun _ hf => ?_)
  · exact J_vret (pc := 56) C rfl dX0_closeGap_56 hf
  · refine J_iload_n (pc := 4) C dX0_closeGap_4 rfl 2 rfl ?_
    refine J_if_lt (pc := 5) C dX0_closeGap_5 (tgt := 56) (by decide) hf (fun _ hf => ?_) (fun _ hf => ?_)
    · exact J_vret (pc := 56) C rfl dX0_closeGap_56 hf
    · refine J_iload_n (pc := 8) C dX0_closeGap_8 rfl 2 rfl ?_
      refine J_aload_n (pc := 9) C dX0_closeGap_9 rfl 0 rfl ?_
      refine J_getI (pc := 10) C dX0_closeGap_10 (ci := 0) (k0 := 1) rfl iX0 (by decide) k_182 hf (fun x1 hf => ?_)
      refine J_iload_n (pc := 13) C dX0_closeGap_13 rfl 1 rfl ?_
      refine J_isub (pc := 14) C dX0_closeGap_14 ?_
      refine J_icmp_gt (pc := 15) C dX0_closeGap_15 (tgt := 56) (by decide) hf (fun _ hf => ?_) (fun _ hf => ?_)
      · exact J_vret (pc := 56) C rfl dX0_closeGap_56 hf
      · refine J_aload_n (pc := 18) C dX0_closeGap_18 rfl 0 rfl ?_
        refine J_getR (pc := 19) C dX0_closeGap_19 (ci := 0) (k0 := 0) rfl iX0 (by decide) k_180 hf (fun x2 hf => ?_)
        refine J_iload_n (pc := 22) C dX0_closeGap_22 rfl 1 rfl ?_
        refine J_iload_n (pc := 23) C dX0_closeGap_23 rfl 2 rfl ?_
        refine J_iadd (pc := 24) C dX0_closeGap_24 ?_
        refine J_aload_n (pc := 25) C dX0_closeGap_25 rfl 0 rfl ?_
        refine J_getR (pc := 26) C dX0_closeGap_26 (ci := 0) (k0 := 0) rfl iX0 (by decide) k_180 hf (fun x3 hf => ?_)
        refine J_iload_n (pc := 29) C dX0_closeGap_29 rfl 1 rfl ?_
        refine J_aload_n (pc := 30) C dX0_closeGap_30 rfl 0 rfl ?_
        refine J_getI (pc := 31) C dX0_closeGap_31 (ci := 0) (k0 := 1) rfl iX0 (by decide) k_182 hf (fun x4 hf => ?_)
        refine J_iload_n (pc := 34) C dX0_closeGap_34 rfl 1 rfl ?_
        refine J_isub (pc := 35) C dX0_closeGap_35 ?_
        refine J_iload_n (pc := 36) C dX0_closeGap_36 rfl 2 rfl ?_
        refine J_isub (pc := 37) C dX0_closeGap_37 ?_
        refine J_copy (ty := .int) (pc := 38) C 0 (fun _ => rfl) rfl k_586 k_425 k_424 k_89 (Nat.le_of_ble_eq_true rfl) (fun _ => Nat.le_of_ble_eq_true rfl) dX0_closeGap_38 hf (fun w5 hf => ?_)
        refine J_aload_n (pc := 41) C dX0_closeGap_41 rfl 0 rfl ?_
        refine J_dup (pc := 42) C dX0_closeGap_42 rfl ?_
        refine J_getI (pc := 43) C dX0_closeGap_43 (ci := 0) (k0 := 1) rfl iX0 (by decide) k_182 hf (fun x6 hf => ?_)
        refine J_iload_n (pc := 46) C dX0_closeGap_46 rfl 2 rfl ?_
        refine J_isub (pc := 47) C dX0_closeGap_47 ?_
        refine J_put (pc := 48) C dX0_closeGap_48 (ci := 0) (k0 := 1) rfl iX0 tyX0 tyX0_ok nmX0 (by decide) k_182 rfl (ty := .int) (by decide +kernel) (fun _ => rfl) (fun _ => rfl) hf (fun w7 hf => ?_)
        refine J_aload_n (pc := 51) C dX0_closeGap_51 rfl 0 rfl ?_
        refine J_iconst (pc := 52) C dX0_closeGap_52 (v := -1) (by decide) ?_
        refine J_put (pc := 53) C dX0_closeGap_53 (ci := 0) (k0 := 2) rfl iX0 tyX0 tyX0_ok nmX0 (by decide) k_188 rfl (ty := .int) (by decide +kernel) (fun _ => rfl) (fun _ => rfl) hf (fun w8 hf => ?_)
        exact J_vret (pc := 56) C rfl dX0_closeGap_56 hf
set_option maxRecDepth 100000 in
set_option maxHeartbeats 4000000 in
theorem c_X0_insert {l : Launch} {D : va_G} {dA : FieldType → ClassId} (fu : Nat) (w : MW) (v0 : Nat) (v1 : Int32) {rr : Int32} {w' : MW} (hf : f_X0_insert fu w v0 v1 = some (rr, w')) : CT l D dA yX0_insert cX0_insert 3 (some .int) rmX0_insert [.ref v0, .int v1] w (some (.int rr)) w' := by
  refine J_met (by decide) rfl (Nat.le_of_ble_eq_true rfl) (fun p e s m args below meth c A E C => ?_)
  rw [f_X0_insert] at hf
  refine J_sub [0, 1] (L1 := [(0, .ref v0), (1, .int v1)]) rfl ?_
  refine J_aload_n (pc := 0) C dX0_insert_0 rfl 0 rfl ?_
  refine J_iload_n (pc := 1) C dX0_insert_1 rfl 1 rfl ?_
  obtain ⟨q1, h2, hf⟩ := bind_ok hf
  obtain ⟨_, g3, h2⟩ := cl_spec h2
  refine J_cV (S := []) (pc := 2) C dX0_insert_2 (c_X0_below _ _ _ _ h2) k_570 ys_X0_below ⟨Nat.le_of_ble_eq_true rfl, Nat.le_of_ble_eq_true rfl⟩ ⟨Nat.le_of_ble_eq_true rfl, Nat.le_of_ble_eq_true rfl⟩ g3 rfl rfl (fun _ => Nat.le_of_ble_eq_true rfl) ?_
  refine J_istore_n (pc := 5) C dX0_insert_5 rfl (by decide) hf (fun q => [(2, .int q), (0, .ref v0), (1, .int v1)]) (fun _ => rfl) (fun x4 hf => ?_)
  refine J_aload_n (pc := 6) C dX0_insert_6 rfl 1 rfl ?_
  refine J_iload_n (pc := 7) C dX0_insert_7 rfl 0 rfl ?_
  refine J_iconst (pc := 8) C dX0_insert_8 (v := 1) (by decide) ?_
  obtain ⟨q5, h6, hf⟩ := bind_ok hf
  obtain ⟨_, g7, h6⟩ := cl_spec h6
  refine J_cV (S := []) (pc := 9) C dX0_insert_9 (c_X0_openGap _ _ _ _ h6) k_582 ys_X0_openGap ⟨Nat.le_of_ble_eq_true rfl, Nat.le_of_ble_eq_true rfl⟩ ⟨Nat.le_of_ble_eq_true rfl, Nat.le_of_ble_eq_true rfl⟩ g7 rfl rfl (fun _ => Nat.le_of_ble_eq_true rfl) ?_
  refine J_if_eq (pc := 12) C dX0_insert_12 (tgt := 24) (by decide) hf (fun _ hf => ?_) (fun _ hf => ?_)
  · refine J_iload_n (pc := 24) C dX0_insert_24 rfl 0 rfl ?_
    exact J_iret (pc := 25) C  rfl rfl dX0_insert_25 hf
  · refine J_aload_n (pc := 15) C dX0_insert_15 rfl 1 rfl ?_
    refine J_getR (pc := 16) C dX0_insert_16 (ci := 0) (k0 := 0) rfl iX0 (by decide) k_180 hf (fun x8 hf => ?_)
    refine J_iload_n (pc := 19) C dX0_insert_19 rfl 0 rfl ?_
    refine J_iload_n (pc := 20) C dX0_insert_20 rfl 2 rfl ?_
    refine J_iconst (pc := 21) C dX0_insert_21 (v := 2) (by decide) ?_
    refine J_imul (pc := 22) C dX0_insert_22 ?_
    refine J_iast (pc := 23) C dX0_insert_23 hf (fun w9 hf => ?_)
    refine J_iload_n (pc := 24) C dX0_insert_24 rfl 0 rfl ?_
    exact J_iret (pc := 25) C  rfl rfl dX0_insert_25 hf
set_option maxRecDepth 100000 in
set_option maxHeartbeats 4000000 in
theorem c_X0_giveStretch {l : Launch} {D : va_G} {dA : FieldType → ClassId} (fu : Nat) (w : MW) (v0 : Nat) (v1 : Int32) (v2 : Int32) (v3 : Nat) {w' : MW} (hf : f_X0_giveStretch fu w v0 v1 v2 v3 = some w') : CT l D dA yX0_giveStretch cX0_giveStretch 5 none rmX0_giveStretch [.ref v0, .int v1, .int v2, .ref v3] w none w' := by
  refine J_met (by decide) rfl (Nat.le_of_ble_eq_true rfl) (fun p e s m args below meth c A E C => ?_)
  rw [f_X0_giveStretch] at hf
  refine J_sub [0, 1, 2, 3] (L1 := [(0, .ref v0), (1, .int v1), (2, .int v2), (3, .ref v3)]) rfl ?_
  refine J_iload_n (pc := 0) C dX0_giveStretch_0 rfl 1 rfl ?_
  refine J_if_lt (pc := 1) C dX0_giveStretch_1 (tgt := 19) (by decide) hf (fun _ hf => ?_) (fun _ hf => ?_)
  · exact J_vret (pc := 19) C rfl dX0_giveStretch_19 hf
  · refine J_iload_n (pc := 4) C dX0_giveStretch_4 rfl 2 rfl ?_
    refine J_iconst (pc := 5) C dX0_giveStretch_5 (v := 1) (by decide) ?_
    refine J_icmp_lt (pc := 6) C dX0_giveStretch_6 (tgt := 19) (by decide) hf (fun _ hf => ?_) (fun _ hf => ?_)
    · exact J_vret (pc := 19) C rfl dX0_giveStretch_19 hf
    · refine J_iload_n (pc := 9) C dX0_giveStretch_9 rfl 2 rfl ?_
      refine J_aload_n (pc := 10) C dX0_giveStretch_10 rfl 0 rfl ?_
      refine J_getI (pc := 11) C dX0_giveStretch_11 (ci := 0) (k0 := 1) rfl iX0 (by decide) k_182 hf (fun x1 hf => ?_)
      refine J_iload_n (pc := 14) C dX0_giveStretch_14 rfl 1 rfl ?_
      refine J_isub (pc := 15) C dX0_giveStretch_15 ?_
      refine J_icmp_le (pc := 16) C dX0_giveStretch_16 (tgt := 20) (by decide) hf (fun _ hf => ?_) (fun _ hf => ?_)
      · refine J_aload_n (pc := 20) C dX0_giveStretch_20 rfl 3 rfl ?_
        refine J_aload_n (pc := 21) C dX0_giveStretch_21 rfl 0 rfl ?_
        refine J_getR (pc := 22) C dX0_giveStretch_22 (ci := 0) (k0 := 0) rfl iX0 (by decide) k_180 hf (fun x2 hf => ?_)
        refine J_iload_n (pc := 25) C dX0_giveStretch_25 rfl 1 rfl ?_
        refine J_iald (pc := 26) C dX0_giveStretch_26 hf (fun x3 hf => ?_)
        refine J_iconst (pc := 27) C dX0_giveStretch_27 (v := 1) (by decide) ?_
        refine J_ishr (pc := 28) C dX0_giveStretch_28 ?_
        obtain ⟨q4, h5, hf⟩ := bind_ok hf
        obtain ⟨_, g6, h5⟩ := cl_spec h5
        refine J_cV (S := []) (pc := 29) C dX0_giveStretch_29 (c_X0_below _ _ _ _ h5) k_570 ys_X0_below ⟨Nat.le_of_ble_eq_true rfl, Nat.le_of_ble_eq_true rfl⟩ ⟨Nat.le_of_ble_eq_true rfl, Nat.le_of_ble_eq_true rfl⟩ g6 rfl rfl (fun _ => Nat.le_of_ble_eq_true rfl) ?_
        refine J_istore (pc := 32) C dX0_giveStretch_32 (by decide) hf (fun q => [(4, .int q), (0, .ref v0), (1, .int v1), (2, .int v2), (3, .ref v3)]) (fun _ => rfl) (fun x7 hf => ?_)
        refine J_aload_n (pc := 34) C dX0_giveStretch_34 rfl 4 rfl ?_
        refine J_iload (pc := 35) C dX0_giveStretch_35 0 rfl ?_
        refine J_iload_n (pc := 37) C dX0_giveStretch_37 rfl 3 rfl ?_
        obtain ⟨q8, h9, hf⟩ := bind_ok hf
        obtain ⟨_, g10, h9⟩ := cl_spec h9
        refine J_cV (S := []) (pc := 38) C dX0_giveStretch_38 (c_X0_openGap _ _ _ _ h9) k_582 ys_X0_openGap ⟨Nat.le_of_ble_eq_true rfl, Nat.le_of_ble_eq_true rfl⟩ ⟨Nat.le_of_ble_eq_true rfl, Nat.le_of_ble_eq_true rfl⟩ g10 rfl rfl (fun _ => Nat.le_of_ble_eq_true rfl) ?_
        refine J_if_eq (pc := 41) C dX0_giveStretch_41 (tgt := 65) (by decide) hf (fun _ hf => ?_) (fun _ hf => ?_)
        · exact J_vret (pc := 65) C rfl dX0_giveStretch_65 hf
        · refine J_aload_n (pc := 44) C dX0_giveStretch_44 rfl 1 rfl ?_
          refine J_getR (pc := 45) C dX0_giveStretch_45 (ci := 0) (k0 := 0) rfl iX0 (by decide) k_180 hf (fun x11 hf => ?_)
          refine J_iload_n (pc := 48) C dX0_giveStretch_48 rfl 2 rfl ?_
          refine J_aload_n (pc := 49) C dX0_giveStretch_49 rfl 4 rfl ?_
          refine J_getR (pc := 50) C dX0_giveStretch_50 (ci := 0) (k0 := 0) rfl iX0 (by decide) k_180 hf (fun x12 hf => ?_)
          refine J_iload (pc := 53) C dX0_giveStretch_53 0 rfl ?_
          refine J_iload_n (pc := 55) C dX0_giveStretch_55 rfl 3 rfl ?_
          refine J_copy (ty := .int) (pc := 56) C 0 (fun _ => rfl) rfl k_586 k_425 k_424 k_89 (Nat.le_of_ble_eq_true rfl) (fun _ => Nat.le_of_ble_eq_true rfl) dX0_giveStretch_56 hf (fun w13 hf => ?_)
          refine J_aload_n (pc := 59) C dX0_giveStretch_59 rfl 1 rfl ?_
          refine J_iload_n (pc := 60) C dX0_giveStretch_60 rfl 2 rfl ?_
          refine J_iload_n (pc := 61) C dX0_giveStretch_61 rfl 3 rfl ?_
          obtain ⟨q14, h15, hf⟩ := bind_ok hf
          obtain ⟨_, g16, h15⟩ := cl_spec h15
          refine J_cV (S := []) (pc := 62) C dX0_giveStretch_62 (c_X0_closeGap _ _ _ _ h15) k_612 ys_X0_closeGap ⟨Nat.le_of_ble_eq_true rfl, Nat.le_of_ble_eq_true rfl⟩ ⟨Nat.le_of_ble_eq_true rfl, Nat.le_of_ble_eq_true rfl⟩ g16 rfl rfl (fun _ => Nat.le_of_ble_eq_true rfl) ?_
          exact J_vret (pc := 65) C rfl dX0_giveStretch_65 hf
      · exact J_vret (pc := 19) C rfl dX0_giveStretch_19 hf
set_option maxRecDepth 100000 in
set_option maxHeartbeats 4000000 in
theorem c_J6_compare_7cf53 {l : Launch} {D : va_G} {dA : FieldType → ClassId} (w : MW) (v0 : Int32) (v1 : Int32) {rr : Int32} (hf : f_J6_compare_7cf53 v0 v1 = rr) : CT l D dA yJ6_compare_7cf53 cJ6_compare_7cf53 2 (some .int) rmJ6_compare_7cf53 [.int v0, .int v1] w (some (.int rr)) w := by
  refine J_met (by decide) rfl (Nat.le_of_ble_eq_true rfl) (fun p e s m args below meth c A E C => ?_)
  rw [f_J6_compare_7cf53] at hf
  refine J_sub [0, 1] (L1 := [(0, .int v0), (1, .int v1)]) rfl ?_
  refine J_iload_n (pc := 0) C dJ6_compare_7cf53_0 rfl 0 rfl ?_
  refine J_iload_n (pc := 1) C dJ6_compare_7cf53_1 rfl 1 rfl ?_
  refine J_icmp_ge (pc := 2) C dJ6_compare_7cf53_2 (tgt := 9) (by decide) hf (fun _ hf => ?_) (fun _ hf => ?_)
  · refine J_iload_n (pc := 9) C dJ6_compare_7cf53_9 rfl 0 rfl ?_
    refine J_iload_n (pc := 10) C dJ6_compare_7cf53_10 rfl 1 rfl ?_
    refine J_icmp_ne (pc := 11) C dJ6_compare_7cf53_11 (tgt := 18) (by decide) hf (fun _ hf => ?_) (fun _ hf => ?_)
    · refine J_iconst (pc := 18) C dJ6_compare_7cf53_18 (v := 1) (by decide) ?_
      exact J_iretT (pc := 19) C  rfl rfl dJ6_compare_7cf53_19 hf
    · refine J_iconst (pc := 14) C dJ6_compare_7cf53_14 (v := 0) (by decide) ?_
      refine J_goto (pc := 15) C dJ6_compare_7cf53_15 (tgt := 19) (by decide) ?_
      exact J_iretT (pc := 19) C  rfl rfl dJ6_compare_7cf53_19 hf
  · refine J_iconst (pc := 5) C dJ6_compare_7cf53_5 (v := -1) (by decide) ?_
    refine J_goto (pc := 6) C dJ6_compare_7cf53_6 (tgt := 19) (by decide) ?_
    exact J_iretT (pc := 19) C  rfl rfl dJ6_compare_7cf53_19 hf
set_option maxRecDepth 100000 in
set_option maxHeartbeats 4000000 in
theorem c_X0_absorb {l : Launch} {D : va_G} {dA : FieldType → ClassId} (fu : Nat) (w : MW) (v0 : Nat) (v1 : Nat) (v2 : Int32) {w' : MW} (hf : f_X0_absorb fu w v0 v1 v2 = some w') : CT l D dA yX0_absorb cX0_absorb 8 none rmX0_absorb [.ref v0, .ref v1, .int v2] w none w' := by
  refine J_met (by decide) rfl (Nat.le_of_ble_eq_true rfl) (fun p e s m args below meth c A E C => ?_)
  have B122 : ∀ (w : MW) (v0 : Nat) (v1 : Nat) (v2 : Int32), f_X0_absorb_122 fu w v0 v1 v2 = some w' → JW p l e rmX0_absorb s m args below meth c 8 D dA A E (MQ below (Qr D dA E none w' A) args s 0 0 A) 0 0 122 [(0, .ref v0), (1, .ref v1), (2, .int v2)] [] w := by
    intro w v0 v1 v2 hf
    rw [f_X0_absorb_122] at hf
    refine J_aload_n (pc := 122) C dX0_absorb_122 rfl 0 rfl ?_
    refine J_iload_n (pc := 123) C dX0_absorb_123 rfl 2 rfl ?_
    refine J_bipush (pc := 124) C dX0_absorb_124 (v := 60) (by decide) ?_
    refine J_min (pc := 126) C dX0_absorb_126 k_655 k_421 k_88 k_422 (Nat.le_of_ble_eq_true rfl) (fun _ => Nat.le_of_ble_eq_true rfl) ⟨Nat.le_of_ble_eq_true rfl, Nat.le_of_ble_eq_true rfl⟩ ?_
    refine J_put (pc := 129) C dX0_absorb_129 (ci := 0) (k0 := 1) rfl iX0 tyX0 tyX0_ok nmX0 (by decide) k_182 rfl (ty := .int) (by decide +kernel) (fun _ => rfl) (fun _ => rfl) hf (fun w7 hf => ?_)
    refine J_aload_n (pc := 132) C dX0_absorb_132 rfl 1 rfl ?_
    obtain ⟨q8, h9, hf⟩ := bind_ok hf
    obtain ⟨_, g10, h9⟩ := cl_spec h9
    refine J_cV (S := []) (pc := 133) C dX0_absorb_133 (c_X0_empty _ _ h9) k_658 ys_X0_empty ⟨Nat.le_of_ble_eq_true rfl, Nat.le_of_ble_eq_true rfl⟩ ⟨Nat.le_of_ble_eq_true rfl, Nat.le_of_ble_eq_true rfl⟩ g10 rfl rfl (fun _ => Nat.le_of_ble_eq_true rfl) ?_
    exact J_vret (pc := 136) C rfl dX0_absorb_136 hf
  have B94 : ∀ (lr25 : MW → Nat → Nat → Int32 → Int32 → Int32 → Int32 → Option MW) (lh25 : ∀ (w : MW) (v0 : Nat) (v1 : Nat) (v2 : Int32) (v3 : Int32) (v4 : Int32) (v5 : Int32), lr25 w v0 v1 v2 v3 v4 v5 = some w' → JW p l e rmX0_absorb s m args below meth c 8 D dA A E (MQ below (Qr D dA E none w' A) args s 0 0 A) 0 0 25 [(0, .ref v0), (1, .ref v1), (2, .int v2), (3, .int v3), (4, .int v4), (5, .int v5)] [] w) (w : MW) (v0 : Nat) (v1 : Nat) (v2 : Int32) (v3 : Int32) (v4 : Int32) (v5 : Int32) (v7 : Int32), f_X0_absorb_94 fu lr25 w v0 v1 v2 v3 v4 v5 v7 = some w' → JW p l e rmX0_absorb s m args below meth c 8 D dA A E (MQ below (Qr D dA E none w' A) args s 0 0 A) 0 0 94 [(0, .ref v0), (1, .ref v1), (2, .int v2), (3, .int v3), (4, .int v4), (5, .int v5), (7, .int v7)] [] w := by
    intro lr25 lh25 w v0 v1 v2 v3 v4 v5 v7 hf
    rw [f_X0_absorb_94] at hf
    refine J_aload_n (pc := 94) C dX0_absorb_94 rfl 0 rfl ?_
    refine J_getR (pc := 95) C dX0_absorb_95 (ci := 0) (k0 := 0) rfl iX0 (by decide) k_180 hf (fun x20 hf => ?_)
    refine J_iload (pc := 98) C dX0_absorb_98 5 rfl ?_
    refine J_iload (pc := 100) C dX0_absorb_100 6 rfl ?_
    refine J_iast (pc := 102) C dX0_absorb_102 hf (fun w21 hf => ?_)
    refine J_iinc (pc := 103) C dX0_absorb_103 5 rfl (y := v5 + (-1)) rfl (by decide) hf (fun q => [(5, .int q), (0, .ref v0), (1, .ref v1), (2, .int v2), (3, .int v3), (4, .int v4), (7, .int v7)]) (fun _ => rfl) (fun x22 hf => ?_)
    refine J_goto (pc := 106) C dX0_absorb_106 (tgt := 25) (by decide) ?_
    refine J_sub [1, 2, 3, 4, 5, 0] (L1 := [(0, .ref v0), (1, .ref v1), (2, .int v2), (3, .int v3), (4, .int v4), (5, .int x22)]) rfl ?_
    exact lh25 w21 v0 v1 v2 v3 v4 x22 hf
  have B69 : ∀ (lr25 : MW → Nat → Nat → Int32 → Int32 → Int32 → Int32 → Option MW) (lh25 : ∀ (w : MW) (v0 : Nat) (v1 : Nat) (v2 : Int32) (v3 : Int32) (v4 : Int32) (v5 : Int32), lr25 w v0 v1 v2 v3 v4 v5 = some w' → JW p l e rmX0_absorb s m args below meth c 8 D dA A E (MQ below (Qr D dA E none w' A) args s 0 0 A) 0 0 25 [(0, .ref v0), (1, .ref v1), (2, .int v2), (3, .int v3), (4, .int v4), (5, .int v5)] [] w) (w : MW) (v0 : Nat) (v1 : Nat) (v2 : Int32) (v3 : Int32) (v4 : Int32) (v5 : Int32) (v6 : Int32) (v7 : Int32), f_X0_absorb_69 fu lr25 w v0 v1 v2 v3 v4 v5 v6 v7 = some w' → JW p l e rmX0_absorb s m args below meth c 8 D dA A E (MQ below (Qr D dA E none w' A) args s 0 0 A) 0 0 69 [(0, .ref v0), (1, .ref v1), (2, .int v2), (3, .int v3), (4, .int v4), (5, .int v5), (6, .int v6), (7, .int v7)] [] w := by
    intro lr25 lh25 w v0 v1 v2 v3 v4 v5 v6 v7 hf
    rw [f_X0_absorb_69] at hf
    refine J_iload (pc := 69) C dX0_absorb_69 6 rfl ?_
    refine J_if_gt (pc := 71) C dX0_absorb_71 (tgt := 94) (by decide) hf (fun _ hf => ?_) (fun _ hf => ?_)
    · refine J_sub [0, 1, 2, 3, 4, 5, 7] (L1 := [(0, .ref v0), (1, .ref v1), (2, .int v2), (3, .int v3), (4, .int v4), (5, .int v5), (7, .int v7)]) rfl ?_
      exact B94 lr25 lh25 w v0 v1 v2 v3 v4 v5 v7 hf
    · refine J_iload (pc := 74) C dX0_absorb_74 4 rfl ?_
      refine J_if_lt (pc := 76) C dX0_absorb_76 (tgt := 94) (by decide) hf (fun _ hf => ?_) (fun _ hf => ?_)
      · refine J_sub [0, 1, 2, 3, 4, 5, 7] (L1 := [(0, .ref v0), (1, .ref v1), (2, .int v2), (3, .int v3), (4, .int v4), (5, .int v5), (7, .int v7)]) rfl ?_
        exact B94 lr25 lh25 w v0 v1 v2 v3 v4 v5 v7 hf
      · refine J_iload (pc := 79) C dX0_absorb_79 7 rfl ?_
        refine J_aload_n (pc := 81) C dX0_absorb_81 rfl 1 rfl ?_
        refine J_getR (pc := 82) C dX0_absorb_82 (ci := 0) (k0 := 0) rfl iX0 (by decide) k_180 hf (fun x23 hf => ?_)
        refine J_iload (pc := 85) C dX0_absorb_85 4 rfl ?_
        refine J_iald (pc := 87) C dX0_absorb_87 hf (fun x24 hf => ?_)
        refine J_ior (pc := 88) C dX0_absorb_88 ?_
        refine J_istore (pc := 89) C dX0_absorb_89 (by decide) hf (fun q => [(7, .int q), (0, .ref v0), (1, .ref v1), (2, .int v2), (3, .int v3), (4, .int v4), (5, .int v5), (6, .int v6)]) (fun _ => rfl) (fun x25 hf => ?_)
        refine J_iinc (pc := 91) C dX0_absorb_91 5 rfl (y := v4 + (-1)) rfl (by decide) hf (fun q => [(4, .int q), (7, .int x25), (0, .ref v0), (1, .ref v1), (2, .int v2), (3, .int v3), (5, .int v5), (6, .int v6)]) (fun _ => rfl) (fun x26 hf => ?_)
        refine J_sub [2, 3, 4, 5, 0, 6, 1] (L1 := [(0, .ref v0), (1, .ref v1), (2, .int v2), (3, .int v3), (4, .int x26), (5, .int v5), (7, .int x25)]) rfl ?_
        exact B94 lr25 lh25 w v0 v1 v2 v3 x26 v5 x25 hf
  have B25 : ∀ (n : Nat) (w : MW) (v0 : Nat) (v1 : Nat) (v2 : Int32) (v3 : Int32) (v4 : Int32) (v5 : Int32), f_X0_absorb_25 fu n w v0 v1 v2 v3 v4 v5 = some w' → JW p l e rmX0_absorb s m args below meth c 8 D dA A E (MQ below (Qr D dA E none w' A) args s 0 0 A) 0 0 25 [(0, .ref v0), (1, .ref v1), (2, .int v2), (3, .int v3), (4, .int v4), (5, .int v5)] [] w := by
    intro n
    induction n with
    | zero => intro w v0 v1 v2 v3 v4 v5 hf; rw [f_X0_absorb_25] at hf; cases hf
    | succ n ih =>
      intro w v0 v1 v2 v3 v4 v5 hf
      rw [f_X0_absorb_25] at hf
      refine J_iload (pc := 25) C dX0_absorb_25 5 rfl ?_
      refine J_if_lt (pc := 27) C dX0_absorb_27 (tgt := 109) (by decide) hf (fun _ hf => ?_) (fun _ hf => ?_)
      · refine J_iload_n (pc := 109) C dX0_absorb_109 rfl 2 rfl ?_
        refine J_aload_n (pc := 110) C dX0_absorb_110 rfl 0 rfl ?_
        refine J_getI (pc := 111) C dX0_absorb_111 (ci := 0) (k0 := 1) rfl iX0 (by decide) k_182 hf (fun x6 hf => ?_)
        refine J_icmp_eq (pc := 114) C dX0_absorb_114 (tgt := 122) (by decide) hf (fun _ hf => ?_) (fun _ hf => ?_)
        · refine J_sub [0, 1, 2] (L1 := [(0, .ref v0), (1, .ref v1), (2, .int v2)]) rfl ?_
          exact B122 w v0 v1 v2 hf
        · refine J_aload_n (pc := 117) C dX0_absorb_117 rfl 0 rfl ?_
          refine J_iconst (pc := 118) C dX0_absorb_118 (v := -1) (by decide) ?_
          refine J_put (pc := 119) C dX0_absorb_119 (ci := 0) (k0 := 2) rfl iX0 tyX0 tyX0_ok nmX0 (by decide) k_188 rfl (ty := .int) (by decide +kernel) (fun _ => rfl) (fun _ => rfl) hf (fun w11 hf => ?_)
          refine J_sub [0, 1, 2] (L1 := [(0, .ref v0), (1, .ref v1), (2, .int v2)]) rfl ?_
          exact B122 w11 v0 v1 v2 hf
      · refine J_aload_n (pc := 30) C dX0_absorb_30 rfl 0 rfl ?_
        refine J_iload_n (pc := 31) C dX0_absorb_31 rfl 3 rfl ?_
        obtain ⟨q12, h13, hf⟩ := bind_ok hf
        obtain ⟨_, g14, h13⟩ := cl_spec h13
        refine J_cV (S := []) (pc := 32) C dX0_absorb_32 (c_X0_keyAt _ _ _ h13) k_656 ys_X0_keyAt ⟨Nat.le_of_ble_eq_true rfl, Nat.le_of_ble_eq_true rfl⟩ ⟨Nat.le_of_ble_eq_true rfl, Nat.le_of_ble_eq_true rfl⟩ g14 rfl rfl (fun _ => Nat.le_of_ble_eq_true rfl) ?_
        refine J_aload_n (pc := 35) C dX0_absorb_35 rfl 1 rfl ?_
        refine J_iload (pc := 36) C dX0_absorb_36 4 rfl ?_
        obtain ⟨q15, h16, hf⟩ := bind_ok hf
        obtain ⟨_, g17, h16⟩ := cl_spec h16
        refine J_cV (S := [.int q12]) (pc := 38) C dX0_absorb_38 (c_X0_keyAt _ _ _ h16) k_656 ys_X0_keyAt ⟨Nat.le_of_ble_eq_true rfl, Nat.le_of_ble_eq_true rfl⟩ ⟨Nat.le_of_ble_eq_true rfl, Nat.le_of_ble_eq_true rfl⟩ g17 rfl rfl (fun _ => Nat.le_of_ble_eq_true rfl) ?_
        refine J_cS (S := []) (pc := 41) C dX0_absorb_41 (c_J6_compare_7cf53 _ _ _ rfl) k_657 ys_J6_compare_7cf53 ⟨Nat.le_of_ble_eq_true rfl, Nat.le_of_ble_eq_true rfl⟩ ⟨Nat.le_of_ble_eq_true rfl, Nat.le_of_ble_eq_true rfl⟩ rfl rfl (fun _ => Nat.le_of_ble_eq_true rfl) ?_
        refine J_istore (pc := 44) C dX0_absorb_44 (by decide) hf (fun q => [(6, .int q), (0, .ref v0), (1, .ref v1), (2, .int v2), (3, .int v3), (4, .int v4), (5, .int v5)]) (fun _ => rfl) (fun x18 hf => ?_)
        refine J_iconst (pc := 46) C dX0_absorb_46 (v := 0) (by decide) ?_
        refine J_istore (pc := 47) C dX0_absorb_47 (by decide) hf (fun q => [(7, .int q), (6, .int x18), (0, .ref v0), (1, .ref v1), (2, .int v2), (3, .int v3), (4, .int v4), (5, .int v5)]) (fun _ => rfl) (fun x19 hf => ?_)
        refine J_iload (pc := 49) C dX0_absorb_49 1 rfl ?_
        refine J_if_lt (pc := 51) C dX0_absorb_51 (tgt := 69) (by decide) hf (fun _ hf => ?_) (fun _ hf => ?_)
        · refine J_sub [2, 3, 4, 5, 6, 7, 1, 0] (L1 := [(0, .ref v0), (1, .ref v1), (2, .int v2), (3, .int v3), (4, .int v4), (5, .int v5), (6, .int x18), (7, .int x19)]) rfl ?_
          exact B69 (f_X0_absorb_25 fu n) ih w v0 v1 v2 v3 v4 v5 x18 x19 hf
        · refine J_iload_n (pc := 54) C dX0_absorb_54 rfl 5 rfl ?_
          refine J_if_lt (pc := 55) C dX0_absorb_55 (tgt := 69) (by decide) hf (fun _ hf => ?_) (fun _ hf => ?_)
          · refine J_sub [2, 3, 4, 5, 6, 7, 1, 0] (L1 := [(0, .ref v0), (1, .ref v1), (2, .int v2), (3, .int v3), (4, .int v4), (5, .int v5), (6, .int x18), (7, .int x19)]) rfl ?_
            exact B69 (f_X0_absorb_25 fu n) ih w v0 v1 v2 v3 v4 v5 x18 x19 hf
          · refine J_aload_n (pc := 58) C dX0_absorb_58 rfl 2 rfl ?_
            refine J_getR (pc := 59) C dX0_absorb_59 (ci := 0) (k0 := 0) rfl iX0 (by decide) k_180 hf (fun x27 hf => ?_)
            refine J_iload_n (pc := 62) C dX0_absorb_62 rfl 5 rfl ?_
            refine J_iald (pc := 63) C dX0_absorb_63 hf (fun x28 hf => ?_)
            refine J_istore (pc := 64) C dX0_absorb_64 (by decide) hf (fun q => [(7, .int q), (6, .int x18), (0, .ref v0), (1, .ref v1), (2, .int v2), (3, .int v3), (4, .int v4), (5, .int v5)]) (fun _ => rfl) (fun x29 hf => ?_)
            refine J_iinc (pc := 66) C dX0_absorb_66 5 rfl (y := v3 + (-1)) rfl (by decide) hf (fun q => [(3, .int q), (7, .int x29), (6, .int x18), (0, .ref v0), (1, .ref v1), (2, .int v2), (4, .int v4), (5, .int v5)]) (fun _ => rfl) (fun x30 hf => ?_)
            refine J_sub [3, 4, 5, 0, 6, 7, 2, 1] (L1 := [(0, .ref v0), (1, .ref v1), (2, .int v2), (3, .int x30), (4, .int v4), (5, .int v5), (6, .int x18), (7, .int x29)]) rfl ?_
            exact B69 (f_X0_absorb_25 fu n) ih w v0 v1 v2 x30 v4 v5 x18 x29 hf
  rw [f_X0_absorb] at hf
  refine J_sub [0, 1, 2] (L1 := [(0, .ref v0), (1, .ref v1), (2, .int v2)]) rfl ?_
  refine J_aload_n (pc := 0) C dX0_absorb_0 rfl 0 rfl ?_
  refine J_getI (pc := 1) C dX0_absorb_1 (ci := 0) (k0 := 1) rfl iX0 (by decide) k_182 hf (fun x1 hf => ?_)
  refine J_iconst (pc := 4) C dX0_absorb_4 (v := 1) (by decide) ?_
  refine J_isub (pc := 5) C dX0_absorb_5 ?_
  refine J_istore_n (pc := 6) C dX0_absorb_6 rfl (by decide) hf (fun q => [(3, .int q), (0, .ref v0), (1, .ref v1), (2, .int v2)]) (fun _ => rfl) (fun x2 hf => ?_)
  refine J_aload_n (pc := 7) C dX0_absorb_7 rfl 2 rfl ?_
  refine J_getI (pc := 8) C dX0_absorb_8 (ci := 0) (k0 := 1) rfl iX0 (by decide) k_182 hf (fun x3 hf => ?_)
  refine J_iconst (pc := 11) C dX0_absorb_11 (v := 1) (by decide) ?_
  refine J_isub (pc := 12) C dX0_absorb_12 ?_
  refine J_istore (pc := 13) C dX0_absorb_13 (by decide) hf (fun q => [(4, .int q), (3, .int x2), (0, .ref v0), (1, .ref v1), (2, .int v2)]) (fun _ => rfl) (fun x4 hf => ?_)
  refine J_iload_n (pc := 15) C dX0_absorb_15 rfl 4 rfl ?_
  refine J_bipush (pc := 16) C dX0_absorb_16 (v := 60) (by decide) ?_
  refine J_min (pc := 18) C dX0_absorb_18 k_655 k_421 k_88 k_422 (Nat.le_of_ble_eq_true rfl) (fun _ => Nat.le_of_ble_eq_true rfl) ⟨Nat.le_of_ble_eq_true rfl, Nat.le_of_ble_eq_true rfl⟩ ?_
  refine J_iconst (pc := 21) C dX0_absorb_21 (v := 1) (by decide) ?_
  refine J_isub (pc := 22) C dX0_absorb_22 ?_
  refine J_istore (pc := 23) C dX0_absorb_23 (by decide) hf (fun q => [(5, .int q), (4, .int x4), (3, .int x2), (0, .ref v0), (1, .ref v1), (2, .int v2)]) (fun _ => rfl) (fun x5 hf => ?_)
  refine J_sub [3, 4, 5, 2, 1, 0] (L1 := [(0, .ref v0), (1, .ref v1), (2, .int v2), (3, .int x2), (4, .int x4), (5, .int x5)]) rfl ?_
  exact B25 fu w v0 v1 v2 x2 x4 x5 hf
set_option maxRecDepth 100000 in
set_option maxHeartbeats 4000000 in
theorem c_X0_shiftAll {l : Launch} {D : va_G} {dA : FieldType → ClassId} (fu : Nat) (w : MW) (v0 : Nat) (v1 : Int32) {w' : MW} (hf : f_X0_shiftAll fu w v0 v1 = some w') : CT l D dA yX0_shiftAll cX0_shiftAll 3 none rmX0_shiftAll [.ref v0, .int v1] w none w' := by
  refine J_met (by decide) rfl (Nat.le_of_ble_eq_true rfl) (fun p e s m args below meth c A E C => ?_)
  have B2 : ∀ (n : Nat) (w : MW) (v0 : Nat) (v1 : Int32) (v2 : Int32), f_X0_shiftAll_2 fu n w v0 v1 v2 = some w' → JW p l e rmX0_shiftAll s m args below meth c 3 D dA A E (MQ below (Qr D dA E none w' A) args s 0 0 A) 0 0 2 [(0, .ref v0), (1, .int v1), (2, .int v2)] [] w := by
    intro n
    induction n with
    | zero => intro w v0 v1 v2 hf; rw [f_X0_shiftAll_2] at hf; cases hf
    | succ n ih =>
      intro w v0 v1 v2 hf
      rw [f_X0_shiftAll_2] at hf
      refine J_iload_n (pc := 2) C dX0_shiftAll_2 rfl 2 rfl ?_
      refine J_aload_n (pc := 3) C dX0_shiftAll_3 rfl 0 rfl ?_
      refine J_getI (pc := 4) C dX0_shiftAll_4 (ci := 0) (k0 := 1) rfl iX0 (by decide) k_182 hf (fun x2 hf => ?_)
      refine J_icmp_ge (pc := 7) C dX0_shiftAll_7 (tgt := 28) (by decide) hf (fun _ hf => ?_) (fun _ hf => ?_)
      · refine J_aload_n (pc := 28) C dX0_shiftAll_28 rfl 0 rfl ?_
        refine J_getI (pc := 29) C dX0_shiftAll_29 (ci := 0) (k0 := 2) rfl iX0 (by decide) k_188 hf (fun x3 hf => ?_)
        refine J_iconst (pc := 32) C dX0_shiftAll_32 (v := -1) (by decide) ?_
        refine J_icmp_eq (pc := 33) C dX0_shiftAll_33 (tgt := 46) (by decide) hf (fun _ hf => ?_) (fun _ hf => ?_)
        · exact J_vret (pc := 46) C rfl dX0_shiftAll_46 hf
        · refine J_aload_n (pc := 36) C dX0_shiftAll_36 rfl 0 rfl ?_
          refine J_dup (pc := 37) C dX0_shiftAll_37 rfl ?_
          refine J_getI (pc := 38) C dX0_shiftAll_38 (ci := 0) (k0 := 2) rfl iX0 (by decide) k_188 hf (fun x4 hf => ?_)
          refine J_iload_n (pc := 41) C dX0_shiftAll_41 rfl 1 rfl ?_
          refine J_iadd (pc := 42) C dX0_shiftAll_42 ?_
          refine J_put (pc := 43) C dX0_shiftAll_43 (ci := 0) (k0 := 2) rfl iX0 tyX0 tyX0_ok nmX0 (by decide) k_188 rfl (ty := .int) (by decide +kernel) (fun _ => rfl) (fun _ => rfl) hf (fun w5 hf => ?_)
          exact J_vret (pc := 46) C rfl dX0_shiftAll_46 hf
      · refine J_aload_n (pc := 10) C dX0_shiftAll_10 rfl 0 rfl ?_
        refine J_getR (pc := 11) C dX0_shiftAll_11 (ci := 0) (k0 := 0) rfl iX0 (by decide) k_180 hf (fun x6 hf => ?_)
        refine J_iload_n (pc := 14) C dX0_shiftAll_14 rfl 2 rfl ?_
        refine J_dup2 (pc := 15) C dX0_shiftAll_15 rfl rfl ?_
        refine J_iald (pc := 16) C dX0_shiftAll_16 hf (fun x7 hf => ?_)
        refine J_iload_n (pc := 17) C dX0_shiftAll_17 rfl 1 rfl ?_
        refine J_iconst (pc := 18) C dX0_shiftAll_18 (v := 2) (by decide) ?_
        refine J_imul (pc := 19) C dX0_shiftAll_19 ?_
        refine J_iadd (pc := 20) C dX0_shiftAll_20 ?_
        refine J_iast (pc := 21) C dX0_shiftAll_21 hf (fun w8 hf => ?_)
        refine J_iinc (pc := 22) C dX0_shiftAll_22 2 rfl (y := v2 + 1) rfl (by decide) hf (fun q => [(2, .int q), (0, .ref v0), (1, .int v1)]) (fun _ => rfl) (fun x9 hf => ?_)
        refine J_goto (pc := 25) C dX0_shiftAll_25 (tgt := 2) (by decide) ?_
        refine J_sub [1, 2, 0] (L1 := [(0, .ref v0), (1, .int v1), (2, .int x9)]) rfl ?_
        exact ih w8 v0 v1 x9 hf
  rw [f_X0_shiftAll] at hf
  refine J_sub [0, 1] (L1 := [(0, .ref v0), (1, .int v1)]) rfl ?_
  refine J_iconst (pc := 0) C dX0_shiftAll_0 (v := 0) (by decide) ?_
  refine J_istore_n (pc := 1) C dX0_shiftAll_1 rfl (by decide) hf (fun q => [(2, .int q), (0, .ref v0), (1, .int v1)]) (fun _ => rfl) (fun x1 hf => ?_)
  refine J_sub [1, 2, 0] (L1 := [(0, .ref v0), (1, .int v1), (2, .int x1)]) rfl ?_
  exact B2 fu w v0 v1 x1 hf
set_option maxRecDepth 100000 in
set_option maxHeartbeats 4000000 in
theorem c_X0_markBetween {l : Launch} {D : va_G} {dA : FieldType → ClassId} (fu : Nat) (w : MW) (v0 : Nat) (v1 : Int32) (v2 : Int32) (v3 : Int32) {rr : Int32} {w' : MW} (hf : f_X0_markBetween fu w v0 v1 v2 v3 = some (rr, w')) : CT l D dA yX0_markBetween cX0_markBetween 7 (some .int) rmX0_markBetween [.ref v0, .int v1, .int v2, .int v3] w (some (.int rr)) w' := by
  refine J_met (by decide) rfl (Nat.le_of_ble_eq_true rfl) (fun p e s m args below meth c A E C => ?_)
  have B51 : ∀ (lr17 : MW → Nat → Int32 → Int32 → Int32 → Int32 → Option (Int32 × MW)) (lh17 : ∀ (w : MW) (v0 : Nat) (v3 : Int32) (v4 : Int32) (v5 : Int32) (v6 : Int32), lr17 w v0 v3 v4 v5 v6 = some (rr, w') → JW p l e rmX0_markBetween s m args below meth c 7 D dA A E (MQ below (Qr D dA E (some (.int rr)) w' A) args s 0 0 A) 0 0 17 [(0, .ref v0), (3, .int v3), (4, .int v4), (5, .int v5), (6, .int v6)] [] w) (w : MW) (v0 : Nat) (v3 : Int32) (v4 : Int32) (v5 : Int32) (v6 : Int32), f_X0_markBetween_51 fu lr17 w v0 v3 v4 v5 v6 = some (rr, w') → JW p l e rmX0_markBetween s m args below meth c 7 D dA A E (MQ below (Qr D dA E (some (.int rr)) w' A) args s 0 0 A) 0 0 51 [(0, .ref v0), (3, .int v3), (4, .int v4), (5, .int v5), (6, .int v6)] [] w := by
    intro lr17 lh17 w v0 v3 v4 v5 v6 hf
    rw [f_X0_markBetween_51] at hf
    refine J_iinc (pc := 51) C dX0_markBetween_51 4 rfl (y := v6 + 1) rfl (by decide) hf (fun q => [(6, .int q), (0, .ref v0), (3, .int v3), (4, .int v4), (5, .int v5)]) (fun _ => rfl) (fun x12 hf => ?_)
    refine J_goto (pc := 54) C dX0_markBetween_54 (tgt := 17) (by decide) ?_
    refine J_sub [1, 2, 3, 4, 0] (L1 := [(0, .ref v0), (3, .int v3), (4, .int v4), (5, .int v5), (6, .int x12)]) rfl ?_
    exact lh17 w v0 v3 v4 v5 x12 hf
  have B17 : ∀ (n : Nat) (w : MW) (v0 : Nat) (v3 : Int32) (v4 : Int32) (v5 : Int32) (v6 : Int32), f_X0_markBetween_17 fu n w v0 v3 v4 v5 v6 = some (rr, w') → JW p l e rmX0_markBetween s m args below meth c 7 D dA A E (MQ below (Qr D dA E (some (.int rr)) w' A) args s 0 0 A) 0 0 17 [(0, .ref v0), (3, .int v3), (4, .int v4), (5, .int v5), (6, .int v6)] [] w := by
    intro n
    induction n with
    | zero => intro w v0 v3 v4 v5 v6 hf; rw [f_X0_markBetween_17] at hf; cases hf
    | succ n ih =>
      intro w v0 v3 v4 v5 v6 hf
      rw [f_X0_markBetween_17] at hf
      refine J_iload (pc := 17) C dX0_markBetween_17 4 rfl ?_
      refine J_iload (pc := 19) C dX0_markBetween_19 2 rfl ?_
      refine J_icmp_ge (pc := 21) C dX0_markBetween_21 (tgt := 57) (by decide) hf (fun _ hf => ?_) (fun _ hf => ?_)
      · refine J_iload (pc := 57) C dX0_markBetween_57 3 rfl ?_
        exact J_iret (pc := 59) C  rfl rfl dX0_markBetween_59 hf
      · refine J_aload_n (pc := 24) C dX0_markBetween_24 rfl 0 rfl ?_
        refine J_getR (pc := 25) C dX0_markBetween_25 (ci := 0) (k0 := 0) rfl iX0 (by decide) k_180 hf (fun x10 hf => ?_)
        refine J_iload (pc := 28) C dX0_markBetween_28 4 rfl ?_
        refine J_iald (pc := 30) C dX0_markBetween_30 hf (fun x11 hf => ?_)
        refine J_iconst (pc := 31) C dX0_markBetween_31 (v := 1) (by decide) ?_
        refine J_iand (pc := 32) C dX0_markBetween_32 ?_
        refine J_iload_n (pc := 33) C dX0_markBetween_33 rfl 1 rfl ?_
        refine J_icmp_eq (pc := 34) C dX0_markBetween_34 (tgt := 51) (by decide) hf (fun _ hf => ?_) (fun _ hf => ?_)
        · refine J_sub [0, 1, 2, 3, 4] (L1 := [(0, .ref v0), (3, .int v3), (4, .int v4), (5, .int v5), (6, .int v6)]) rfl ?_
          exact B51 (f_X0_markBetween_17 fu n) ih w v0 v3 v4 v5 v6 hf
        · refine J_aload_n (pc := 37) C dX0_markBetween_37 rfl 0 rfl ?_
          refine J_getR (pc := 38) C dX0_markBetween_38 (ci := 0) (k0 := 0) rfl iX0 (by decide) k_180 hf (fun x13 hf => ?_)
          refine J_iload (pc := 41) C dX0_markBetween_41 4 rfl ?_
          refine J_dup2 (pc := 43) C dX0_markBetween_43 rfl rfl ?_
          refine J_iald (pc := 44) C dX0_markBetween_44 hf (fun x14 hf => ?_)
          refine J_iconst (pc := 45) C dX0_markBetween_45 (v := 1) (by decide) ?_
          refine J_ixor (pc := 46) C dX0_markBetween_46 ?_
          refine J_iast (pc := 47) C dX0_markBetween_47 hf (fun w15 hf => ?_)
          refine J_iinc (pc := 48) C dX0_markBetween_48 3 rfl (y := v5 + 1) rfl (by decide) hf (fun q => [(5, .int q), (0, .ref v0), (3, .int v3), (4, .int v4), (6, .int v6)]) (fun _ => rfl) (fun x16 hf => ?_)
          refine J_sub [1, 2, 3, 0, 4] (L1 := [(0, .ref v0), (3, .int v3), (4, .int v4), (5, .int x16), (6, .int v6)]) rfl ?_
          exact B51 (f_X0_markBetween_17 fu n) ih w15 v0 v3 v4 x16 v6 hf
  rw [f_X0_markBetween] at hf
  refine J_sub [0, 1, 2, 3] (L1 := [(0, .ref v0), (1, .int v1), (2, .int v2), (3, .int v3)]) rfl ?_
  refine J_aload_n (pc := 0) C dX0_markBetween_0 rfl 0 rfl ?_
  refine J_iload_n (pc := 1) C dX0_markBetween_1 rfl 2 rfl ?_
  obtain ⟨q1, h2, hf⟩ := bind_ok hf
  obtain ⟨_, g3, h2⟩ := cl_spec h2
  refine J_cV (S := []) (pc := 2) C dX0_markBetween_2 (c_X0_notAbove _ _ _ _ h2) k_599 ys_X0_notAbove ⟨Nat.le_of_ble_eq_true rfl, Nat.le_of_ble_eq_true rfl⟩ ⟨Nat.le_of_ble_eq_true rfl, Nat.le_of_ble_eq_true rfl⟩ g3 rfl rfl (fun _ => Nat.le_of_ble_eq_true rfl) ?_
  refine J_istore (pc := 5) C dX0_markBetween_5 (by decide) hf (fun q => [(4, .int q), (0, .ref v0), (1, .int v1), (2, .int v2), (3, .int v3)]) (fun _ => rfl) (fun x4 hf => ?_)
  refine J_iconst (pc := 7) C dX0_markBetween_7 (v := 0) (by decide) ?_
  refine J_istore (pc := 8) C dX0_markBetween_8 (by decide) hf (fun q => [(5, .int q), (4, .int x4), (0, .ref v0), (1, .int v1), (2, .int v2), (3, .int v3)]) (fun _ => rfl) (fun x5 hf => ?_)
  refine J_aload_n (pc := 10) C dX0_markBetween_10 rfl 2 rfl ?_
  refine J_iload_n (pc := 11) C dX0_markBetween_11 rfl 3 rfl ?_
  obtain ⟨q6, h7, hf⟩ := bind_ok hf
  obtain ⟨_, g8, h7⟩ := cl_spec h7
  refine J_cV (S := []) (pc := 12) C dX0_markBetween_12 (c_X0_below _ _ _ _ h7) k_570 ys_X0_below ⟨Nat.le_of_ble_eq_true rfl, Nat.le_of_ble_eq_true rfl⟩ ⟨Nat.le_of_ble_eq_true rfl, Nat.le_of_ble_eq_true rfl⟩ g8 rfl rfl (fun _ => Nat.le_of_ble_eq_true rfl) ?_
  refine J_istore (pc := 15) C dX0_markBetween_15 (by decide) hf (fun q => [(6, .int q), (5, .int x5), (4, .int x4), (0, .ref v0), (1, .int v1), (2, .int v2), (3, .int v3)]) (fun _ => rfl) (fun x9 hf => ?_)
  refine J_sub [3, 6, 2, 1, 0] (L1 := [(0, .ref v0), (3, .int v3), (4, .int x4), (5, .int x5), (6, .int x9)]) rfl ?_
  exact B17 fu w v0 v3 x4 x5 x9 hf
