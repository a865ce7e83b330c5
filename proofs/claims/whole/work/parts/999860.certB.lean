set_option maxRecDepth 100000 in
set_option maxHeartbeats 4000000 in
theorem c_X11_empties {l : Launch} {D : va_G} {dA : FieldType → ClassId} (fu : Nat) (w : MW) (v0 : Nat) (v1 : Int32) {w' : MW} (hf : f_X11_empties fu w v0 v1 = some w') : CT l D dA yX11_empties cX11_empties 3 none rmX11_empties [.ref v0, .int v1] w none w' := by
  refine J_met (by decide) rfl (Nat.le_of_ble_eq_true rfl) (fun p e s m args below meth c A E C => ?_)
  have B26 : ∀ (n : Nat) (w : MW) (v0 : Nat) (v1 : Int32) (v2 : Int32), f_X11_empties_26 fu n w v0 v1 v2 = some w' → JW p l e rmX11_empties s m args below meth c 3 D dA A E (MQ below (Qr D dA E none w' A) args s 0 0 A) 0 0 26 [(0, .ref v0), (1, .int v1), (2, .int v2)] [] w := by
    intro n
    induction n with
    | zero => intro w v0 v1 v2 hf; rw [f_X11_empties_26] at hf; cases hf
    | succ n ih =>
      intro w v0 v1 v2 hf
      rw [f_X11_empties_26] at hf
      refine J_iload_n (pc := 26) C dX11_empties_26 rfl 2 rfl ?_
      refine J_bipush (pc := 27) C dX11_empties_27 (v := 8) (by decide) ?_
      refine J_icmp_ge (pc := 29) C dX11_empties_29 (tgt := 52) (by decide) hf (fun _ hf => ?_) (fun _ hf => ?_)
      · exact J_vret (pc := 52) C rfl dX11_empties_52 hf
      · refine J_aload_n (pc := 32) C dX11_empties_32 rfl 0 rfl ?_
        refine J_getR (pc := 33) C dX11_empties_33 (ci := 11) (k0 := 0) rfl iX11 (by decide) k_1003 hf (fun x3 hf => ?_)
        refine J_iload_n (pc := 36) C dX11_empties_36 rfl 1 rfl ?_
        refine J_bipush (pc := 37) C dX11_empties_37 (v := 122) (by decide) ?_
        refine J_iload_n (pc := 39) C dX11_empties_39 rfl 2 rfl ?_
        refine J_imul (pc := 40) C dX11_empties_40 ?_
        refine J_iadd (pc := 41) C dX11_empties_41 ?_
        refine J_iconst (pc := 42) C dX11_empties_42 (v := 1) (by decide) ?_
        refine J_iadd (pc := 43) C dX11_empties_43 ?_
        refine J_iconst (pc := 44) C dX11_empties_44 (v := -1) (by decide) ?_
        refine J_iast (pc := 45) C dX11_empties_45 hf (fun w4 hf => ?_)
        refine J_iinc (pc := 46) C dX11_empties_46 2 rfl (y := v2 + 1) rfl (by decide) hf (fun q => [(2, .int q), (0, .ref v0), (1, .int v1)]) (fun _ => rfl) (fun x5 hf => ?_)
        refine J_goto (pc := 49) C dX11_empties_49 (tgt := 26) (by decide) ?_
        refine J_sub [1, 2, 0] (L1 := [(0, .ref v0), (1, .int v1), (2, .int x5)]) rfl ?_
        exact ih w4 v0 v1 x5 hf
  have B2 : ∀ (n : Nat) (w : MW) (v0 : Nat) (v1 : Int32) (v2 : Int32), f_X11_empties_2 fu n w v0 v1 v2 = some w' → JW p l e rmX11_empties s m args below meth c 3 D dA A E (MQ below (Qr D dA E none w' A) args s 0 0 A) 0 0 2 [(0, .ref v0), (1, .int v1), (2, .int v2)] [] w := by
    intro n
    induction n with
    | zero => intro w v0 v1 v2 hf; rw [f_X11_empties_2] at hf; cases hf
    | succ n ih =>
      intro w v0 v1 v2 hf
      rw [f_X11_empties_2] at hf
      refine J_iload_n (pc := 2) C dX11_empties_2 rfl 2 rfl ?_
      refine J_sipush (pc := 3) C dX11_empties_3 (v := 976) (by decide) ?_
      refine J_icmp_ge (pc := 6) C dX11_empties_6 (tgt := 24) (by decide) hf (fun _ hf => ?_) (fun _ hf => ?_)
      · refine J_iconst (pc := 24) C dX11_empties_24 (v := 0) (by decide) ?_
        refine J_istore_n (pc := 25) C dX11_empties_25 rfl (by decide) hf (fun q => [(2, .int q), (0, .ref v0), (1, .int v1)]) (fun _ => rfl) (fun x2 hf => ?_)
        refine J_sub [1, 2, 0] (L1 := [(0, .ref v0), (1, .int v1), (2, .int x2)]) rfl ?_
        exact B26 fu w v0 v1 x2 hf
      · refine J_aload_n (pc := 9) C dX11_empties_9 rfl 0 rfl ?_
        refine J_getR (pc := 10) C dX11_empties_10 (ci := 11) (k0 := 0) rfl iX11 (by decide) k_1003 hf (fun x6 hf => ?_)
        refine J_iload_n (pc := 13) C dX11_empties_13 rfl 1 rfl ?_
        refine J_iload_n (pc := 14) C dX11_empties_14 rfl 2 rfl ?_
        refine J_iadd (pc := 15) C dX11_empties_15 ?_
        refine J_iconst (pc := 16) C dX11_empties_16 (v := 0) (by decide) ?_
        refine J_iast (pc := 17) C dX11_empties_17 hf (fun w7 hf => ?_)
        refine J_iinc (pc := 18) C dX11_empties_18 2 rfl (y := v2 + 1) rfl (by decide) hf (fun q => [(2, .int q), (0, .ref v0), (1, .int v1)]) (fun _ => rfl) (fun x8 hf => ?_)
        refine J_goto (pc := 21) C dX11_empties_21 (tgt := 2) (by decide) ?_
        refine J_sub [1, 2, 0] (L1 := [(0, .ref v0), (1, .int v1), (2, .int x8)]) rfl ?_
        exact ih w7 v0 v1 x8 hf
  rw [f_X11_empties] at hf
  refine J_sub [0, 1] (L1 := [(0, .ref v0), (1, .int v1)]) rfl ?_
  refine J_iconst (pc := 0) C dX11_empties_0 (v := 0) (by decide) ?_
  refine J_istore_n (pc := 1) C dX11_empties_1 rfl (by decide) hf (fun q => [(2, .int q), (0, .ref v0), (1, .int v1)]) (fun _ => rfl) (fun x1 hf => ?_)
  refine J_sub [1, 2, 0] (L1 := [(0, .ref v0), (1, .int v1), (2, .int x1)]) rfl ?_
  exact B2 fu w v0 v1 x1 hf
set_option maxRecDepth 100000 in
set_option maxHeartbeats 4000000 in
theorem c_X11_init {l : Launch} {D : va_G} {dA : FieldType → ClassId} (fu : Nat) (w0 : MW) (v0 : Nat) {w' : MW} (hf : f_X11_init fu w0 v0 = some w') : CA l D dA yX11_init cX11_init 1 none rmX11_init 6 21479 [.ref v0] w0 none w' := by
  refine J_metA (by decide) rfl (Nat.le_of_ble_eq_true rfl) (fun p e s m args below meth c A E C hini hEE => ?_)
  rw [f_X11_init] at hf
  refine J_sub [0] (L1 := [(0, .ref v0)]) rfl ?_
  refine J_aload_n (pc := 0) C dX11_init_0 rfl 0 rfl ?_
  refine J_objInit (pc := 1) C dX11_init_1 k_998 k_101 k_102 (Nat.le_of_ble_eq_true rfl) (fun _ => Nat.le_of_ble_eq_true rfl) ?_
  refine J_aload_n (pc := 4) C dX11_init_4 rfl 0 rfl ?_
  refine J_sipush (pc := 5) C dX11_init_5 (v := 20204) (by decide) ?_
  refine J_newa (aty := .int) (ty := .int) (N := 20204) (pc := 8) C 0 (fun _ => rfl) dX11_init_8 rfl k_145 (fun _ => rfl) (fun _ _ h => h) (by decide) (by decide) (Nat.le_of_ble_eq_true rfl) ⟨Nat.le_of_ble_eq_true rfl, Nat.le_of_ble_eq_true rfl⟩ hEE [.ref v0, .ref v0] rfl hf (fun w1 hf => ?_)
  refine J_putF (pc := 10) C dX11_init_10 (ci := 11) (k0 := 0) rfl iX11 tyX11 tyX11_ok nmX11 (by decide) k_1003 hini rfl rfl (ty := (.array .int)) (by decide +kernel) (fun _ => rfl) (fun _ => rfl) hf (fun w2 hf => ?_)
  refine J_aload_n (pc := 13) C dX11_init_13 rfl 0 rfl ?_
  refine J_sipush (pc := 14) C dX11_init_14 (v := 800) (by decide) ?_
  refine J_newa (aty := .int) (ty := .int) (N := 800) (pc := 17) C 0 (fun _ => rfl) dX11_init_17 rfl k_145 (fun _ => rfl) (fun _ _ h => h) (by decide) (by decide) (Nat.le_of_ble_eq_true rfl) ⟨Nat.le_of_ble_eq_true rfl, Nat.le_of_ble_eq_true rfl⟩ hEE [.ref v0, .ref v0] rfl hf (fun w3 hf => ?_)
  refine J_putF (pc := 19) C dX11_init_19 (ci := 11) (k0 := 1) rfl iX11 tyX11 tyX11_ok nmX11 (by decide) k_1004 hini rfl rfl (ty := (.array .int)) (by decide +kernel) (fun _ => rfl) (fun _ => rfl) hf (fun w4 hf => ?_)
  refine J_aload_n (pc := 22) C dX11_init_22 rfl 0 rfl ?_
  refine J_sipush (pc := 23) C dX11_init_23 (v := 400) (by decide) ?_
  refine J_newa (aty := .int) (ty := .int) (N := 400) (pc := 26) C 0 (fun _ => rfl) dX11_init_26 rfl k_145 (fun _ => rfl) (fun _ _ h => h) (by decide) (by decide) (Nat.le_of_ble_eq_true rfl) ⟨Nat.le_of_ble_eq_true rfl, Nat.le_of_ble_eq_true rfl⟩ hEE [.ref v0, .ref v0] rfl hf (fun w5 hf => ?_)
  refine J_putF (pc := 28) C dX11_init_28 (ci := 11) (k0 := 2) rfl iX11 tyX11 tyX11_ok nmX11 (by decide) k_1005 hini rfl rfl (ty := (.array .int)) (by decide +kernel) (fun _ => rfl) (fun _ => rfl) hf (fun w6 hf => ?_)
  refine J_aload_n (pc := 31) C dX11_init_31 rfl 0 rfl ?_
  refine J_iconst (pc := 32) C dX11_init_32 (v := 3) (by decide) ?_
  refine J_newa (aty := .boolean) (ty := .boolean) (N := 3) (pc := 33) C 2 (fun _ => rfl) dX11_init_33 rfl k_1085 (fun _ => rfl) (fun _ _ h => h) (by decide) (by decide) (Nat.le_of_ble_eq_true rfl) ⟨Nat.le_of_ble_eq_true rfl, Nat.le_of_ble_eq_true rfl⟩ hEE [.ref v0, .ref v0] rfl hf (fun w7 hf => ?_)
  refine J_putF (pc := 35) C dX11_init_35 (ci := 11) (k0 := 3) rfl iX11 tyX11 tyX11_ok nmX11 (by decide) k_1006 hini rfl rfl (ty := (.array .boolean)) (by decide +kernel) (fun _ => rfl) (fun _ => rfl) hf (fun w8 hf => ?_)
  refine J_aload_n (pc := 38) C dX11_init_38 rfl 0 rfl ?_
  refine J_iconst (pc := 39) C dX11_init_39 (v := -1) (by decide) ?_
  refine J_put (pc := 40) C dX11_init_40 (ci := 11) (k0 := 7) rfl iX11 tyX11 tyX11_ok nmX11 (by decide) k_1010 rfl (ty := .int) (by decide +kernel) (fun _ => rfl) (fun _ => rfl) hf (fun w9 hf => ?_)
  refine J_aload_n (pc := 43) C dX11_init_43 rfl 0 rfl ?_
  refine J_bipush (pc := 44) C dX11_init_44 (v := 64) (by decide) ?_
  refine J_newa (aty := .int) (ty := .int) (N := 64) (pc := 46) C 0 (fun _ => rfl) dX11_init_46 rfl k_145 (fun _ => rfl) (fun _ _ h => h) (by decide) (by decide) (Nat.le_of_ble_eq_true rfl) ⟨Nat.le_of_ble_eq_true rfl, Nat.le_of_ble_eq_true rfl⟩ hEE [.ref v0, .ref v0] rfl hf (fun w10 hf => ?_)
  refine J_putF (pc := 48) C dX11_init_48 (ci := 11) (k0 := 10) rfl iX11 tyX11 tyX11_ok nmX11 (by decide) k_1013 hini rfl rfl (ty := (.array .int)) (by decide +kernel) (fun _ => rfl) (fun _ => rfl) hf (fun w11 hf => ?_)
  refine J_aload_n (pc := 51) C dX11_init_51 rfl 0 rfl ?_
  refine J_bipush (pc := 52) C dX11_init_52 (v := 8) (by decide) ?_
  refine J_newa (aty := .int) (ty := .int) (N := 8) (pc := 54) C 0 (fun _ => rfl) dX11_init_54 rfl k_145 (fun _ => rfl) (fun _ _ h => h) (by decide) (by decide) (Nat.le_of_ble_eq_true rfl) ⟨Nat.le_of_ble_eq_true rfl, Nat.le_of_ble_eq_true rfl⟩ hEE [.ref v0, .ref v0] rfl hf (fun w12 hf => ?_)
  refine J_putF (pc := 56) C dX11_init_56 (ci := 11) (k0 := 21) rfl iX11 tyX11 tyX11_ok nmX11 (by decide) k_1024 hini rfl rfl (ty := (.array .int)) (by decide +kernel) (fun _ => rfl) (fun _ => rfl) hf (fun w13 hf => ?_)
  refine J_aload_n (pc := 59) C dX11_init_59 rfl 0 rfl ?_
  refine J_iconst (pc := 60) C dX11_init_60 (v := 0) (by decide) ?_
  obtain ⟨q14, h15, hf⟩ := bind_ok hf
  obtain ⟨_, g16, h15⟩ := cl_spec h15
  refine J_cV (S := []) (pc := 61) C dX11_init_61 (c_X11_empties _ _ _ _ h15) k_999 ys_X11_empties ⟨Nat.le_of_ble_eq_true rfl, Nat.le_of_ble_eq_true rfl⟩ ⟨Nat.le_of_ble_eq_true rfl, Nat.le_of_ble_eq_true rfl⟩ g16 rfl rfl (fun _ => Nat.le_of_ble_eq_true rfl) ?_
  refine J_widen (k := 6) (n := 21479) (Nat.le_of_ble_eq_true rfl) (Nat.le_of_ble_eq_true rfl) ?_
  exact J_vret (pc := 64) C rfl dX11_init_64 hf
theorem z_X11_isIn (v0 : Int32) (v1 : Int32) (v2 : Int32) : narrow .boolean (.int (f_X11_isIn v0 v1 v2)) = .int (f_X11_isIn v0 v1 v2) := by
  unfold f_X11_isIn
  (repeat' split) <;> rfl
set_option maxRecDepth 100000 in
set_option maxHeartbeats 4000000 in
theorem c_X11_isIn {l : Launch} {D : va_G} {dA : FieldType → ClassId} (w : MW) (v0 : Int32) (v1 : Int32) (v2 : Int32) {rr : Int32} (hf : f_X11_isIn v0 v1 v2 = rr) : CT l D dA yX11_isIn cX11_isIn 3 (some .boolean) rmX11_isIn [.int v0, .int v1, .int v2] w (some (.int rr)) w := by
  refine J_met (by decide) rfl (Nat.le_of_ble_eq_true rfl) (fun p e s m args below meth c A E C => ?_)
  rw [f_X11_isIn] at hf
  refine J_sub [0, 1, 2] (L1 := [(0, .int v0), (1, .int v1), (2, .int v2)]) rfl ?_
  refine J_iload_n (pc := 0) C dX11_isIn_0 rfl 0 rfl ?_
  refine J_iload_n (pc := 1) C dX11_isIn_1 rfl 1 rfl ?_
  refine J_icmp_lt (pc := 2) C dX11_isIn_2 (tgt := 14) (by decide) hf (fun _ hf => ?_) (fun _ hf => ?_)
  · refine J_iconst (pc := 14) C dX11_isIn_14 (v := 0) (by decide) ?_
    exact J_iretT (pc := 15) C  rfl (by decide) dX11_isIn_15 hf
  · refine J_iload_n (pc := 5) C dX11_isIn_5 rfl 0 rfl ?_
    refine J_iload_n (pc := 6) C dX11_isIn_6 rfl 2 rfl ?_
    refine J_icmp_gt (pc := 7) C dX11_isIn_7 (tgt := 14) (by decide) hf (fun _ hf => ?_) (fun _ hf => ?_)
    · refine J_iconst (pc := 14) C dX11_isIn_14 (v := 0) (by decide) ?_
      exact J_iretT (pc := 15) C  rfl (by decide) dX11_isIn_15 hf
    · refine J_iconst (pc := 10) C dX11_isIn_10 (v := 1) (by decide) ?_
      refine J_goto (pc := 11) C dX11_isIn_11 (tgt := 15) (by decide) ?_
      exact J_iretT (pc := 15) C  rfl (by decide) dX11_isIn_15 hf
set_option maxRecDepth 100000 in
set_option maxHeartbeats 4000000 in
theorem c_X11_copies {l : Launch} {D : va_G} {dA : FieldType → ClassId} (fu : Nat) (w : MW) (v0 : Nat) (v1 : Int32) (v2 : Int32) (v3 : Int32) {w' : MW} (hf : f_X11_copies fu w v0 v1 v2 v3 = some w') : CT l D dA yX11_copies cX11_copies 5 none rmX11_copies [.ref v0, .int v1, .int v2, .int v3] w none w' := by
  refine J_met (by decide) rfl (Nat.le_of_ble_eq_true rfl) (fun p e s m args below meth c A E C => ?_)
  have B3 : ∀ (n : Nat) (w : MW) (v0 : Nat) (v1 : Int32) (v2 : Int32) (v3 : Int32) (v4 : Int32), f_X11_copies_3 fu n w v0 v1 v2 v3 v4 = some w' → JW p l e rmX11_copies s m args below meth c 5 D dA A E (MQ below (Qr D dA E none w' A) args s 0 0 A) 0 0 3 [(0, .ref v0), (1, .int v1), (2, .int v2), (3, .int v3), (4, .int v4)] [] w := by
    intro n
    induction n with
    | zero => intro w v0 v1 v2 v3 v4 hf; rw [f_X11_copies_3] at hf; cases hf
    | succ n ih =>
      intro w v0 v1 v2 v3 v4 hf
      rw [f_X11_copies_3] at hf
      refine J_iload (pc := 3) C dX11_copies_3 4 rfl ?_
      refine J_iload_n (pc := 5) C dX11_copies_5 rfl 3 rfl ?_
      refine J_icmp_ge (pc := 6) C dX11_copies_6 (tgt := 33) (by decide) hf (fun _ hf => ?_) (fun _ hf => ?_)
      · exact J_vret (pc := 33) C rfl dX11_copies_33 hf
      · refine J_aload_n (pc := 9) C dX11_copies_9 rfl 0 rfl ?_
        refine J_getR (pc := 10) C dX11_copies_10 (ci := 11) (k0 := 0) rfl iX11 (by decide) k_1003 hf (fun x2 hf => ?_)
        refine J_iload_n (pc := 13) C dX11_copies_13 rfl 2 rfl ?_
        refine J_iload (pc := 14) C dX11_copies_14 4 rfl ?_
        refine J_iadd (pc := 16) C dX11_copies_16 ?_
        refine J_aload_n (pc := 17) C dX11_copies_17 rfl 0 rfl ?_
        refine J_getR (pc := 18) C dX11_copies_18 (ci := 11) (k0 := 0) rfl iX11 (by decide) k_1003 hf (fun x3 hf => ?_)
        refine J_iload_n (pc := 21) C dX11_copies_21 rfl 1 rfl ?_
        refine J_iload (pc := 22) C dX11_copies_22 4 rfl ?_
        refine J_iadd (pc := 24) C dX11_copies_24 ?_
        refine J_iald (pc := 25) C dX11_copies_25 hf (fun x4 hf => ?_)
        refine J_iast (pc := 26) C dX11_copies_26 hf (fun w5 hf => ?_)
        refine J_iinc (pc := 27) C dX11_copies_27 4 rfl (y := v4 + 1) rfl (by decide) hf (fun q => [(4, .int q), (0, .ref v0), (1, .int v1), (2, .int v2), (3, .int v3)]) (fun _ => rfl) (fun x6 hf => ?_)
        refine J_goto (pc := 30) C dX11_copies_30 (tgt := 3) (by decide) ?_
        refine J_sub [1, 2, 3, 4, 0] (L1 := [(0, .ref v0), (1, .int v1), (2, .int v2), (3, .int v3), (4, .int x6)]) rfl ?_
        exact ih w5 v0 v1 v2 v3 x6 hf
  rw [f_X11_copies] at hf
  refine J_sub [0, 1, 2, 3] (L1 := [(0, .ref v0), (1, .int v1), (2, .int v2), (3, .int v3)]) rfl ?_
  refine J_iconst (pc := 0) C dX11_copies_0 (v := 0) (by decide) ?_
  refine J_istore (pc := 1) C dX11_copies_1 (by decide) hf (fun q => [(4, .int q), (0, .ref v0), (1, .int v1), (2, .int v2), (3, .int v3)]) (fun _ => rfl) (fun x1 hf => ?_)
  refine J_sub [1, 2, 3, 4, 0] (L1 := [(0, .ref v0), (1, .int v1), (2, .int v2), (3, .int v3), (4, .int x1)]) rfl ?_
  exact B3 fu w v0 v1 v2 v3 x1 hf
theorem z_X11_isSet (v0 : Int32) : narrow .boolean (.int (f_X11_isSet v0)) = .int (f_X11_isSet v0) := by
  unfold f_X11_isSet
  exact z_X11_isIn _ _ _
set_option maxRecDepth 100000 in
set_option maxHeartbeats 4000000 in
theorem c_X11_isSet {l : Launch} {D : va_G} {dA : FieldType → ClassId} (w : MW) (v0 : Int32) {rr : Int32} (hf : f_X11_isSet v0 = rr) : CT l D dA yX11_isSet cX11_isSet 1 (some .boolean) rmX11_isSet [.int v0] w (some (.int rr)) w := by
  refine J_met (by decide) rfl (Nat.le_of_ble_eq_true rfl) (fun p e s m args below meth c A E C => ?_)
  rw [f_X11_isSet] at hf
  refine J_sub [0] (L1 := [(0, .int v0)]) rfl ?_
  refine J_iload_n (pc := 0) C dX11_isSet_0 rfl 0 rfl ?_
  refine J_iconst (pc := 1) C dX11_isSet_1 (v := 0) (by decide) ?_
  refine J_bipush (pc := 2) C dX11_isSet_2 (v := 7) (by decide) ?_
  refine J_cS (S := []) (pc := 4) C dX11_isSet_4 (c_X11_isIn _ _ _ _ rfl) k_1097 ys_X11_isIn ⟨Nat.le_of_ble_eq_true rfl, Nat.le_of_ble_eq_true rfl⟩ ⟨Nat.le_of_ble_eq_true rfl, Nat.le_of_ble_eq_true rfl⟩ rfl rfl (fun _ => Nat.le_of_ble_eq_true rfl) ?_
  exact J_iretT (pc := 7) C  rfl (z_X11_isIn _ _ _) dX11_isSet_7 hf
theorem z_X11_isKey (v0 : Int32) : narrow .boolean (.int (f_X11_isKey v0)) = .int (f_X11_isKey v0) := by
  unfold f_X11_isKey
  exact z_X11_isIn _ _ _
set_option maxRecDepth 100000 in
set_option maxHeartbeats 4000000 in
theorem c_X11_isKey {l : Launch} {D : va_G} {dA : FieldType → ClassId} (w : MW) (v0 : Int32) {rr : Int32} (hf : f_X11_isKey v0 = rr) : CT l D dA yX11_isKey cX11_isKey 1 (some .boolean) rmX11_isKey [.int v0] w (some (.int rr)) w := by
  refine J_met (by decide) rfl (Nat.le_of_ble_eq_true rfl) (fun p e s m args below meth c A E C => ?_)
  rw [f_X11_isKey] at hf
  refine J_sub [0] (L1 := [(0, .int v0)]) rfl ?_
  refine J_iload_n (pc := 0) C dX11_isKey_0 rfl 0 rfl ?_
  refine J_iconst (pc := 1) C dX11_isKey_1 (v := 0) (by decide) ?_
  refine J_sipush (pc := 2) C dX11_isKey_2 (v := 9999) (by decide) ?_
  refine J_cS (S := []) (pc := 5) C dX11_isKey_5 (c_X11_isIn _ _ _ _ rfl) k_1097 ys_X11_isIn ⟨Nat.le_of_ble_eq_true rfl, Nat.le_of_ble_eq_true rfl⟩ ⟨Nat.le_of_ble_eq_true rfl, Nat.le_of_ble_eq_true rfl⟩ rfl rfl (fun _ => Nat.le_of_ble_eq_true rfl) ?_
  exact J_iretT (pc := 8) C  rfl (z_X11_isIn _ _ _) dX11_isKey_8 hf
set_option maxRecDepth 100000 in
set_option maxHeartbeats 4000000 in
theorem c_X11_many {l : Launch} {D : va_G} {dA : FieldType → ClassId} (w : MW) (v0 : Nat) (v1 : Int32) {rr : Int32} (hf : f_X11_many w v0 v1 = some rr) : CT l D dA yX11_many cX11_many 2 (some .int) rmX11_many [.ref v0, .int v1] w (some (.int rr)) w := by
  refine J_met (by decide) rfl (Nat.le_of_ble_eq_true rfl) (fun p e s m args below meth c A E C => ?_)
  rw [f_X11_many] at hf
  refine J_sub [0, 1] (L1 := [(0, .ref v0), (1, .int v1)]) rfl ?_
  refine J_aload_n (pc := 0) C dX11_many_0 rfl 0 rfl ?_
  refine J_getR (pc := 1) C dX11_many_1 (ci := 11) (k0 := 0) rfl iX11 (by decide) k_1003 hf (fun x1 hf => ?_)
  refine J_aload_n (pc := 4) C dX11_many_4 rfl 0 rfl ?_
  refine J_getI (pc := 5) C dX11_many_5 (ci := 11) (k0 := 9) rfl iX11 (by decide) k_1012 hf (fun x2 hf => ?_)
  refine J_bipush (pc := 8) C dX11_many_8 (v := 122) (by decide) ?_
  refine J_iload_n (pc := 10) C dX11_many_10 rfl 1 rfl ?_
  refine J_imul (pc := 11) C dX11_many_11 ?_
  refine J_iadd (pc := 12) C dX11_many_12 ?_
  refine J_iald (pc := 13) C dX11_many_13 hf (fun x3 hf => ?_)
  exact J_iretP (pc := 14) C  rfl rfl dX11_many_14 hf
set_option maxRecDepth 100000 in
set_option maxHeartbeats 4000000 in
theorem c_X11_keyAt {l : Launch} {D : va_G} {dA : FieldType → ClassId} (w : MW) (v0 : Nat) (v1 : Int32) (v2 : Int32) {rr : Int32} (hf : f_X11_keyAt w v0 v1 v2 = some rr) : CT l D dA yX11_keyAt cX11_keyAt 3 (some .int) rmX11_keyAt [.ref v0, .int v1, .int v2] w (some (.int rr)) w := by
  refine J_met (by decide) rfl (Nat.le_of_ble_eq_true rfl) (fun p e s m args below meth c A E C => ?_)
  rw [f_X11_keyAt] at hf
  refine J_sub [0, 1, 2] (L1 := [(0, .ref v0), (1, .int v1), (2, .int v2)]) rfl ?_
  refine J_aload_n (pc := 0) C dX11_keyAt_0 rfl 0 rfl ?_
  refine J_getR (pc := 1) C dX11_keyAt_1 (ci := 11) (k0 := 0) rfl iX11 (by decide) k_1003 hf (fun x1 hf => ?_)
  refine J_aload_n (pc := 4) C dX11_keyAt_4 rfl 0 rfl ?_
  refine J_getI (pc := 5) C dX11_keyAt_5 (ci := 11) (k0 := 9) rfl iX11 (by decide) k_1012 hf (fun x2 hf => ?_)
  refine J_bipush (pc := 8) C dX11_keyAt_8 (v := 122) (by decide) ?_
  refine J_iload_n (pc := 10) C dX11_keyAt_10 rfl 1 rfl ?_
  refine J_imul (pc := 11) C dX11_keyAt_11 ?_
  refine J_iadd (pc := 12) C dX11_keyAt_12 ?_
  refine J_iconst (pc := 13) C dX11_keyAt_13 (v := 2) (by decide) ?_
  refine J_iadd (pc := 14) C dX11_keyAt_14 ?_
  refine J_iload_n (pc := 15) C dX11_keyAt_15 rfl 2 rfl ?_
  refine J_iadd (pc := 16) C dX11_keyAt_16 ?_
  refine J_iald (pc := 17) C dX11_keyAt_17 hf (fun x3 hf => ?_)
  exact J_iretP (pc := 18) C  rfl rfl dX11_keyAt_18 hf
set_option maxRecDepth 100000 in
set_option maxHeartbeats 4000000 in
theorem c_X11_markAt {l : Launch} {D : va_G} {dA : FieldType → ClassId} (w : MW) (v0 : Nat) (v1 : Int32) (v2 : Int32) {rr : Int32} (hf : f_X11_markAt w v0 v1 v2 = some rr) : CT l D dA yX11_markAt cX11_markAt 3 (some .int) rmX11_markAt [.ref v0, .int v1, .int v2] w (some (.int rr)) w := by
  refine J_met (by decide) rfl (Nat.le_of_ble_eq_true rfl) (fun p e s m args below meth c A E C => ?_)
  rw [f_X11_markAt] at hf
  refine J_sub [0, 1, 2] (L1 := [(0, .ref v0), (1, .int v1), (2, .int v2)]) rfl ?_
  refine J_aload_n (pc := 0) C dX11_markAt_0 rfl 0 rfl ?_
  refine J_getR (pc := 1) C dX11_markAt_1 (ci := 11) (k0 := 0) rfl iX11 (by decide) k_1003 hf (fun x1 hf => ?_)
  refine J_aload_n (pc := 4) C dX11_markAt_4 rfl 0 rfl ?_
  refine J_getI (pc := 5) C dX11_markAt_5 (ci := 11) (k0 := 9) rfl iX11 (by decide) k_1012 hf (fun x2 hf => ?_)
  refine J_bipush (pc := 8) C dX11_markAt_8 (v := 122) (by decide) ?_
  refine J_iload_n (pc := 10) C dX11_markAt_10 rfl 1 rfl ?_
  refine J_imul (pc := 11) C dX11_markAt_11 ?_
  refine J_iadd (pc := 12) C dX11_markAt_12 ?_
  refine J_bipush (pc := 13) C dX11_markAt_13 (v := 62) (by decide) ?_
  refine J_iadd (pc := 15) C dX11_markAt_15 ?_
  refine J_iload_n (pc := 16) C dX11_markAt_16 rfl 2 rfl ?_
  refine J_iadd (pc := 17) C dX11_markAt_17 ?_
  refine J_iald (pc := 18) C dX11_markAt_18 hf (fun x3 hf => ?_)
  exact J_iretP (pc := 19) C  rfl rfl dX11_markAt_19 hf
set_option maxRecDepth 100000 in
set_option maxHeartbeats 4000000 in
theorem c_X11_finger {l : Launch} {D : va_G} {dA : FieldType → ClassId} (w : MW) (v0 : Nat) (v1 : Int32) {rr : Int32} (hf : f_X11_finger w v0 v1 = some rr) : CT l D dA yX11_finger cX11_finger 2 (some .int) rmX11_finger [.ref v0, .int v1] w (some (.int rr)) w := by
  refine J_met (by decide) rfl (Nat.le_of_ble_eq_true rfl) (fun p e s m args below meth c A E C => ?_)
  rw [f_X11_finger] at hf
  refine J_sub [0, 1] (L1 := [(0, .ref v0), (1, .int v1)]) rfl ?_
  refine J_aload_n (pc := 0) C dX11_finger_0 rfl 0 rfl ?_
  refine J_getR (pc := 1) C dX11_finger_1 (ci := 11) (k0 := 0) rfl iX11 (by decide) k_1003 hf (fun x1 hf => ?_)
  refine J_aload_n (pc := 4) C dX11_finger_4 rfl 0 rfl ?_
  refine J_getI (pc := 5) C dX11_finger_5 (ci := 11) (k0 := 9) rfl iX11 (by decide) k_1012 hf (fun x2 hf => ?_)
  refine J_bipush (pc := 8) C dX11_finger_8 (v := 122) (by decide) ?_
  refine J_iload_n (pc := 10) C dX11_finger_10 rfl 1 rfl ?_
  refine J_imul (pc := 11) C dX11_finger_11 ?_
  refine J_iadd (pc := 12) C dX11_finger_12 ?_
  refine J_iconst (pc := 13) C dX11_finger_13 (v := 1) (by decide) ?_
  refine J_iadd (pc := 14) C dX11_finger_14 ?_
  refine J_iald (pc := 15) C dX11_finger_15 hf (fun x3 hf => ?_)
  exact J_iretP (pc := 16) C  rfl rfl dX11_finger_16 hf
set_option maxRecDepth 100000 in
set_option maxHeartbeats 4000000 in
theorem c_X11_points {l : Launch} {D : va_G} {dA : FieldType → ClassId} (w : MW) (v0 : Nat) (v1 : Int32) (v2 : Int32) {w' : MW} (hf : f_X11_points w v0 v1 v2 = some w') : CT l D dA yX11_points cX11_points 3 none rmX11_points [.ref v0, .int v1, .int v2] w none w' := by
  refine J_met (by decide) rfl (Nat.le_of_ble_eq_true rfl) (fun p e s m args below meth c A E C => ?_)
  rw [f_X11_points] at hf
  refine J_sub [0, 1, 2] (L1 := [(0, .ref v0), (1, .int v1), (2, .int v2)]) rfl ?_
  refine J_aload_n (pc := 0) C dX11_points_0 rfl 0 rfl ?_
  refine J_getR (pc := 1) C dX11_points_1 (ci := 11) (k0 := 0) rfl iX11 (by decide) k_1003 hf (fun x1 hf => ?_)
  refine J_aload_n (pc := 4) C dX11_points_4 rfl 0 rfl ?_
  refine J_getI (pc := 5) C dX11_points_5 (ci := 11) (k0 := 9) rfl iX11 (by decide) k_1012 hf (fun x2 hf => ?_)
  refine J_bipush (pc := 8) C dX11_points_8 (v := 122) (by decide) ?_
  refine J_iload_n (pc := 10) C dX11_points_10 rfl 1 rfl ?_
  refine J_imul (pc := 11) C dX11_points_11 ?_
  refine J_iadd (pc := 12) C dX11_points_12 ?_
  refine J_iconst (pc := 13) C dX11_points_13 (v := 1) (by decide) ?_
  refine J_iadd (pc := 14) C dX11_points_14 ?_
  refine J_iload_n (pc := 15) C dX11_points_15 rfl 2 rfl ?_
  refine J_iast (pc := 16) C dX11_points_16 hf (fun w3 hf => ?_)
  exact J_vret (pc := 17) C rfl dX11_points_17 hf
set_option maxRecDepth 100000 in
set_option maxHeartbeats 4000000 in
theorem c_X11_below {l : Launch} {D : va_G} {dA : FieldType → ClassId} (fu : Nat) (w : MW) (v0 : Nat) (v1 : Int32) (v2 : Int32) {rr : Int32} (hf : f_X11_below fu w v0 v1 v2 = some rr) : CT l D dA yX11_below cX11_below 4 (some .int) rmX11_below [.ref v0, .int v1, .int v2] w (some (.int rr)) w := by
  refine J_met (by decide) rfl (Nat.le_of_ble_eq_true rfl) (fun p e s m args below meth c A E C => ?_)
  have B2 : ∀ (n : Nat) (v0 : Nat) (v1 : Int32) (v2 : Int32) (v3 : Int32), f_X11_below_2 fu w n v0 v1 v2 v3 = some rr → JW p l e rmX11_below s m args below meth c 4 D dA A E (MQ below (Qr D dA E (some (.int rr)) w A) args s 0 0 A) 0 0 2 [(0, .ref v0), (1, .int v1), (2, .int v2), (3, .int v3)] [] w := by
    intro n
    induction n with
    | zero => intro v0 v1 v2 v3 hf; rw [f_X11_below_2] at hf; cases hf
    | succ n ih =>
      intro v0 v1 v2 v3 hf
      rw [f_X11_below_2] at hf
      refine J_iload_n (pc := 2) C dX11_below_2 rfl 3 rfl ?_
      refine J_aload_n (pc := 3) C dX11_below_3 rfl 0 rfl ?_
      refine J_iload_n (pc := 4) C dX11_below_4 rfl 1 rfl ?_
      obtain ⟨q2, h3, hf⟩ := bind_ok hf
      obtain ⟨_, g4, h3⟩ := cl_spec h3
      refine J_cV (S := [.int v3]) (pc := 5) C dX11_below_5 (c_X11_many _ _ _ h3) k_1111 ys_X11_many ⟨Nat.le_of_ble_eq_true rfl, Nat.le_of_ble_eq_true rfl⟩ ⟨Nat.le_of_ble_eq_true rfl, Nat.le_of_ble_eq_true rfl⟩ g4 rfl rfl (fun _ => Nat.le_of_ble_eq_true rfl) ?_
      refine J_icmp_ge (pc := 8) C dX11_below_8 (tgt := 27) (by decide) hf (fun _ hf => ?_) (fun _ hf => ?_)
      · refine J_iload_n (pc := 27) C dX11_below_27 rfl 3 rfl ?_
        exact J_iretP (pc := 28) C  rfl rfl dX11_below_28 hf
      · refine J_aload_n (pc := 11) C dX11_below_11 rfl 0 rfl ?_
        refine J_iload_n (pc := 12) C dX11_below_12 rfl 1 rfl ?_
        refine J_iload_n (pc := 13) C dX11_below_13 rfl 3 rfl ?_
        obtain ⟨q5, h6, hf⟩ := bind_ok hf
        obtain ⟨_, g7, h6⟩ := cl_spec h6
        refine J_cV (S := []) (pc := 14) C dX11_below_14 (c_X11_keyAt _ _ _ _ h6) k_1115 ys_X11_keyAt ⟨Nat.le_of_ble_eq_true rfl, Nat.le_of_ble_eq_true rfl⟩ ⟨Nat.le_of_ble_eq_true rfl, Nat.le_of_ble_eq_true rfl⟩ g7 rfl rfl (fun _ => Nat.le_of_ble_eq_true rfl) ?_
        refine J_iload_n (pc := 17) C dX11_below_17 rfl 2 rfl ?_
        refine J_icmp_ge (pc := 18) C dX11_below_18 (tgt := 27) (by decide) hf (fun _ hf => ?_) (fun _ hf => ?_)
        · refine J_iload_n (pc := 27) C dX11_below_27 rfl 3 rfl ?_
          exact J_iretP (pc := 28) C  rfl rfl dX11_below_28 hf
        · refine J_iinc (pc := 21) C dX11_below_21 3 rfl (y := v3 + 1) rfl (by decide) hf (fun q => [(3, .int q), (0, .ref v0), (1, .int v1), (2, .int v2)]) (fun _ => rfl) (fun x8 hf => ?_)
          refine J_goto (pc := 24) C dX11_below_24 (tgt := 2) (by decide) ?_
          refine J_sub [1, 2, 3, 0] (L1 := [(0, .ref v0), (1, .int v1), (2, .int v2), (3, .int x8)]) rfl ?_
          exact ih v0 v1 v2 x8 hf
  rw [f_X11_below] at hf
  refine J_sub [0, 1, 2] (L1 := [(0, .ref v0), (1, .int v1), (2, .int v2)]) rfl ?_
  refine J_iconst (pc := 0) C dX11_below_0 (v := 0) (by decide) ?_
  refine J_istore_n (pc := 1) C dX11_below_1 rfl (by decide) hf (fun q => [(3, .int q), (0, .ref v0), (1, .int v1), (2, .int v2)]) (fun _ => rfl) (fun x1 hf => ?_)
  refine J_sub [1, 2, 3, 0] (L1 := [(0, .ref v0), (1, .int v1), (2, .int v2), (3, .int x1)]) rfl ?_
  exact B2 fu v0 v1 v2 x1 hf
set_option maxRecDepth 100000 in
set_option maxHeartbeats 4000000 in
theorem c_X11_placeOf {l : Launch} {D : va_G} {dA : FieldType → ClassId} (fu : Nat) (w : MW) (v0 : Nat) (v1 : Int32) (v2 : Int32) {rr : Int32} (hf : f_X11_placeOf fu w v0 v1 v2 = some rr) : CT l D dA yX11_placeOf cX11_placeOf 4 (some .int) rmX11_placeOf [.ref v0, .int v1, .int v2] w (some (.int rr)) w := by
  refine J_met (by decide) rfl (Nat.le_of_ble_eq_true rfl) (fun p e s m args below meth c A E C => ?_)
  rw [f_X11_placeOf] at hf
  refine J_sub [0, 1, 2] (L1 := [(0, .ref v0), (1, .int v1), (2, .int v2)]) rfl ?_
  refine J_aload_n (pc := 0) C dX11_placeOf_0 rfl 0 rfl ?_
  refine J_iload_n (pc := 1) C dX11_placeOf_1 rfl 1 rfl ?_
  refine J_iload_n (pc := 2) C dX11_placeOf_2 rfl 2 rfl ?_
  obtain ⟨q1, h2, hf⟩ := bind_ok hf
  obtain ⟨_, g3, h2⟩ := cl_spec h2
  refine J_cV (S := []) (pc := 3) C dX11_placeOf_3 (c_X11_below _ _ _ _ _ h2) k_1107 ys_X11_below ⟨Nat.le_of_ble_eq_true rfl, Nat.le_of_ble_eq_true rfl⟩ ⟨Nat.le_of_ble_eq_true rfl, Nat.le_of_ble_eq_true rfl⟩ g3 rfl rfl (fun _ => Nat.le_of_ble_eq_true rfl) ?_
  refine J_istore_n (pc := 6) C dX11_placeOf_6 rfl (by decide) hf (fun q => [(3, .int q), (0, .ref v0), (1, .int v1), (2, .int v2)]) (fun _ => rfl) (fun x4 hf => ?_)
  refine J_iload_n (pc := 7) C dX11_placeOf_7 rfl 0 rfl ?_
  refine J_aload_n (pc := 8) C dX11_placeOf_8 rfl 1 rfl ?_
  refine J_iload_n (pc := 9) C dX11_placeOf_9 rfl 2 rfl ?_
  obtain ⟨q5, h6, hf⟩ := bind_ok hf
  obtain ⟨_, g7, h6⟩ := cl_spec h6
  refine J_cV (S := [.int x4]) (pc := 10) C dX11_placeOf_10 (c_X11_many _ _ _ h6) k_1111 ys_X11_many ⟨Nat.le_of_ble_eq_true rfl, Nat.le_of_ble_eq_true rfl⟩ ⟨Nat.le_of_ble_eq_true rfl, Nat.le_of_ble_eq_true rfl⟩ g7 rfl rfl (fun _ => Nat.le_of_ble_eq_true rfl) ?_
  refine J_icmp_ge (pc := 13) C dX11_placeOf_13 (tgt := 30) (by decide) hf (fun _ hf => ?_) (fun _ hf => ?_)
  · refine J_iconst (pc := 30) C dX11_placeOf_30 (v := -1) (by decide) ?_
    exact J_iretP (pc := 31) C  rfl rfl dX11_placeOf_31 hf
  · refine J_aload_n (pc := 16) C dX11_placeOf_16 rfl 1 rfl ?_
    refine J_iload_n (pc := 17) C dX11_placeOf_17 rfl 2 rfl ?_
    refine J_iload_n (pc := 18) C dX11_placeOf_18 rfl 0 rfl ?_
    obtain ⟨q8, h9, hf⟩ := bind_ok hf
    obtain ⟨_, g10, h9⟩ := cl_spec h9
    refine J_cV (S := []) (pc := 19) C dX11_placeOf_19 (c_X11_keyAt _ _ _ _ h9) k_1115 ys_X11_keyAt ⟨Nat.le_of_ble_eq_true rfl, Nat.le_of_ble_eq_true rfl⟩ ⟨Nat.le_of_ble_eq_true rfl, Nat.le_of_ble_eq_true rfl⟩ g10 rfl rfl (fun _ => Nat.le_of_ble_eq_true rfl) ?_
    refine J_iload_n (pc := 22) C dX11_placeOf_22 rfl 3 rfl ?_
    refine J_icmp_ne (pc := 23) C dX11_placeOf_23 (tgt := 30) (by decide) hf (fun _ hf => ?_) (fun _ hf => ?_)
    · refine J_iconst (pc := 30) C dX11_placeOf_30 (v := -1) (by decide) ?_
      exact J_iretP (pc := 31) C  rfl rfl dX11_placeOf_31 hf
    · refine J_iload_n (pc := 26) C dX11_placeOf_26 rfl 0 rfl ?_
      refine J_goto (pc := 27) C dX11_placeOf_27 (tgt := 31) (by decide) ?_
      exact J_iretP (pc := 31) C  rfl rfl dX11_placeOf_31 hf
set_option maxRecDepth 100000 in
set_option maxHeartbeats 4000000 in
theorem c_X11_puts {l : Launch} {D : va_G} {dA : FieldType → ClassId} (fu : Nat) (w : MW) (v0 : Nat) (v1 : Int32) (v2 : Int32) (v3 : Int32) {w' : MW} (hf : f_X11_puts fu w v0 v1 v2 v3 = some w') : CT l D dA yX11_puts cX11_puts 7 none rmX11_puts [.ref v0, .int v1, .int v2, .int v3] w none w' := by
  refine J_met (by decide) rfl (Nat.le_of_ble_eq_true rfl) (fun p e s m args below meth c A E C => ?_)
  have B26 : ∀ (n : Nat) (w : MW) (v0 : Nat) (v1 : Int32) (v2 : Int32) (v3 : Int32) (v4 : Int32) (v5 : Int32) (v6 : Int32), f_X11_puts_26 fu n w v0 v1 v2 v3 v4 v5 v6 = some w' → JW p l e rmX11_puts s m args below meth c 7 D dA A E (MQ below (Qr D dA E none w' A) args s 0 0 A) 0 0 26 [(0, .ref v0), (1, .int v1), (2, .int v2), (3, .int v3), (4, .int v4), (5, .int v5), (6, .int v6)] [] w := by
    intro n
    induction n with
    | zero => intro w v0 v1 v2 v3 v4 v5 v6 hf; rw [f_X11_puts_26] at hf; cases hf
    | succ n ih =>
      intro w v0 v1 v2 v3 v4 v5 v6 hf
      rw [f_X11_puts_26] at hf
      refine J_iload (pc := 26) C dX11_puts_26 6 rfl ?_
      refine J_iload (pc := 28) C dX11_puts_28 4 rfl ?_
      refine J_icmp_le (pc := 30) C dX11_puts_30 (tgt := 93) (by decide) hf (fun _ hf => ?_) (fun _ hf => ?_)
      · refine J_aload_n (pc := 93) C dX11_puts_93 rfl 0 rfl ?_
        refine J_getR (pc := 94) C dX11_puts_94 (ci := 11) (k0 := 0) rfl iX11 (by decide) k_1003 hf (fun x11 hf => ?_)
        refine J_iload (pc := 97) C dX11_puts_97 5 rfl ?_
        refine J_iconst (pc := 99) C dX11_puts_99 (v := 2) (by decide) ?_
        refine J_iadd (pc := 100) C dX11_puts_100 ?_
        refine J_iload (pc := 101) C dX11_puts_101 4 rfl ?_
        refine J_iadd (pc := 103) C dX11_puts_103 ?_
        refine J_iload_n (pc := 104) C dX11_puts_104 rfl 2 rfl ?_
        refine J_iast (pc := 105) C dX11_puts_105 hf (fun w12 hf => ?_)
        refine J_aload_n (pc := 106) C dX11_puts_106 rfl 0 rfl ?_
        refine J_getR (pc := 107) C dX11_puts_107 (ci := 11) (k0 := 0) rfl iX11 (by decide) k_1003 hf (fun x13 hf => ?_)
        refine J_iload (pc := 110) C dX11_puts_110 5 rfl ?_
        refine J_bipush (pc := 112) C dX11_puts_112 (v := 62) (by decide) ?_
        refine J_iadd (pc := 114) C dX11_puts_114 ?_
        refine J_iload (pc := 115) C dX11_puts_115 4 rfl ?_
        refine J_iadd (pc := 117) C dX11_puts_117 ?_
        refine J_iload_n (pc := 118) C dX11_puts_118 rfl 3 rfl ?_
        refine J_iast (pc := 119) C dX11_puts_119 hf (fun w14 hf => ?_)
        refine J_aload_n (pc := 120) C dX11_puts_120 rfl 0 rfl ?_
        refine J_getR (pc := 121) C dX11_puts_121 (ci := 11) (k0 := 0) rfl iX11 (by decide) k_1003 hf (fun x15 hf => ?_)
        refine J_iload (pc := 124) C dX11_puts_124 5 rfl ?_
        refine J_dup2 (pc := 126) C dX11_puts_126 rfl rfl ?_
        refine J_iald (pc := 127) C dX11_puts_127 hf (fun x16 hf => ?_)
        refine J_iconst (pc := 128) C dX11_puts_128 (v := 1) (by decide) ?_
        refine J_iadd (pc := 129) C dX11_puts_129 ?_
        refine J_iast (pc := 130) C dX11_puts_130 hf (fun w17 hf => ?_)
        refine J_aload_n (pc := 131) C dX11_puts_131 rfl 0 rfl ?_
        refine J_iload_n (pc := 132) C dX11_puts_132 rfl 1 rfl ?_
        refine J_iconst (pc := 133) C dX11_puts_133 (v := -1) (by decide) ?_
        obtain ⟨q18, h19, hf⟩ := bind_ok hf
        obtain ⟨_, g20, h19⟩ := cl_spec h19
        refine J_cV (S := []) (pc := 134) C dX11_puts_134 (c_X11_points _ _ _ _ h19) k_1139 ys_X11_points ⟨Nat.le_of_ble_eq_true rfl, Nat.le_of_ble_eq_true rfl⟩ ⟨Nat.le_of_ble_eq_true rfl, Nat.le_of_ble_eq_true rfl⟩ g20 rfl rfl (fun _ => Nat.le_of_ble_eq_true rfl) ?_
        exact J_vret (pc := 137) C rfl dX11_puts_137 hf
      · refine J_aload_n (pc := 33) C dX11_puts_33 rfl 0 rfl ?_
        refine J_getR (pc := 34) C dX11_puts_34 (ci := 11) (k0 := 0) rfl iX11 (by decide) k_1003 hf (fun x21 hf => ?_)
        refine J_iload (pc := 37) C dX11_puts_37 5 rfl ?_
        refine J_iconst (pc := 39) C dX11_puts_39 (v := 2) (by decide) ?_
        refine J_iadd (pc := 40) C dX11_puts_40 ?_
        refine J_iload (pc := 41) C dX11_puts_41 6 rfl ?_
        refine J_iadd (pc := 43) C dX11_puts_43 ?_
        refine J_aload_n (pc := 44) C dX11_puts_44 rfl 0 rfl ?_
        refine J_getR (pc := 45) C dX11_puts_45 (ci := 11) (k0 := 0) rfl iX11 (by decide) k_1003 hf (fun x22 hf => ?_)
        refine J_iload (pc := 48) C dX11_puts_48 5 rfl ?_
        refine J_iconst (pc := 50) C dX11_puts_50 (v := 2) (by decide) ?_
        refine J_iadd (pc := 51) C dX11_puts_51 ?_
        refine J_iload (pc := 52) C dX11_puts_52 6 rfl ?_
        refine J_iadd (pc := 54) C dX11_puts_54 ?_
        refine J_iconst (pc := 55) C dX11_puts_55 (v := 1) (by decide) ?_
        refine J_isub (pc := 56) C dX11_puts_56 ?_
        refine J_iald (pc := 57) C dX11_puts_57 hf (fun x23 hf => ?_)
        refine J_iast (pc := 58) C dX11_puts_58 hf (fun w24 hf => ?_)
        refine J_aload_n (pc := 59) C dX11_puts_59 rfl 0 rfl ?_
        refine J_getR (pc := 60) C dX11_puts_60 (ci := 11) (k0 := 0) rfl iX11 (by decide) k_1003 hf (fun x25 hf => ?_)
        refine J_iload (pc := 63) C dX11_puts_63 5 rfl ?_
        refine J_bipush (pc := 65) C dX11_puts_65 (v := 62) (by decide) ?_
        refine J_iadd (pc := 67) C dX11_puts_67 ?_
        refine J_iload (pc := 68) C dX11_puts_68 6 rfl ?_
        refine J_iadd (pc := 70) C dX11_puts_70 ?_
        refine J_aload_n (pc := 71) C dX11_puts_71 rfl 0 rfl ?_
        refine J_getR (pc := 72) C dX11_puts_72 (ci := 11) (k0 := 0) rfl iX11 (by decide) k_1003 hf (fun x26 hf => ?_)
        refine J_iload (pc := 75) C dX11_puts_75 5 rfl ?_
        refine J_bipush (pc := 77) C dX11_puts_77 (v := 62) (by decide) ?_
        refine J_iadd (pc := 79) C dX11_puts_79 ?_
        refine J_iload (pc := 80) C dX11_puts_80 6 rfl ?_
        refine J_iadd (pc := 82) C dX11_puts_82 ?_
        refine J_iconst (pc := 83) C dX11_puts_83 (v := 1) (by decide) ?_
        refine J_isub (pc := 84) C dX11_puts_84 ?_
        refine J_iald (pc := 85) C dX11_puts_85 hf (fun x27 hf => ?_)
        refine J_iast (pc := 86) C dX11_puts_86 hf (fun w28 hf => ?_)
        refine J_iinc (pc := 87) C dX11_puts_87 6 rfl (y := v6 + (-1)) rfl (by decide) hf (fun q => [(6, .int q), (0, .ref v0), (1, .int v1), (2, .int v2), (3, .int v3), (4, .int v4), (5, .int v5)]) (fun _ => rfl) (fun x29 hf => ?_)
        refine J_goto (pc := 90) C dX11_puts_90 (tgt := 26) (by decide) ?_
        refine J_sub [1, 2, 3, 4, 5, 6, 0] (L1 := [(0, .ref v0), (1, .int v1), (2, .int v2), (3, .int v3), (4, .int v4), (5, .int v5), (6, .int x29)]) rfl ?_
        exact ih w28 v0 v1 v2 v3 v4 v5 x29 hf
  rw [f_X11_puts] at hf
  refine J_sub [0, 1, 2, 3] (L1 := [(0, .ref v0), (1, .int v1), (2, .int v2), (3, .int v3)]) rfl ?_
  refine J_aload_n (pc := 0) C dX11_puts_0 rfl 0 rfl ?_
  refine J_iload_n (pc := 1) C dX11_puts_1 rfl 1 rfl ?_
  refine J_iload_n (pc := 2) C dX11_puts_2 rfl 2 rfl ?_
  obtain ⟨q1, h2, hf⟩ := bind_ok hf
  obtain ⟨_, g3, h2⟩ := cl_spec h2
  refine J_cV (S := []) (pc := 3) C dX11_puts_3 (c_X11_below _ _ _ _ _ h2) k_1107 ys_X11_below ⟨Nat.le_of_ble_eq_true rfl, Nat.le_of_ble_eq_true rfl⟩ ⟨Nat.le_of_ble_eq_true rfl, Nat.le_of_ble_eq_true rfl⟩ g3 rfl rfl (fun _ => Nat.le_of_ble_eq_true rfl) ?_
  refine J_istore (pc := 6) C dX11_puts_6 (by decide) hf (fun q => [(4, .int q), (0, .ref v0), (1, .int v1), (2, .int v2), (3, .int v3)]) (fun _ => rfl) (fun x4 hf => ?_)
  refine J_aload_n (pc := 8) C dX11_puts_8 rfl 1 rfl ?_
  refine J_getI (pc := 9) C dX11_puts_9 (ci := 11) (k0 := 9) rfl iX11 (by decide) k_1012 hf (fun x5 hf => ?_)
  refine J_bipush (pc := 12) C dX11_puts_12 (v := 122) (by decide) ?_
  refine J_iload_n (pc := 14) C dX11_puts_14 rfl 2 rfl ?_
  refine J_imul (pc := 15) C dX11_puts_15 ?_
  refine J_iadd (pc := 16) C dX11_puts_16 ?_
  refine J_istore (pc := 17) C dX11_puts_17 (by decide) hf (fun q => [(5, .int q), (4, .int x4), (0, .ref v0), (1, .int v1), (2, .int v2), (3, .int v3)]) (fun _ => rfl) (fun x6 hf => ?_)
  refine J_aload_n (pc := 19) C dX11_puts_19 rfl 2 rfl ?_
  refine J_iload_n (pc := 20) C dX11_puts_20 rfl 3 rfl ?_
  obtain ⟨q7, h8, hf⟩ := bind_ok hf
  obtain ⟨_, g9, h8⟩ := cl_spec h8
  refine J_cV (S := []) (pc := 21) C dX11_puts_21 (c_X11_many _ _ _ h8) k_1111 ys_X11_many ⟨Nat.le_of_ble_eq_true rfl, Nat.le_of_ble_eq_true rfl⟩ ⟨Nat.le_of_ble_eq_true rfl, Nat.le_of_ble_eq_true rfl⟩ g9 rfl rfl (fun _ => Nat.le_of_ble_eq_true rfl) ?_
  refine J_istore (pc := 24) C dX11_puts_24 (by decide) hf (fun q => [(6, .int q), (5, .int x6), (4, .int x4), (0, .ref v0), (1, .int v1), (2, .int v2), (3, .int v3)]) (fun _ => rfl) (fun x10 hf => ?_)
  refine J_sub [3, 4, 5, 6, 2, 1, 0] (L1 := [(0, .ref v0), (1, .int v1), (2, .int v2), (3, .int v3), (4, .int x4), (5, .int x6), (6, .int x10)]) rfl ?_
  exact B26 fu w v0 v1 v2 v3 x4 x6 x10 hf
set_option maxRecDepth 100000 in
set_option maxHeartbeats 4000000 in
theorem c_X11_drops {l : Launch} {D : va_G} {dA : FieldType → ClassId} (fu : Nat) (w : MW) (v0 : Nat) (v1 : Int32) (v2 : Int32) {w' : MW} (hf : f_X11_drops fu w v0 v1 v2 = some w') : CT l D dA yX11_drops cX11_drops 5 none rmX11_drops [.ref v0, .int v1, .int v2] w none w' := by
  refine J_met (by decide) rfl (Nat.le_of_ble_eq_true rfl) (fun p e s m args below meth c A E C => ?_)
  have B13 : ∀ (n : Nat) (w : MW) (v0 : Nat) (v1 : Int32) (v3 : Int32) (v4 : Int32), f_X11_drops_13 fu n w v0 v1 v3 v4 = some w' → JW p l e rmX11_drops s m args below meth c 5 D dA A E (MQ below (Qr D dA E none w' A) args s 0 0 A) 0 0 13 [(0, .ref v0), (1, .int v1), (3, .int v3), (4, .int v4)] [] w := by
    intro n
    induction n with
    | zero => intro w v0 v1 v3 v4 hf; rw [f_X11_drops_13] at hf; cases hf
    | succ n ih =>
      intro w v0 v1 v3 v4 hf
      rw [f_X11_drops_13] at hf
      refine J_iload (pc := 13) C dX11_drops_13 3 rfl ?_
      refine J_iconst (pc := 15) C dX11_drops_15 (v := 1) (by decide) ?_
      refine J_iadd (pc := 16) C dX11_drops_16 ?_
      refine J_aload_n (pc := 17) C dX11_drops_17 rfl 0 rfl ?_
      refine J_iload_n (pc := 18) C dX11_drops_18 rfl 1 rfl ?_
      obtain ⟨q4, h5, hf⟩ := bind_ok hf
      obtain ⟨_, g6, h5⟩ := cl_spec h5
      refine J_cV (S := [.int (v4 + (1 : Int32))]) (pc := 19) C dX11_drops_19 (c_X11_many _ _ _ h5) k_1111 ys_X11_many ⟨Nat.le_of_ble_eq_true rfl, Nat.le_of_ble_eq_true rfl⟩ ⟨Nat.le_of_ble_eq_true rfl, Nat.le_of_ble_eq_true rfl⟩ g6 rfl rfl (fun _ => Nat.le_of_ble_eq_true rfl) ?_
      refine J_icmp_ge (pc := 22) C dX11_drops_22 (tgt := 81) (by decide) hf (fun _ hf => ?_) (fun _ hf => ?_)
      · refine J_aload_n (pc := 81) C dX11_drops_81 rfl 0 rfl ?_
        refine J_getR (pc := 82) C dX11_drops_82 (ci := 11) (k0 := 0) rfl iX11 (by decide) k_1003 hf (fun x7 hf => ?_)
        refine J_iload_n (pc := 85) C dX11_drops_85 rfl 2 rfl ?_
        refine J_dup2 (pc := 86) C dX11_drops_86 rfl rfl ?_
        refine J_iald (pc := 87) C dX11_drops_87 hf (fun x8 hf => ?_)
        refine J_iconst (pc := 88) C dX11_drops_88 (v := 1) (by decide) ?_
        refine J_isub (pc := 89) C dX11_drops_89 ?_
        refine J_iast (pc := 90) C dX11_drops_90 hf (fun w9 hf => ?_)
        refine J_aload_n (pc := 91) C dX11_drops_91 rfl 0 rfl ?_
        refine J_iload_n (pc := 92) C dX11_drops_92 rfl 1 rfl ?_
        refine J_iconst (pc := 93) C dX11_drops_93 (v := -1) (by decide) ?_
        obtain ⟨q10, h11, hf⟩ := bind_ok hf
        obtain ⟨_, g12, h11⟩ := cl_spec h11
        refine J_cV (S := []) (pc := 94) C dX11_drops_94 (c_X11_points _ _ _ _ h11) k_1139 ys_X11_points ⟨Nat.le_of_ble_eq_true rfl, Nat.le_of_ble_eq_true rfl⟩ ⟨Nat.le_of_ble_eq_true rfl, Nat.le_of_ble_eq_true rfl⟩ g12 rfl rfl (fun _ => Nat.le_of_ble_eq_true rfl) ?_
        exact J_vret (pc := 97) C rfl dX11_drops_97 hf
      · refine J_aload_n (pc := 25) C dX11_drops_25 rfl 0 rfl ?_
        refine J_getR (pc := 26) C dX11_drops_26 (ci := 11) (k0 := 0) rfl iX11 (by decide) k_1003 hf (fun x13 hf => ?_)
        refine J_iload_n (pc := 29) C dX11_drops_29 rfl 2 rfl ?_
        refine J_iconst (pc := 30) C dX11_drops_30 (v := 2) (by decide) ?_
        refine J_iadd (pc := 31) C dX11_drops_31 ?_
        refine J_iload (pc := 32) C dX11_drops_32 3 rfl ?_
        refine J_iadd (pc := 34) C dX11_drops_34 ?_
        refine J_aload_n (pc := 35) C dX11_drops_35 rfl 0 rfl ?_
        refine J_getR (pc := 36) C dX11_drops_36 (ci := 11) (k0 := 0) rfl iX11 (by decide) k_1003 hf (fun x14 hf => ?_)
        refine J_iload_n (pc := 39) C dX11_drops_39 rfl 2 rfl ?_
        refine J_iconst (pc := 40) C dX11_drops_40 (v := 2) (by decide) ?_
        refine J_iadd (pc := 41) C dX11_drops_41 ?_
        refine J_iload (pc := 42) C dX11_drops_42 3 rfl ?_
        refine J_iadd (pc := 44) C dX11_drops_44 ?_
        refine J_iconst (pc := 45) C dX11_drops_45 (v := 1) (by decide) ?_
        refine J_iadd (pc := 46) C dX11_drops_46 ?_
        refine J_iald (pc := 47) C dX11_drops_47 hf (fun x15 hf => ?_)
        refine J_iast (pc := 48) C dX11_drops_48 hf (fun w16 hf => ?_)
        refine J_aload_n (pc := 49) C dX11_drops_49 rfl 0 rfl ?_
        refine J_getR (pc := 50) C dX11_drops_50 (ci := 11) (k0 := 0) rfl iX11 (by decide) k_1003 hf (fun x17 hf => ?_)
        refine J_iload_n (pc := 53) C dX11_drops_53 rfl 2 rfl ?_
        refine J_bipush (pc := 54) C dX11_drops_54 (v := 62) (by decide) ?_
        refine J_iadd (pc := 56) C dX11_drops_56 ?_
        refine J_iload (pc := 57) C dX11_drops_57 3 rfl ?_
        refine J_iadd (pc := 59) C dX11_drops_59 ?_
        refine J_aload_n (pc := 60) C dX11_drops_60 rfl 0 rfl ?_
        refine J_getR (pc := 61) C dX11_drops_61 (ci := 11) (k0 := 0) rfl iX11 (by decide) k_1003 hf (fun x18 hf => ?_)
        refine J_iload_n (pc := 64) C dX11_drops_64 rfl 2 rfl ?_
        refine J_bipush (pc := 65) C dX11_drops_65 (v := 62) (by decide) ?_
        refine J_iadd (pc := 67) C dX11_drops_67 ?_
        refine J_iload (pc := 68) C dX11_drops_68 3 rfl ?_
        refine J_iadd (pc := 70) C dX11_drops_70 ?_
        refine J_iconst (pc := 71) C dX11_drops_71 (v := 1) (by decide) ?_
        refine J_iadd (pc := 72) C dX11_drops_72 ?_
        refine J_iald (pc := 73) C dX11_drops_73 hf (fun x19 hf => ?_)
        refine J_iast (pc := 74) C dX11_drops_74 hf (fun w20 hf => ?_)
        refine J_iinc (pc := 75) C dX11_drops_75 3 rfl (y := v4 + 1) rfl (by decide) hf (fun q => [(4, .int q), (0, .ref v0), (1, .int v1), (3, .int v3)]) (fun _ => rfl) (fun x21 hf => ?_)
        refine J_goto (pc := 78) C dX11_drops_78 (tgt := 13) (by decide) ?_
        refine J_sub [1, 2, 3, 0] (L1 := [(0, .ref v0), (1, .int v1), (3, .int v3), (4, .int x21)]) rfl ?_
        exact ih w20 v0 v1 v3 x21 hf
  rw [f_X11_drops] at hf
  refine J_sub [0, 1, 2] (L1 := [(0, .ref v0), (1, .int v1), (2, .int v2)]) rfl ?_
  refine J_aload_n (pc := 0) C dX11_drops_0 rfl 0 rfl ?_
  refine J_getI (pc := 1) C dX11_drops_1 (ci := 11) (k0 := 9) rfl iX11 (by decide) k_1012 hf (fun x1 hf => ?_)
  refine J_bipush (pc := 4) C dX11_drops_4 (v := 122) (by decide) ?_
  refine J_iload_n (pc := 6) C dX11_drops_6 rfl 1 rfl ?_
  refine J_imul (pc := 7) C dX11_drops_7 ?_
  refine J_iadd (pc := 8) C dX11_drops_8 ?_
  refine J_istore_n (pc := 9) C dX11_drops_9 rfl (by decide) hf (fun q => [(3, .int q), (0, .ref v0), (1, .int v1), (2, .int v2)]) (fun _ => rfl) (fun x2 hf => ?_)
  refine J_iload_n (pc := 10) C dX11_drops_10 rfl 3 rfl ?_
  refine J_istore (pc := 11) C dX11_drops_11 (by decide) hf (fun q => [(4, .int q), (3, .int x2), (0, .ref v0), (1, .int v1), (2, .int v2)]) (fun _ => rfl) (fun x3 hf => ?_)
  refine J_sub [2, 3, 1, 0] (L1 := [(0, .ref v0), (1, .int v1), (3, .int x2), (4, .int x3)]) rfl ?_
  exact B13 fu w v0 v1 x2 x3 hf
set_option maxRecDepth 100000 in
set_option maxHeartbeats 4000000 in
theorem c_X11_total {l : Launch} {D : va_G} {dA : FieldType → ClassId} (fu : Nat) (w : MW) (v0 : Nat) {rr : Int32} (hf : f_X11_total fu w v0 = some rr) : CT l D dA yX11_total cX11_total 3 (some .int) rmX11_total [.ref v0] w (some (.int rr)) w := by
  refine J_met (by decide) rfl (Nat.le_of_ble_eq_true rfl) (fun p e s m args below meth c A E C => ?_)
  have B4 : ∀ (n : Nat) (v0 : Nat) (v1 : Int32) (v2 : Int32), f_X11_total_4 fu w n v0 v1 v2 = some rr → JW p l e rmX11_total s m args below meth c 3 D dA A E (MQ below (Qr D dA E (some (.int rr)) w A) args s 0 0 A) 0 0 4 [(0, .ref v0), (1, .int v1), (2, .int v2)] [] w := by
    intro n
    induction n with
    | zero => intro v0 v1 v2 hf; rw [f_X11_total_4] at hf; cases hf
    | succ n ih =>
      intro v0 v1 v2 hf
      rw [f_X11_total_4] at hf
      refine J_iload_n (pc := 4) C dX11_total_4 rfl 2 rfl ?_
      refine J_bipush (pc := 5) C dX11_total_5 (v := 8) (by decide) ?_
      refine J_icmp_ge (pc := 7) C dX11_total_7 (tgt := 24) (by decide) hf (fun _ hf => ?_) (fun _ hf => ?_)
      · refine J_iload_n (pc := 24) C dX11_total_24 rfl 1 rfl ?_
        exact J_iretP (pc := 25) C  rfl rfl dX11_total_25 hf
      · refine J_iload_n (pc := 10) C dX11_total_10 rfl 1 rfl ?_
        refine J_aload_n (pc := 11) C dX11_total_11 rfl 0 rfl ?_
        refine J_iload_n (pc := 12) C dX11_total_12 rfl 2 rfl ?_
        obtain ⟨q3, h4, hf⟩ := bind_ok hf
        obtain ⟨_, g5, h4⟩ := cl_spec h4
        refine J_cV (S := [.int v1]) (pc := 13) C dX11_total_13 (c_X11_many _ _ _ h4) k_1111 ys_X11_many ⟨Nat.le_of_ble_eq_true rfl, Nat.le_of_ble_eq_true rfl⟩ ⟨Nat.le_of_ble_eq_true rfl, Nat.le_of_ble_eq_true rfl⟩ g5 rfl rfl (fun _ => Nat.le_of_ble_eq_true rfl) ?_
        refine J_iadd (pc := 16) C dX11_total_16 ?_
        refine J_istore_n (pc := 17) C dX11_total_17 rfl (by decide) hf (fun q => [(1, .int q), (0, .ref v0), (2, .int v2)]) (fun _ => rfl) (fun x6 hf => ?_)
        refine J_iinc (pc := 18) C dX11_total_18 2 rfl (y := v2 + 1) rfl (by decide) hf (fun q => [(2, .int q), (1, .int x6), (0, .ref v0)]) (fun _ => rfl) (fun x7 hf => ?_)
        refine J_goto (pc := 21) C dX11_total_21 (tgt := 4) (by decide) ?_
        refine J_sub [2, 1, 0] (L1 := [(0, .ref v0), (1, .int x6), (2, .int x7)]) rfl ?_
        exact ih v0 x6 x7 hf
  rw [f_X11_total] at hf
  refine J_sub [0] (L1 := [(0, .ref v0)]) rfl ?_
  refine J_iconst (pc := 0) C dX11_total_0 (v := 0) (by decide) ?_
  refine J_istore_n (pc := 1) C dX11_total_1 rfl (by decide) hf (fun q => [(1, .int q), (0, .ref v0)]) (fun _ => rfl) (fun x1 hf => ?_)
  refine J_iconst (pc := 2) C dX11_total_2 (v := 0) (by decide) ?_
  refine J_istore_n (pc := 3) C dX11_total_3 rfl (by decide) hf (fun q => [(2, .int q), (1, .int x1), (0, .ref v0)]) (fun _ => rfl) (fun x2 hf => ?_)
  refine J_sub [2, 1, 0] (L1 := [(0, .ref v0), (1, .int x1), (2, .int x2)]) rfl ?_
  exact B4 fu v0 x1 x2 hf
set_option maxRecDepth 100000 in
set_option maxHeartbeats 4000000 in
theorem c_X11_twins {l : Launch} {D : va_G} {dA : FieldType → ClassId} (fu : Nat) (w : MW) (v0 : Nat) (v1 : Int32) (v2 : Int32) {rr : Int32} (hf : f_X11_twins fu w v0 v1 v2 = some rr) : CT l D dA yX11_twins cX11_twins 5 (some .int) rmX11_twins [.ref v0, .int v1, .int v2] w (some (.int rr)) w := by
  refine J_met (by decide) rfl (Nat.le_of_ble_eq_true rfl) (fun p e s m args below meth c A E C => ?_)
  have B37 : ∀ (lr5 : Nat → Int32 → Int32 → Int32 → Int32 → Option Int32) (lh5 : ∀ (v0 : Nat) (v1 : Int32) (v2 : Int32) (v3 : Int32) (v4 : Int32), lr5 v0 v1 v2 v3 v4 = some rr → JW p l e rmX11_twins s m args below meth c 5 D dA A E (MQ below (Qr D dA E (some (.int rr)) w A) args s 0 0 A) 0 0 5 [(0, .ref v0), (1, .int v1), (2, .int v2), (3, .int v3), (4, .int v4)] [] w) (v0 : Nat) (v1 : Int32) (v2 : Int32) (v4 : Int32) (s0 : Int32) (s1 : Int32), f_X11_twins_37 fu w lr5 v0 v1 v2 v4 s0 s1 = some rr → JW p l e rmX11_twins s m args below meth c 5 D dA A E (MQ below (Qr D dA E (some (.int rr)) w A) args s 0 0 A) 0 0 37 [(0, .ref v0), (1, .int v1), (2, .int v2), (4, .int v4)] [.int s1, .int s0] w := by
    intro lr5 lh5 v0 v1 v2 v4 s0 s1 hf
    rw [f_X11_twins_37] at hf
    refine J_iadd (pc := 37) C dX11_twins_37 ?_
    refine J_istore_n (pc := 38) C dX11_twins_38 rfl (by decide) hf (fun q => [(3, .int q), (0, .ref v0), (1, .int v1), (2, .int v2), (4, .int v4)]) (fun _ => rfl) (fun x12 hf => ?_)
    refine J_iinc (pc := 39) C dX11_twins_39 4 rfl (y := v4 + 1) rfl (by decide) hf (fun q => [(4, .int q), (3, .int x12), (0, .ref v0), (1, .int v1), (2, .int v2)]) (fun _ => rfl) (fun x13 hf => ?_)
    refine J_goto (pc := 42) C dX11_twins_42 (tgt := 5) (by decide) ?_
    refine J_sub [2, 3, 4, 1, 0] (L1 := [(0, .ref v0), (1, .int v1), (2, .int v2), (3, .int x12), (4, .int x13)]) rfl ?_
    exact lh5 v0 v1 v2 x12 x13 hf
  have B5 : ∀ (n : Nat) (v0 : Nat) (v1 : Int32) (v2 : Int32) (v3 : Int32) (v4 : Int32), f_X11_twins_5 fu w n v0 v1 v2 v3 v4 = some rr → JW p l e rmX11_twins s m args below meth c 5 D dA A E (MQ below (Qr D dA E (some (.int rr)) w A) args s 0 0 A) 0 0 5 [(0, .ref v0), (1, .int v1), (2, .int v2), (3, .int v3), (4, .int v4)] [] w := by
    intro n
    induction n with
    | zero => intro v0 v1 v2 v3 v4 hf; rw [f_X11_twins_5] at hf; cases hf
    | succ n ih =>
      intro v0 v1 v2 v3 v4 hf
      rw [f_X11_twins_5] at hf
      refine J_iload (pc := 5) C dX11_twins_5 4 rfl ?_
      refine J_aload_n (pc := 7) C dX11_twins_7 rfl 0 rfl ?_
      refine J_iload_n (pc := 8) C dX11_twins_8 rfl 2 rfl ?_
      obtain ⟨q3, h4, hf⟩ := bind_ok hf
      obtain ⟨_, g5, h4⟩ := cl_spec h4
      refine J_cV (S := [.int v4]) (pc := 9) C dX11_twins_9 (c_X11_many _ _ _ h4) k_1111 ys_X11_many ⟨Nat.le_of_ble_eq_true rfl, Nat.le_of_ble_eq_true rfl⟩ ⟨Nat.le_of_ble_eq_true rfl, Nat.le_of_ble_eq_true rfl⟩ g5 rfl rfl (fun _ => Nat.le_of_ble_eq_true rfl) ?_
      refine J_icmp_ge (pc := 12) C dX11_twins_12 (tgt := 45) (by decide) hf (fun _ hf => ?_) (fun _ hf => ?_)
      · refine J_iload_n (pc := 45) C dX11_twins_45 rfl 3 rfl ?_
        exact J_iretP (pc := 46) C  rfl rfl dX11_twins_46 hf
      · refine J_iload_n (pc := 15) C dX11_twins_15 rfl 3 rfl ?_
        refine J_aload_n (pc := 16) C dX11_twins_16 rfl 0 rfl ?_
        refine J_iload_n (pc := 17) C dX11_twins_17 rfl 1 rfl ?_
        refine J_aload_n (pc := 18) C dX11_twins_18 rfl 0 rfl ?_
        refine J_iload_n (pc := 19) C dX11_twins_19 rfl 2 rfl ?_
        refine J_iload (pc := 20) C dX11_twins_20 4 rfl ?_
        obtain ⟨q6, h7, hf⟩ := bind_ok hf
        obtain ⟨_, g8, h7⟩ := cl_spec h7
        refine J_cV (S := [.int v1, .ref v0, .int v3]) (pc := 22) C dX11_twins_22 (c_X11_keyAt _ _ _ _ h7) k_1115 ys_X11_keyAt ⟨Nat.le_of_ble_eq_true rfl, Nat.le_of_ble_eq_true rfl⟩ ⟨Nat.le_of_ble_eq_true rfl, Nat.le_of_ble_eq_true rfl⟩ g8 rfl rfl (fun _ => Nat.le_of_ble_eq_true rfl) ?_
        obtain ⟨q9, h10, hf⟩ := bind_ok hf
        obtain ⟨_, g11, h10⟩ := cl_spec h10
        refine J_cV (S := [.int v3]) (pc := 25) C dX11_twins_25 (c_X11_placeOf _ _ _ _ _ h10) k_1103 ys_X11_placeOf ⟨Nat.le_of_ble_eq_true rfl, Nat.le_of_ble_eq_true rfl⟩ ⟨Nat.le_of_ble_eq_true rfl, Nat.le_of_ble_eq_true rfl⟩ g11 rfl rfl (fun _ => Nat.le_of_ble_eq_true rfl) ?_
        refine J_iconst (pc := 28) C dX11_twins_28 (v := -1) (by decide) ?_
        refine J_icmp_eq (pc := 29) C dX11_twins_29 (tgt := 36) (by decide) hf (fun _ hf => ?_) (fun _ hf => ?_)
        · refine J_iconst (pc := 36) C dX11_twins_36 (v := 0) (by decide) ?_
          refine J_sub [0, 1, 2, 4] (L1 := [(0, .ref v0), (1, .int v1), (2, .int v2), (4, .int v4)]) rfl ?_
          exact B37 (f_X11_twins_5 fu w n) ih v0 v1 v2 v4 v3 (0 : Int32) hf
        · refine J_iconst (pc := 32) C dX11_twins_32 (v := 1) (by decide) ?_
          refine J_goto (pc := 33) C dX11_twins_33 (tgt := 37) (by decide) ?_
          refine J_sub [0, 1, 2, 4] (L1 := [(0, .ref v0), (1, .int v1), (2, .int v2), (4, .int v4)]) rfl ?_
          exact B37 (f_X11_twins_5 fu w n) ih v0 v1 v2 v4 v3 (1 : Int32) hf
  rw [f_X11_twins] at hf
  refine J_sub [0, 1, 2] (L1 := [(0, .ref v0), (1, .int v1), (2, .int v2)]) rfl ?_
  refine J_iconst (pc := 0) C dX11_twins_0 (v := 0) (by decide) ?_
  refine J_istore_n (pc := 1) C dX11_twins_1 rfl (by decide) hf (fun q => [(3, .int q), (0, .ref v0), (1, .int v1), (2, .int v2)]) (fun _ => rfl) (fun x1 hf => ?_)
  refine J_iconst (pc := 2) C dX11_twins_2 (v := 0) (by decide) ?_
  refine J_istore (pc := 3) C dX11_twins_3 (by decide) hf (fun q => [(4, .int q), (3, .int x1), (0, .ref v0), (1, .int v1), (2, .int v2)]) (fun _ => rfl) (fun x2 hf => ?_)
  refine J_sub [2, 3, 4, 1, 0] (L1 := [(0, .ref v0), (1, .int v1), (2, .int v2), (3, .int x1), (4, .int x2)]) rfl ?_
  exact B5 fu v0 v1 v2 x1 x2 hf
set_option maxRecDepth 100000 in
set_option maxHeartbeats 4000000 in
theorem c_X11_counted {l : Launch} {D : va_G} {dA : FieldType → ClassId} (fu : Nat) (w : MW) (v0 : Nat) (v1 : Int32) (v2 : Int32) (v3 : Int32) {rr : Int32} (hf : f_X11_counted fu w v0 v1 v2 v3 = some rr) : CT l D dA yX11_counted cX11_counted 6 (some .int) rmX11_counted [.ref v0, .int v1, .int v2, .int v3] w (some (.int rr)) w := by
  refine J_met (by decide) rfl (Nat.le_of_ble_eq_true rfl) (fun p e s m args below meth c A E C => ?_)
  have B38 : ∀ (lr6 : Nat → Int32 → Int32 → Int32 → Int32 → Int32 → Option Int32) (lh6 : ∀ (v0 : Nat) (v1 : Int32) (v2 : Int32) (v3 : Int32) (v4 : Int32) (v5 : Int32), lr6 v0 v1 v2 v3 v4 v5 = some rr → JW p l e rmX11_counted s m args below meth c 6 D dA A E (MQ below (Qr D dA E (some (.int rr)) w A) args s 0 0 A) 0 0 6 [(0, .ref v0), (1, .int v1), (2, .int v2), (3, .int v3), (4, .int v4), (5, .int v5)] [] w) (v0 : Nat) (v1 : Int32) (v2 : Int32) (v3 : Int32) (v5 : Int32) (s0 : Int32) (s1 : Int32), f_X11_counted_38 fu w lr6 v0 v1 v2 v3 v5 s0 s1 = some rr → JW p l e rmX11_counted s m args below meth c 6 D dA A E (MQ below (Qr D dA E (some (.int rr)) w A) args s 0 0 A) 0 0 38 [(0, .ref v0), (1, .int v1), (2, .int v2), (3, .int v3), (5, .int v5)] [.int s1, .int s0] w := by
    intro lr6 lh6 v0 v1 v2 v3 v5 s0 s1 hf
    rw [f_X11_counted_38] at hf
    refine J_iadd (pc := 38) C dX11_counted_38 ?_
    refine J_istore (pc := 39) C dX11_counted_39 (by decide) hf (fun q => [(4, .int q), (0, .ref v0), (1, .int v1), (2, .int v2), (3, .int v3), (5, .int v5)]) (fun _ => rfl) (fun x9 hf => ?_)
    refine J_iinc (pc := 41) C dX11_counted_41 5 rfl (y := v5 + 1) rfl (by decide) hf (fun q => [(5, .int q), (4, .int x9), (0, .ref v0), (1, .int v1), (2, .int v2), (3, .int v3)]) (fun _ => rfl) (fun x10 hf => ?_)
    refine J_goto (pc := 44) C dX11_counted_44 (tgt := 6) (by decide) ?_
    refine J_sub [2, 3, 4, 5, 1, 0] (L1 := [(0, .ref v0), (1, .int v1), (2, .int v2), (3, .int v3), (4, .int x9), (5, .int x10)]) rfl ?_
    exact lh6 v0 v1 v2 v3 x9 x10 hf
  have B6 : ∀ (n : Nat) (v0 : Nat) (v1 : Int32) (v2 : Int32) (v3 : Int32) (v4 : Int32) (v5 : Int32), f_X11_counted_6 fu w n v0 v1 v2 v3 v4 v5 = some rr → JW p l e rmX11_counted s m args below meth c 6 D dA A E (MQ below (Qr D dA E (some (.int rr)) w A) args s 0 0 A) 0 0 6 [(0, .ref v0), (1, .int v1), (2, .int v2), (3, .int v3), (4, .int v4), (5, .int v5)] [] w := by
    intro n
    induction n with
    | zero => intro v0 v1 v2 v3 v4 v5 hf; rw [f_X11_counted_6] at hf; cases hf
    | succ n ih =>
      intro v0 v1 v2 v3 v4 v5 hf
      rw [f_X11_counted_6] at hf
      refine J_iload (pc := 6) C dX11_counted_6 5 rfl ?_
      refine J_aload_n (pc := 8) C dX11_counted_8 rfl 0 rfl ?_
      refine J_iload_n (pc := 9) C dX11_counted_9 rfl 1 rfl ?_
      obtain ⟨q3, h4, hf⟩ := bind_ok hf
      obtain ⟨_, g5, h4⟩ := cl_spec h4
      refine J_cV (S := [.int v5]) (pc := 10) C dX11_counted_10 (c_X11_many _ _ _ h4) k_1111 ys_X11_many ⟨Nat.le_of_ble_eq_true rfl, Nat.le_of_ble_eq_true rfl⟩ ⟨Nat.le_of_ble_eq_true rfl, Nat.le_of_ble_eq_true rfl⟩ g5 rfl rfl (fun _ => Nat.le_of_ble_eq_true rfl) ?_
      refine J_icmp_ge (pc := 13) C dX11_counted_13 (tgt := 47) (by decide) hf (fun _ hf => ?_) (fun _ hf => ?_)
      · refine J_iload (pc := 47) C dX11_counted_47 4 rfl ?_
        exact J_iretP (pc := 49) C  rfl rfl dX11_counted_49 hf
      · refine J_iload (pc := 16) C dX11_counted_16 4 rfl ?_
        refine J_aload_n (pc := 18) C dX11_counted_18 rfl 0 rfl ?_
        refine J_iload_n (pc := 19) C dX11_counted_19 rfl 1 rfl ?_
        refine J_iload (pc := 20) C dX11_counted_20 5 rfl ?_
        obtain ⟨q6, h7, hf⟩ := bind_ok hf
        obtain ⟨_, g8, h7⟩ := cl_spec h7
        refine J_cV (S := [.int v4]) (pc := 22) C dX11_counted_22 (c_X11_keyAt _ _ _ _ h7) k_1115 ys_X11_keyAt ⟨Nat.le_of_ble_eq_true rfl, Nat.le_of_ble_eq_true rfl⟩ ⟨Nat.le_of_ble_eq_true rfl, Nat.le_of_ble_eq_true rfl⟩ g8 rfl rfl (fun _ => Nat.le_of_ble_eq_true rfl) ?_
        refine J_iload_n (pc := 25) C dX11_counted_25 rfl 2 rfl ?_
        refine J_iload_n (pc := 26) C dX11_counted_26 rfl 3 rfl ?_
        refine J_cS (S := [.int v4]) (pc := 27) C dX11_counted_27 (c_X11_isIn _ _ _ _ rfl) k_1097 ys_X11_isIn ⟨Nat.le_of_ble_eq_true rfl, Nat.le_of_ble_eq_true rfl⟩ ⟨Nat.le_of_ble_eq_true rfl, Nat.le_of_ble_eq_true rfl⟩ rfl rfl (fun _ => Nat.le_of_ble_eq_true rfl) ?_
        refine J_if_eq (pc := 30) C dX11_counted_30 (tgt := 37) (by decide) hf (fun _ hf => ?_) (fun _ hf => ?_)
        · refine J_iconst (pc := 37) C dX11_counted_37 (v := 0) (by decide) ?_
          refine J_sub [0, 1, 2, 3, 5] (L1 := [(0, .ref v0), (1, .int v1), (2, .int v2), (3, .int v3), (5, .int v5)]) rfl ?_
          exact B38 (f_X11_counted_6 fu w n) ih v0 v1 v2 v3 v5 v4 (0 : Int32) hf
        · refine J_iconst (pc := 33) C dX11_counted_33 (v := 1) (by decide) ?_
          refine J_goto (pc := 34) C dX11_counted_34 (tgt := 38) (by decide) ?_
          refine J_sub [0, 1, 2, 3, 5] (L1 := [(0, .ref v0), (1, .int v1), (2, .int v2), (3, .int v3), (5, .int v5)]) rfl ?_
          exact B38 (f_X11_counted_6 fu w n) ih v0 v1 v2 v3 v5 v4 (1 : Int32) hf
  rw [f_X11_counted] at hf
  refine J_sub [0, 1, 2, 3] (L1 := [(0, .ref v0), (1, .int v1), (2, .int v2), (3, .int v3)]) rfl ?_
  refine J_iconst (pc := 0) C dX11_counted_0 (v := 0) (by decide) ?_
  refine J_istore (pc := 1) C dX11_counted_1 (by decide) hf (fun q => [(4, .int q), (0, .ref v0), (1, .int v1), (2, .int v2), (3, .int v3)]) (fun _ => rfl) (fun x1 hf => ?_)
  refine J_iconst (pc := 3) C dX11_counted_3 (v := 0) (by decide) ?_
  refine J_istore (pc := 4) C dX11_counted_4 (by decide) hf (fun q => [(5, .int q), (4, .int x1), (0, .ref v0), (1, .int v1), (2, .int v2), (3, .int v3)]) (fun _ => rfl) (fun x2 hf => ?_)
  refine J_sub [2, 3, 4, 5, 1, 0] (L1 := [(0, .ref v0), (1, .int v1), (2, .int v2), (3, .int v3), (4, .int x1), (5, .int x2)]) rfl ?_
  exact B6 fu v0 v1 v2 v3 x1 x2 hf
set_option maxRecDepth 100000 in
set_option maxHeartbeats 4000000 in
theorem c_X11_laysRow {l : Launch} {D : va_G} {dA : FieldType → ClassId} (fu : Nat) (w : MW) (v0 : Nat) (v1 : Int32) {w' : MW} (hf : f_X11_laysRow fu w v0 v1 = some w') : CT l D dA yX11_laysRow cX11_laysRow 3 none rmX11_laysRow [.ref v0, .int v1] w none w' := by
  refine J_met (by decide) rfl (Nat.le_of_ble_eq_true rfl) (fun p e s m args below meth c A E C => ?_)
  have B11 : ∀ (n : Nat) (w : MW) (v0 : Nat) (v1 : Int32) (v2 : Int32), f_X11_laysRow_11 fu n w v0 v1 v2 = some w' → JW p l e rmX11_laysRow s m args below meth c 3 D dA A E (MQ below (Qr D dA E none w' A) args s 0 0 A) 0 0 11 [(0, .ref v0), (1, .int v1), (2, .int v2)] [] w := by
    intro n
    induction n with
    | zero => intro w v0 v1 v2 hf; rw [f_X11_laysRow_11] at hf; cases hf
    | succ n ih =>
      intro w v0 v1 v2 hf
      rw [f_X11_laysRow_11] at hf
      refine J_iload_n (pc := 11) C dX11_laysRow_11 rfl 2 rfl ?_
      refine J_aload_n (pc := 12) C dX11_laysRow_12 rfl 0 rfl ?_
      refine J_getI (pc := 13) C dX11_laysRow_13 (ci := 11) (k0 := 11) rfl iX11 (by decide) k_1014 hf (fun x6 hf => ?_)
      refine J_icmp_ge (pc := 16) C dX11_laysRow_16 (tgt := 37) (by decide) hf (fun _ hf => ?_) (fun _ hf => ?_)
      · exact J_vret (pc := 37) C rfl dX11_laysRow_37 hf
      · refine J_aload_n (pc := 19) C dX11_laysRow_19 rfl 0 rfl ?_
        refine J_getR (pc := 20) C dX11_laysRow_20 (ci := 11) (k0 := 10) rfl iX11 (by decide) k_1013 hf (fun x7 hf => ?_)
        refine J_iload_n (pc := 23) C dX11_laysRow_23 rfl 2 rfl ?_
        refine J_aload_n (pc := 24) C dX11_laysRow_24 rfl 0 rfl ?_
        refine J_iload_n (pc := 25) C dX11_laysRow_25 rfl 1 rfl ?_
        refine J_iload_n (pc := 26) C dX11_laysRow_26 rfl 2 rfl ?_
        obtain ⟨q8, h9, hf⟩ := bind_ok hf
        obtain ⟨_, g10, h9⟩ := cl_spec h9
        refine J_cV (S := [.int v2, .ref x7]) (pc := 27) C dX11_laysRow_27 (c_X11_keyAt _ _ _ _ h9) k_1115 ys_X11_keyAt ⟨Nat.le_of_ble_eq_true rfl, Nat.le_of_ble_eq_true rfl⟩ ⟨Nat.le_of_ble_eq_true rfl, Nat.le_of_ble_eq_true rfl⟩ g10 rfl rfl (fun _ => Nat.le_of_ble_eq_true rfl) ?_
        refine J_iast (pc := 30) C dX11_laysRow_30 hf (fun w11 hf => ?_)
        refine J_iinc (pc := 31) C dX11_laysRow_31 2 rfl (y := v2 + 1) rfl (by decide) hf (fun q => [(2, .int q), (0, .ref v0), (1, .int v1)]) (fun _ => rfl) (fun x12 hf => ?_)
        refine J_goto (pc := 34) C dX11_laysRow_34 (tgt := 11) (by decide) ?_
        refine J_sub [1, 2, 0] (L1 := [(0, .ref v0), (1, .int v1), (2, .int x12)]) rfl ?_
        exact ih w11 v0 v1 x12 hf
  rw [f_X11_laysRow] at hf
  refine J_sub [0, 1] (L1 := [(0, .ref v0), (1, .int v1)]) rfl ?_
  refine J_aload_n (pc := 0) C dX11_laysRow_0 rfl 0 rfl ?_
  refine J_aload_n (pc := 1) C dX11_laysRow_1 rfl 0 rfl ?_
  refine J_iload_n (pc := 2) C dX11_laysRow_2 rfl 1 rfl ?_
  obtain ⟨q1, h2, hf⟩ := bind_ok hf
  obtain ⟨_, g3, h2⟩ := cl_spec h2
  refine J_cV (S := [.ref v0]) (pc := 3) C dX11_laysRow_3 (c_X11_many _ _ _ h2) k_1111 ys_X11_many ⟨Nat.le_of_ble_eq_true rfl, Nat.le_of_ble_eq_true rfl⟩ ⟨Nat.le_of_ble_eq_true rfl, Nat.le_of_ble_eq_true rfl⟩ g3 rfl rfl (fun _ => Nat.le_of_ble_eq_true rfl) ?_
  refine J_put (pc := 6) C dX11_laysRow_6 (ci := 11) (k0 := 11) rfl iX11 tyX11 tyX11_ok nmX11 (by decide) k_1014 rfl (ty := .int) (by decide +kernel) (fun _ => rfl) (fun _ => rfl) hf (fun w4 hf => ?_)
  refine J_iconst (pc := 9) C dX11_laysRow_9 (v := 0) (by decide) ?_
  refine J_istore_n (pc := 10) C dX11_laysRow_10 rfl (by decide) hf (fun q => [(2, .int q), (0, .ref v0), (1, .int v1)]) (fun _ => rfl) (fun x5 hf => ?_)
  refine J_sub [1, 2, 0] (L1 := [(0, .ref v0), (1, .int v1), (2, .int x5)]) rfl ?_
  exact B11 fu w4 v0 v1 x5 hf
set_option maxRecDepth 100000 in
set_option maxHeartbeats 4000000 in
theorem c_X11_priority {l : Launch} {D : va_G} {dA : FieldType → ClassId} (w : MW) (v0 : Int32) {rr : Int32} (hf : f_X11_priority v0 = rr) : CT l D dA yX11_priority cX11_priority 1 (some .int) rmX11_priority [.int v0] w (some (.int rr)) w := by
  refine J_met (by decide) rfl (Nat.le_of_ble_eq_true rfl) (fun p e s m args below meth c A E C => ?_)
  rw [f_X11_priority] at hf
  refine J_sub [0] (L1 := [(0, .int v0)]) rfl ?_
  refine J_iload_n (pc := 0) C dX11_priority_0 rfl 0 rfl ?_
  refine J_ldc (pc := 1) C dX11_priority_1 (v := 40503) k_1270 ?_
  refine J_imul (pc := 3) C dX11_priority_3 ?_
  refine J_sipush (pc := 4) C dX11_priority_4 (v := 9973) (by decide) ?_
  refine J_iadd (pc := 7) C dX11_priority_7 ?_
  refine J_ldc (pc := 8) C dX11_priority_8 (v := 65536) k_1271 ?_
  refine J_iremL (pc := 10) C dX11_priority_10 (by decide) ?_
  exact J_iretT (pc := 11) C  rfl rfl dX11_priority_11 hf
set_option maxRecDepth 100000 in
set_option maxHeartbeats 4000000 in
theorem c_X11_ahead {l : Launch} {D : va_G} {dA : FieldType → ClassId} (fu : Nat) (w : MW) (v0 : Nat) (v1 : Int32) (v2 : Int32) {rr : Int32} (hf : f_X11_ahead fu w v0 v1 v2 = some rr) : CT l D dA yX11_ahead cX11_ahead 5 (some .int) rmX11_ahead [.ref v0, .int v1, .int v2] w (some (.int rr)) w := by
  refine J_met (by decide) rfl (Nat.le_of_ble_eq_true rfl) (fun p e s m args below meth c A E C => ?_)
  have B50 : ∀ (lr16 : Nat → Int32 → Int32 → Int32 → Option Int32) (lh16 : ∀ (v0 : Nat) (v2 : Int32) (v3 : Int32) (v4 : Int32), lr16 v0 v2 v3 v4 = some rr → JW p l e rmX11_ahead s m args below meth c 5 D dA A E (MQ below (Qr D dA E (some (.int rr)) w A) args s 0 0 A) 0 0 16 [(0, .ref v0), (2, .int v2), (3, .int v3), (4, .int v4)] [] w) (v0 : Nat) (v2 : Int32) (v4 : Int32) (s0 : Int32), f_X11_ahead_50 fu w lr16 v0 v2 v4 s0 = some rr → JW p l e rmX11_ahead s m args below meth c 5 D dA A E (MQ below (Qr D dA E (some (.int rr)) w A) args s 0 0 A) 0 0 50 [(0, .ref v0), (2, .int v2), (4, .int v4)] [.int s0] w := by
    intro lr16 lh16 v0 v2 v4 s0 hf
    rw [f_X11_ahead_50] at hf
    refine J_istore_n (pc := 50) C dX11_ahead_50 rfl (by decide) hf (fun q => [(3, .int q), (0, .ref v0), (2, .int v2), (4, .int v4)]) (fun _ => rfl) (fun x7 hf => ?_)
    refine J_iinc (pc := 51) C dX11_ahead_51 3 rfl (y := v4 + 1) rfl (by decide) hf (fun q => [(4, .int q), (3, .int x7), (0, .ref v0), (2, .int v2)]) (fun _ => rfl) (fun x8 hf => ?_)
    refine J_goto (pc := 54) C dX11_ahead_54 (tgt := 16) (by decide) ?_
    refine J_sub [2, 3, 1, 0] (L1 := [(0, .ref v0), (2, .int v2), (3, .int x7), (4, .int x8)]) rfl ?_
    exact lh16 v0 v2 x7 x8 hf
  have B16 : ∀ (n : Nat) (v0 : Nat) (v2 : Int32) (v3 : Int32) (v4 : Int32), f_X11_ahead_16 fu w n v0 v2 v3 v4 = some rr → JW p l e rmX11_ahead s m args below meth c 5 D dA A E (MQ below (Qr D dA E (some (.int rr)) w A) args s 0 0 A) 0 0 16 [(0, .ref v0), (2, .int v2), (3, .int v3), (4, .int v4)] [] w := by
    intro n
    induction n with
    | zero => intro v0 v2 v3 v4 hf; rw [f_X11_ahead_16] at hf; cases hf
    | succ n ih =>
      intro v0 v2 v3 v4 hf
      rw [f_X11_ahead_16] at hf
      refine J_iload (pc := 16) C dX11_ahead_16 3 rfl ?_
      refine J_iload_n (pc := 18) C dX11_ahead_18 rfl 1 rfl ?_
      refine J_icmp_gt (pc := 19) C dX11_ahead_19 (tgt := 57) (by decide) hf (fun _ hf => ?_) (fun _ hf => ?_)
      · refine J_iload_n (pc := 57) C dX11_ahead_57 rfl 2 rfl ?_
        exact J_iretP (pc := 58) C  rfl rfl dX11_ahead_58 hf
      · refine J_aload_n (pc := 22) C dX11_ahead_22 rfl 0 rfl ?_
        refine J_getR (pc := 23) C dX11_ahead_23 (ci := 11) (k0 := 10) rfl iX11 (by decide) k_1013 hf (fun x3 hf => ?_)
        refine J_iload (pc := 26) C dX11_ahead_26 3 rfl ?_
        refine J_iald (pc := 28) C dX11_ahead_28 hf (fun x4 hf => ?_)
        refine J_cS (S := []) (pc := 29) C dX11_ahead_29 (c_X11_priority _ _ rfl) k_1267 ys_X11_priority ⟨Nat.le_of_ble_eq_true rfl, Nat.le_of_ble_eq_true rfl⟩ ⟨Nat.le_of_ble_eq_true rfl, Nat.le_of_ble_eq_true rfl⟩ rfl rfl (fun _ => Nat.le_of_ble_eq_true rfl) ?_
        refine J_aload_n (pc := 32) C dX11_ahead_32 rfl 0 rfl ?_
        refine J_getR (pc := 33) C dX11_ahead_33 (ci := 11) (k0 := 10) rfl iX11 (by decide) k_1013 hf (fun x5 hf => ?_)
        refine J_iload_n (pc := 36) C dX11_ahead_36 rfl 2 rfl ?_
        refine J_iald (pc := 37) C dX11_ahead_37 hf (fun x6 hf => ?_)
        refine J_cS (S := [.int (f_X11_priority x4)]) (pc := 38) C dX11_ahead_38 (c_X11_priority _ _ rfl) k_1267 ys_X11_priority ⟨Nat.le_of_ble_eq_true rfl, Nat.le_of_ble_eq_true rfl⟩ ⟨Nat.le_of_ble_eq_true rfl, Nat.le_of_ble_eq_true rfl⟩ rfl rfl (fun _ => Nat.le_of_ble_eq_true rfl) ?_
        refine J_icmp_le (pc := 41) C dX11_ahead_41 (tgt := 49) (by decide) hf (fun _ hf => ?_) (fun _ hf => ?_)
        · refine J_iload_n (pc := 49) C dX11_ahead_49 rfl 2 rfl ?_
          refine J_sub [0, 1, 3] (L1 := [(0, .ref v0), (2, .int v2), (4, .int v4)]) rfl ?_
          exact B50 (f_X11_ahead_16 fu w n) ih v0 v2 v4 v3 hf
        · refine J_iload (pc := 44) C dX11_ahead_44 3 rfl ?_
          refine J_goto (pc := 46) C dX11_ahead_46 (tgt := 50) (by decide) ?_
          refine J_sub [0, 1, 3] (L1 := [(0, .ref v0), (2, .int v2), (4, .int v4)]) rfl ?_
          exact B50 (f_X11_ahead_16 fu w n) ih v0 v2 v4 v4 hf
  have B10 : ∀ (v0 : Nat) (v1 : Int32) (v2 : Int32) (s0 : Int32), f_X11_ahead_10 fu w v0 v1 v2 s0 = some rr → JW p l e rmX11_ahead s m args below meth c 5 D dA A E (MQ below (Qr D dA E (some (.int rr)) w A) args s 0 0 A) 0 0 10 [(0, .ref v0), (1, .int v1), (2, .int v2)] [.int s0] w := by
    intro v0 v1 v2 s0 hf
    rw [f_X11_ahead_10] at hf
    refine J_istore_n (pc := 10) C dX11_ahead_10 rfl (by decide) hf (fun q => [(3, .int q), (0, .ref v0), (1, .int v1), (2, .int v2)]) (fun _ => rfl) (fun x1 hf => ?_)
    refine J_iload_n (pc := 11) C dX11_ahead_11 rfl 2 rfl ?_
    refine J_iconst (pc := 12) C dX11_ahead_12 (v := 1) (by decide) ?_
    refine J_iadd (pc := 13) C dX11_ahead_13 ?_
    refine J_istore (pc := 14) C dX11_ahead_14 (by decide) hf (fun q => [(4, .int q), (3, .int x1), (0, .ref v0), (1, .int v1), (2, .int v2)]) (fun _ => rfl) (fun x2 hf => ?_)
    refine J_sub [2, 4, 1, 0] (L1 := [(0, .ref v0), (2, .int v2), (3, .int x1), (4, .int x2)]) rfl ?_
    exact B16 fu v0 v2 x1 x2 hf
  rw [f_X11_ahead] at hf
  refine J_sub [0, 1, 2] (L1 := [(0, .ref v0), (1, .int v1), (2, .int v2)]) rfl ?_
  refine J_iload_n (pc := 0) C dX11_ahead_0 rfl 1 rfl ?_
  refine J_iload_n (pc := 1) C dX11_ahead_1 rfl 2 rfl ?_
  refine J_icmp_le (pc := 2) C dX11_ahead_2 (tgt := 9) (by decide) hf (fun _ hf => ?_) (fun _ hf => ?_)
  · refine J_iload_n (pc := 9) C dX11_ahead_9 rfl 1 rfl ?_
    refine J_sub [0, 1, 2] (L1 := [(0, .ref v0), (1, .int v1), (2, .int v2)]) rfl ?_
    exact B10 v0 v1 v2 v1 hf
  · refine J_iconst (pc := 5) C dX11_ahead_5 (v := -1) (by decide) ?_
    refine J_goto (pc := 6) C dX11_ahead_6 (tgt := 10) (by decide) ?_
    refine J_sub [0, 1, 2] (L1 := [(0, .ref v0), (1, .int v1), (2, .int v2)]) rfl ?_
    exact B10 v0 v1 v2 (-1 : Int32) hf
set_option maxRecDepth 100000 in
set_option maxHeartbeats 4000000 in
theorem c_X11_goesTo {l : Launch} {D : va_G} {dA : FieldType → ClassId} (fu : Nat) (w : MW) (v0 : Nat) (v1 : Int32) {w' : MW} (hf : f_X11_goesTo fu w v0 v1 = some w') : CT l D dA yX11_goesTo cX11_goesTo 3 none rmX11_goesTo [.ref v0, .int v1] w none w' := by
  refine J_met (by decide) rfl (Nat.le_of_ble_eq_true rfl) (fun p e s m args below meth c A E C => ?_)
  have B80 : ∀ (lr38 : MW → Nat → Int32 → Int32 → Option MW) (lh38 : ∀ (w : MW) (v0 : Nat) (v1 : Int32) (v2 : Int32), lr38 w v0 v1 v2 = some w' → JW p l e rmX11_goesTo s m args below meth c 3 D dA A E (MQ below (Qr D dA E none w' A) args s 0 0 A) 0 0 38 [(0, .ref v0), (1, .int v1), (2, .int v2)] [] w) (w : MW) (v0 : Nat) (v1 : Int32), f_X11_goesTo_80 fu lr38 w v0 v1 = some w' → JW p l e rmX11_goesTo s m args below meth c 3 D dA A E (MQ below (Qr D dA E none w' A) args s 0 0 A) 0 0 80 [(0, .ref v0), (1, .int v1)] [] w := by
    intro lr38 lh38 w v0 v1 hf
    rw [f_X11_goesTo_80] at hf
    refine J_aload_n (pc := 80) C dX11_goesTo_80 rfl 0 rfl ?_
    refine J_aload_n (pc := 81) C dX11_goesTo_81 rfl 0 rfl ?_
    refine J_getI (pc := 82) C dX11_goesTo_82 (ci := 11) (k0 := 12) rfl iX11 (by decide) k_1015 hf (fun x16 hf => ?_)
    refine J_aload_n (pc := 85) C dX11_goesTo_85 rfl 0 rfl ?_
    refine J_getI (pc := 86) C dX11_goesTo_86 (ci := 11) (k0 := 13) rfl iX11 (by decide) k_1016 hf (fun x17 hf => ?_)
    obtain ⟨q18, h19, hf⟩ := bind_ok hf
    obtain ⟨_, g20, h19⟩ := cl_spec h19
    refine J_cV (S := []) (pc := 89) C dX11_goesTo_89 (c_X11_ahead _ _ _ _ _ h19) k_1263 ys_X11_ahead ⟨Nat.le_of_ble_eq_true rfl, Nat.le_of_ble_eq_true rfl⟩ ⟨Nat.le_of_ble_eq_true rfl, Nat.le_of_ble_eq_true rfl⟩ g20 rfl rfl (fun _ => Nat.le_of_ble_eq_true rfl) ?_
    refine J_istore_n (pc := 92) C dX11_goesTo_92 rfl (by decide) hf (fun q => [(2, .int q), (0, .ref v0), (1, .int v1)]) (fun _ => rfl) (fun x21 hf => ?_)
    refine J_goto (pc := 93) C dX11_goesTo_93 (tgt := 38) (by decide) ?_
    refine J_sub [1, 2, 0] (L1 := [(0, .ref v0), (1, .int v1), (2, .int x21)]) rfl ?_
    exact lh38 w v0 v1 x21 hf
  have B38 : ∀ (n : Nat) (w : MW) (v0 : Nat) (v1 : Int32) (v2 : Int32), f_X11_goesTo_38 fu n w v0 v1 v2 = some w' → JW p l e rmX11_goesTo s m args below meth c 3 D dA A E (MQ below (Qr D dA E none w' A) args s 0 0 A) 0 0 38 [(0, .ref v0), (1, .int v1), (2, .int v2)] [] w := by
    intro n
    induction n with
    | zero => intro w v0 v1 v2 hf; rw [f_X11_goesTo_38] at hf; cases hf
    | succ n ih =>
      intro w v0 v1 v2 hf
      rw [f_X11_goesTo_38] at hf
      refine J_iload_n (pc := 38) C dX11_goesTo_38 rfl 2 rfl ?_
      refine J_iload_n (pc := 39) C dX11_goesTo_39 rfl 1 rfl ?_
      refine J_icmp_eq (pc := 40) C dX11_goesTo_40 (tgt := 96) (by decide) hf (fun _ hf => ?_) (fun _ hf => ?_)
      · exact J_vret (pc := 96) C rfl dX11_goesTo_96 hf
      · refine J_aload_n (pc := 43) C dX11_goesTo_43 rfl 0 rfl ?_
        refine J_iload_n (pc := 44) C dX11_goesTo_44 rfl 2 rfl ?_
        refine J_put (pc := 45) C dX11_goesTo_45 (ci := 11) (k0 := 14) rfl iX11 tyX11 tyX11_ok nmX11 (by decide) k_1017 rfl (ty := .int) (by decide +kernel) (fun _ => rfl) (fun _ => rfl) hf (fun w12 hf => ?_)
        refine J_aload_n (pc := 48) C dX11_goesTo_48 rfl 0 rfl ?_
        refine J_dup (pc := 49) C dX11_goesTo_49 rfl ?_
        refine J_getI (pc := 50) C dX11_goesTo_50 (ci := 11) (k0 := 15) rfl iX11 (by decide) k_1018 hf (fun x13 hf => ?_)
        refine J_iconst (pc := 53) C dX11_goesTo_53 (v := 1) (by decide) ?_
        refine J_iadd (pc := 54) C dX11_goesTo_54 ?_
        refine J_put (pc := 55) C dX11_goesTo_55 (ci := 11) (k0 := 15) rfl iX11 tyX11 tyX11_ok nmX11 (by decide) k_1018 rfl (ty := .int) (by decide +kernel) (fun _ => rfl) (fun _ => rfl) hf (fun w14 hf => ?_)
        refine J_iload_n (pc := 58) C dX11_goesTo_58 rfl 1 rfl ?_
        refine J_iload_n (pc := 59) C dX11_goesTo_59 rfl 2 rfl ?_
        refine J_icmp_ge (pc := 60) C dX11_goesTo_60 (tgt := 73) (by decide) hf (fun _ hf => ?_) (fun _ hf => ?_)
        · refine J_aload_n (pc := 73) C dX11_goesTo_73 rfl 0 rfl ?_
          refine J_iload_n (pc := 74) C dX11_goesTo_74 rfl 2 rfl ?_
          refine J_iconst (pc := 75) C dX11_goesTo_75 (v := 1) (by decide) ?_
          refine J_iadd (pc := 76) C dX11_goesTo_76 ?_
          refine J_put (pc := 77) C dX11_goesTo_77 (ci := 11) (k0 := 12) rfl iX11 tyX11 tyX11_ok nmX11 (by decide) k_1015 rfl (ty := .int) (by decide +kernel) (fun _ => rfl) (fun _ => rfl) hf (fun w15 hf => ?_)
          refine J_sub [0, 1] (L1 := [(0, .ref v0), (1, .int v1)]) rfl ?_
          exact B80 (f_X11_goesTo_38 fu n) ih w15 v0 v1 hf
        · refine J_aload_n (pc := 63) C dX11_goesTo_63 rfl 0 rfl ?_
          refine J_iload_n (pc := 64) C dX11_goesTo_64 rfl 2 rfl ?_
          refine J_iconst (pc := 65) C dX11_goesTo_65 (v := 1) (by decide) ?_
          refine J_isub (pc := 66) C dX11_goesTo_66 ?_
          refine J_put (pc := 67) C dX11_goesTo_67 (ci := 11) (k0 := 13) rfl iX11 tyX11 tyX11_ok nmX11 (by decide) k_1016 rfl (ty := .int) (by decide +kernel) (fun _ => rfl) (fun _ => rfl) hf (fun w22 hf => ?_)
          refine J_goto (pc := 70) C dX11_goesTo_70 (tgt := 80) (by decide) ?_
          refine J_sub [0, 1] (L1 := [(0, .ref v0), (1, .int v1)]) rfl ?_
          exact B80 (f_X11_goesTo_38 fu n) ih w22 v0 v1 hf
  rw [f_X11_goesTo] at hf
  refine J_sub [0, 1] (L1 := [(0, .ref v0), (1, .int v1)]) rfl ?_
  refine J_aload_n (pc := 0) C dX11_goesTo_0 rfl 0 rfl ?_
  refine J_iconst (pc := 1) C dX11_goesTo_1 (v := 0) (by decide) ?_
  refine J_put (pc := 2) C dX11_goesTo_2 (ci := 11) (k0 := 12) rfl iX11 tyX11 tyX11_ok nmX11 (by decide) k_1015 rfl (ty := .int) (by decide +kernel) (fun _ => rfl) (fun _ => rfl) hf (fun w1 hf => ?_)
  refine J_aload_n (pc := 5) C dX11_goesTo_5 rfl 0 rfl ?_
  refine J_aload_n (pc := 6) C dX11_goesTo_6 rfl 0 rfl ?_
  refine J_getI (pc := 7) C dX11_goesTo_7 (ci := 11) (k0 := 11) rfl iX11 (by decide) k_1014 hf (fun x2 hf => ?_)
  refine J_iconst (pc := 10) C dX11_goesTo_10 (v := 1) (by decide) ?_
  refine J_isub (pc := 11) C dX11_goesTo_11 ?_
  refine J_put (pc := 12) C dX11_goesTo_12 (ci := 11) (k0 := 13) rfl iX11 tyX11 tyX11_ok nmX11 (by decide) k_1016 rfl (ty := .int) (by decide +kernel) (fun _ => rfl) (fun _ => rfl) hf (fun w3 hf => ?_)
  refine J_aload_n (pc := 15) C dX11_goesTo_15 rfl 0 rfl ?_
  refine J_iconst (pc := 16) C dX11_goesTo_16 (v := -1) (by decide) ?_
  refine J_put (pc := 17) C dX11_goesTo_17 (ci := 11) (k0 := 14) rfl iX11 tyX11 tyX11_ok nmX11 (by decide) k_1017 rfl (ty := .int) (by decide +kernel) (fun _ => rfl) (fun _ => rfl) hf (fun w4 hf => ?_)
  refine J_aload_n (pc := 20) C dX11_goesTo_20 rfl 0 rfl ?_
  refine J_iconst (pc := 21) C dX11_goesTo_21 (v := 0) (by decide) ?_
  refine J_put (pc := 22) C dX11_goesTo_22 (ci := 11) (k0 := 15) rfl iX11 tyX11 tyX11_ok nmX11 (by decide) k_1018 rfl (ty := .int) (by decide +kernel) (fun _ => rfl) (fun _ => rfl) hf (fun w5 hf => ?_)
  refine J_aload_n (pc := 25) C dX11_goesTo_25 rfl 0 rfl ?_
  refine J_aload_n (pc := 26) C dX11_goesTo_26 rfl 0 rfl ?_
  refine J_getI (pc := 27) C dX11_goesTo_27 (ci := 11) (k0 := 12) rfl iX11 (by decide) k_1015 hf (fun x6 hf => ?_)
  refine J_aload_n (pc := 30) C dX11_goesTo_30 rfl 0 rfl ?_
  refine J_getI (pc := 31) C dX11_goesTo_31 (ci := 11) (k0 := 13) rfl iX11 (by decide) k_1016 hf (fun x7 hf => ?_)
  obtain ⟨q8, h9, hf⟩ := bind_ok hf
  obtain ⟨_, g10, h9⟩ := cl_spec h9
  refine J_cV (S := []) (pc := 34) C dX11_goesTo_34 (c_X11_ahead _ _ _ _ _ h9) k_1263 ys_X11_ahead ⟨Nat.le_of_ble_eq_true rfl, Nat.le_of_ble_eq_true rfl⟩ ⟨Nat.le_of_ble_eq_true rfl, Nat.le_of_ble_eq_true rfl⟩ g10 rfl rfl (fun _ => Nat.le_of_ble_eq_true rfl) ?_
  refine J_istore_n (pc := 37) C dX11_goesTo_37 rfl (by decide) hf (fun q => [(2, .int q), (0, .ref v0), (1, .int v1)]) (fun _ => rfl) (fun x11 hf => ?_)
  refine J_sub [1, 2, 0] (L1 := [(0, .ref v0), (1, .int v1), (2, .int x11)]) rfl ?_
  exact B38 fu w5 v0 v1 x11 hf
