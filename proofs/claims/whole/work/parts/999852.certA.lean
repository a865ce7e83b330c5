set_option maxRecDepth 100000 in
set_option maxHeartbeats 4000000 in
theorem c_X5_advance {l : Launch} {D : va_G} {dA : FieldType → ClassId} (fu : Nat) (w : MW) (v0 : Nat) {w' : MW} (hf : f_X5_advance fu w v0 = some w') : CT l D dA yX5_advance cX5_advance 2 none rmX5_advance [.ref v0] w none w' := by
  refine J_met (by decide) rfl (Nat.le_of_ble_eq_true rfl) (fun p e s m args below meth c A E C => ?_)
  have B123 : ∀ (w : MW) (v0 : Nat) (s0 : Nat) (s1 : Int32), f_X5_advance_123 fu w v0 s0 s1 = some w' → JW p l e rmX5_advance s m args below meth c 2 D dA A E (MQ below (Qr D dA E none w' A) args s 0 0 A) 0 0 123 [(0, .ref v0)] [.int s1, .ref s0] w := by
    intro w v0 s0 s1 hf
    rw [f_X5_advance_123] at hf
    refine J_put (pc := 123) C dX5_advance_123 (ci := 5) (k0 := 4) rfl iX5 tyX5 tyX5_ok nmX5 (by decide) k_304 rfl (ty := .int) (by decide +kernel) (fun _ => rfl) (fun _ => rfl) hf (fun w12 hf => ?_)
    refine J_aload_n (pc := 126) C dX5_advance_126 rfl 0 rfl ?_
    refine J_dup (pc := 127) C dX5_advance_127 rfl ?_
    refine J_getI (pc := 128) C dX5_advance_128 (ci := 5) (k0 := 3) rfl iX5 (by decide) k_303 hf (fun x13 hf => ?_)
    refine J_iconst (pc := 131) C dX5_advance_131 (v := 1) (by decide) ?_
    refine J_iadd (pc := 132) C dX5_advance_132 ?_
    refine J_put (pc := 133) C dX5_advance_133 (ci := 5) (k0 := 3) rfl iX5 tyX5 tyX5_ok nmX5 (by decide) k_303 rfl (ty := .int) (by decide +kernel) (fun _ => rfl) (fun _ => rfl) hf (fun w14 hf => ?_)
    exact J_vret (pc := 136) C rfl dX5_advance_136 hf
  have B44 : ∀ (w : MW) (v0 : Nat), f_X5_advance_44 fu w v0 = some w' → JW p l e rmX5_advance s m args below meth c 2 D dA A E (MQ below (Qr D dA E none w' A) args s 0 0 A) 0 0 44 [(0, .ref v0)] [] w := by
    intro w v0 hf
    rw [f_X5_advance_44] at hf
    refine J_aload_n (pc := 44) C dX5_advance_44 rfl 0 rfl ?_
    refine J_aload_n (pc := 45) C dX5_advance_45 rfl 0 rfl ?_
    refine J_getI (pc := 46) C dX5_advance_46 (ci := 5) (k0 := 3) rfl iX5 (by decide) k_303 hf (fun x4 hf => ?_)
    refine J_put (pc := 49) C dX5_advance_49 (ci := 5) (k0 := 5) rfl iX5 tyX5 tyX5_ok nmX5 (by decide) k_305 rfl (ty := .int) (by decide +kernel) (fun _ => rfl) (fun _ => rfl) hf (fun w5 hf => ?_)
    refine J_aload_n (pc := 52) C dX5_advance_52 rfl 0 rfl ?_
    refine J_getR (pc := 53) C dX5_advance_53 (ci := 5) (k0 := 0) rfl iX5 (by decide) k_300 hf (fun x6 hf => ?_)
    refine J_aload_n (pc := 56) C dX5_advance_56 rfl 0 rfl ?_
    refine J_getI (pc := 57) C dX5_advance_57 (ci := 5) (k0 := 3) rfl iX5 (by decide) k_303 hf (fun x7 hf => ?_)
    obtain ⟨q8, h9, hf⟩ := bind_ok hf
    obtain ⟨_, g10, h9⟩ := cl_spec h9
    refine J_cV (S := []) (pc := 60) C dX5_advance_60 (c_X4_byteAt _ _ _ h9) k_442 ys_X4_byteAt ⟨Nat.le_of_ble_eq_true rfl, Nat.le_of_ble_eq_true rfl⟩ ⟨Nat.le_of_ble_eq_true rfl, Nat.le_of_ble_eq_true rfl⟩ g10 rfl rfl (fun _ => Nat.le_of_ble_eq_true rfl) ?_
    refine J_istore_n (pc := 63) C dX5_advance_63 rfl (by decide) hf (fun q => [(1, .int q), (0, .ref v0)]) (fun _ => rfl) (fun x11 hf => ?_)
    refine J_iload_n (pc := 64) C dX5_advance_64 rfl 0 rfl ?_
    refine J_iconst (pc := 65) C dX5_advance_65 (v := -1) (by decide) ?_
    refine J_icmp_ne (pc := 66) C dX5_advance_66 (tgt := 77) (by decide) hf (fun _ hf => ?_) (fun _ hf => ?_)
    · refine J_iload_n (pc := 77) C dX5_advance_77 rfl 0 rfl ?_
      refine J_cS (S := []) (pc := 78) C dX5_advance_78 (c_X5_isLetter _ _ rfl) k_449 ys_X5_isLetter ⟨Nat.le_of_ble_eq_true rfl, Nat.le_of_ble_eq_true rfl⟩ ⟨Nat.le_of_ble_eq_true rfl, Nat.le_of_ble_eq_true rfl⟩ rfl rfl (fun _ => Nat.le_of_ble_eq_true rfl) ?_
      refine J_if_eq (pc := 81) C dX5_advance_81 (tgt := 91) (by decide) hf (fun _ hf => ?_) (fun _ hf => ?_)
      · refine J_iload_n (pc := 91) C dX5_advance_91 rfl 0 rfl ?_
        refine J_cS (S := []) (pc := 92) C dX5_advance_92 (c_X5_isDigit _ _ rfl) k_456 ys_X5_isDigit ⟨Nat.le_of_ble_eq_true rfl, Nat.le_of_ble_eq_true rfl⟩ ⟨Nat.le_of_ble_eq_true rfl, Nat.le_of_ble_eq_true rfl⟩ rfl rfl (fun _ => Nat.le_of_ble_eq_true rfl) ?_
        refine J_if_eq (pc := 95) C dX5_advance_95 (tgt := 105) (by decide) hf (fun _ hf => ?_) (fun _ hf => ?_)
        · refine J_aload_n (pc := 105) C dX5_advance_105 rfl 1 rfl ?_
          refine J_iload_n (pc := 106) C dX5_advance_106 rfl 0 rfl ?_
          refine J_bipush (pc := 107) C dX5_advance_107 (v := 45) (by decide) ?_
          refine J_icmp_eq (pc := 109) C dX5_advance_109 (tgt := 118) (by decide) hf (fun _ hf => ?_) (fun _ hf => ?_)
          · refine J_iload_n (pc := 118) C dX5_advance_118 rfl 0 rfl ?_
            refine J_goto (pc := 119) C dX5_advance_119 (tgt := 123) (by decide) ?_
            refine J_sub [1] (L1 := [(0, .ref v0)]) rfl ?_
            exact B123 w5 v0 v0 x11 hf
          · refine J_iload_n (pc := 112) C dX5_advance_112 rfl 0 rfl ?_
            refine J_bipush (pc := 113) C dX5_advance_113 (v := 59) (by decide) ?_
            refine J_icmp_ne (pc := 115) C dX5_advance_115 (tgt := 122) (by decide) hf (fun _ hf => ?_) (fun _ hf => ?_)
            · refine J_iconst (pc := 122) C dX5_advance_122 (v := 1) (by decide) ?_
              refine J_sub [1] (L1 := [(0, .ref v0)]) rfl ?_
              exact B123 w5 v0 v0 (1 : Int32) hf
            · refine J_iload_n (pc := 118) C dX5_advance_118 rfl 0 rfl ?_
              refine J_goto (pc := 119) C dX5_advance_119 (tgt := 123) (by decide) ?_
              refine J_sub [1] (L1 := [(0, .ref v0)]) rfl ?_
              exact B123 w5 v0 v0 x11 hf
        · refine J_aload_n (pc := 98) C dX5_advance_98 rfl 1 rfl ?_
          obtain ⟨q15, h16, hf⟩ := bind_ok hf
          obtain ⟨_, g17, h16⟩ := cl_spec h16
          refine J_cV (S := []) (pc := 99) C dX5_advance_99 (c_X5_readNumber _ _ _ h16) k_459 ys_X5_readNumber ⟨Nat.le_of_ble_eq_true rfl, Nat.le_of_ble_eq_true rfl⟩ ⟨Nat.le_of_ble_eq_true rfl, Nat.le_of_ble_eq_true rfl⟩ g17 rfl rfl (fun _ => Nat.le_of_ble_eq_true rfl) ?_
          refine J_goto (pc := 102) C dX5_advance_102 (tgt := 136) (by decide) ?_
          exact J_vret (pc := 136) C rfl dX5_advance_136 hf
      · refine J_aload_n (pc := 84) C dX5_advance_84 rfl 1 rfl ?_
        obtain ⟨q18, h19, hf⟩ := bind_ok hf
        obtain ⟨_, g20, h19⟩ := cl_spec h19
        refine J_cV (S := []) (pc := 85) C dX5_advance_85 (c_X5_readWord _ _ _ h19) k_452 ys_X5_readWord ⟨Nat.le_of_ble_eq_true rfl, Nat.le_of_ble_eq_true rfl⟩ ⟨Nat.le_of_ble_eq_true rfl, Nat.le_of_ble_eq_true rfl⟩ g20 rfl rfl (fun _ => Nat.le_of_ble_eq_true rfl) ?_
        refine J_goto (pc := 88) C dX5_advance_88 (tgt := 136) (by decide) ?_
        exact J_vret (pc := 136) C rfl dX5_advance_136 hf
    · refine J_aload_n (pc := 69) C dX5_advance_69 rfl 1 rfl ?_
      refine J_iconst (pc := 70) C dX5_advance_70 (v := 0) (by decide) ?_
      refine J_put (pc := 71) C dX5_advance_71 (ci := 5) (k0 := 4) rfl iX5 tyX5 tyX5_ok nmX5 (by decide) k_304 rfl (ty := .int) (by decide +kernel) (fun _ => rfl) (fun _ => rfl) hf (fun w21 hf => ?_)
      refine J_goto (pc := 74) C dX5_advance_74 (tgt := 136) (by decide) ?_
      exact J_vret (pc := 136) C rfl dX5_advance_136 hf
  have B0 : ∀ (n : Nat) (w : MW) (v0 : Nat), f_X5_advance_0 fu n w v0 = some w' → JW p l e rmX5_advance s m args below meth c 2 D dA A E (MQ below (Qr D dA E none w' A) args s 0 0 A) 0 0 0 [(0, .ref v0)] [] w := by
    intro n
    induction n with
    | zero => intro w v0 hf; rw [f_X5_advance_0] at hf; cases hf
    | succ n ih =>
      intro w v0 hf
      rw [f_X5_advance_0] at hf
      refine J_aload_n (pc := 0) C dX5_advance_0 rfl 0 rfl ?_
      refine J_getI (pc := 1) C dX5_advance_1 (ci := 5) (k0 := 3) rfl iX5 (by decide) k_303 hf (fun x1 hf => ?_)
      refine J_aload_n (pc := 4) C dX5_advance_4 rfl 0 rfl ?_
      refine J_getR (pc := 5) C dX5_advance_5 (ci := 5) (k0 := 0) rfl iX5 (by decide) k_300 hf (fun x2 hf => ?_)
      refine J_getIN (pc := 8) C dX5_advance_8 (ci := 4) (k0 := 1) rfl iX4 (by decide) n_287 hf (fun x3 hf => ?_)
      refine J_icmp_ge (pc := 11) C dX5_advance_11 (tgt := 44) (by decide) hf (fun _ hf => ?_) (fun _ hf => ?_)
      · refine J_sub [0] (L1 := [(0, .ref v0)]) rfl ?_
        exact B44 w v0 hf
      · refine J_aload_n (pc := 14) C dX5_advance_14 rfl 0 rfl ?_
        refine J_getR (pc := 15) C dX5_advance_15 (ci := 5) (k0 := 0) rfl iX5 (by decide) k_300 hf (fun x22 hf => ?_)
        refine J_aload_n (pc := 18) C dX5_advance_18 rfl 0 rfl ?_
        refine J_getI (pc := 19) C dX5_advance_19 (ci := 5) (k0 := 3) rfl iX5 (by decide) k_303 hf (fun x23 hf => ?_)
        obtain ⟨q24, h25, hf⟩ := bind_ok hf
        obtain ⟨_, g26, h25⟩ := cl_spec h25
        refine J_cV (S := []) (pc := 22) C dX5_advance_22 (c_X4_byteAt _ _ _ h25) k_442 ys_X4_byteAt ⟨Nat.le_of_ble_eq_true rfl, Nat.le_of_ble_eq_true rfl⟩ ⟨Nat.le_of_ble_eq_true rfl, Nat.le_of_ble_eq_true rfl⟩ g26 rfl rfl (fun _ => Nat.le_of_ble_eq_true rfl) ?_
        refine J_cS (S := []) (pc := 25) C dX5_advance_25 (c_X5_isBlank _ _ rfl) k_446 ys_X5_isBlank ⟨Nat.le_of_ble_eq_true rfl, Nat.le_of_ble_eq_true rfl⟩ ⟨Nat.le_of_ble_eq_true rfl, Nat.le_of_ble_eq_true rfl⟩ rfl rfl (fun _ => Nat.le_of_ble_eq_true rfl) ?_
        refine J_if_eq (pc := 28) C dX5_advance_28 (tgt := 44) (by decide) hf (fun _ hf => ?_) (fun _ hf => ?_)
        · refine J_sub [0] (L1 := [(0, .ref v0)]) rfl ?_
          exact B44 w v0 hf
        · refine J_aload_n (pc := 31) C dX5_advance_31 rfl 0 rfl ?_
          refine J_dup (pc := 32) C dX5_advance_32 rfl ?_
          refine J_getI (pc := 33) C dX5_advance_33 (ci := 5) (k0 := 3) rfl iX5 (by decide) k_303 hf (fun x27 hf => ?_)
          refine J_iconst (pc := 36) C dX5_advance_36 (v := 1) (by decide) ?_
          refine J_iadd (pc := 37) C dX5_advance_37 ?_
          refine J_put (pc := 38) C dX5_advance_38 (ci := 5) (k0 := 3) rfl iX5 tyX5 tyX5_ok nmX5 (by decide) k_303 rfl (ty := .int) (by decide +kernel) (fun _ => rfl) (fun _ => rfl) hf (fun w28 hf => ?_)
          refine J_goto (pc := 41) C dX5_advance_41 (tgt := 0) (by decide) ?_
          refine J_sub [0] (L1 := [(0, .ref v0)]) rfl ?_
          exact ih w28 v0 hf
  rw [f_X5_advance] at hf
  refine J_sub [0] (L1 := [(0, .ref v0)]) rfl ?_
  refine J_sub [0] (L1 := [(0, .ref v0)]) rfl ?_
  exact B0 fu w v0 hf
set_option maxRecDepth 100000 in
set_option maxHeartbeats 4000000 in
theorem c_X5_spells {l : Launch} {D : va_G} {dA : FieldType → ClassId} (fu : Nat) (w : MW) (v0 : Nat) (v1 : Nat) {rr : Int32} (hf : f_X5_spells fu w v0 v1 = some rr) : CT l D dA yX5_spells cX5_spells 4 (some .boolean) rmX5_spells [.ref v0, .ref v1] w (some (.int rr)) w := by
  refine J_met (by decide) rfl (Nat.le_of_ble_eq_true rfl) (fun p e s m args below meth c A E C => ?_)
  have B62 : ∀ (lr24 : Nat → Nat → Int32 → Int32 → Option Int32) (lh24 : ∀ (v0 : Nat) (v1 : Nat) (v2 : Int32) (v3 : Int32), lr24 v0 v1 v2 v3 = some rr → JW p l e rmX5_spells s m args below meth c 4 D dA A E (MQ below (Qr D dA E (some (.int rr)) w A) args s 0 0 A) 0 0 24 [(0, .ref v0), (1, .ref v1), (2, .int v2), (3, .int v3)] [] w) (v0 : Nat) (v1 : Nat) (v3 : Int32) (s0 : Int32), f_X5_spells_62 fu w lr24 v0 v1 v3 s0 = some rr → JW p l e rmX5_spells s m args below meth c 4 D dA A E (MQ below (Qr D dA E (some (.int rr)) w A) args s 0 0 A) 0 0 62 [(0, .ref v0), (1, .ref v1), (3, .int v3)] [.int s0] w := by
    intro lr24 lh24 v0 v1 v3 s0 hf
    rw [f_X5_spells_62] at hf
    refine J_istore_n (pc := 62) C dX5_spells_62 rfl (by decide) hf (fun q => [(2, .int q), (0, .ref v0), (1, .ref v1), (3, .int v3)]) (fun _ => rfl) (fun x15 hf => ?_)
    refine J_iinc (pc := 63) C dX5_spells_63 3 rfl (y := v3 + 1) rfl (by decide) hf (fun q => [(3, .int q), (2, .int x15), (0, .ref v0), (1, .ref v1)]) (fun _ => rfl) (fun x16 hf => ?_)
    refine J_goto (pc := 66) C dX5_spells_66 (tgt := 24) (by decide) ?_
    refine J_sub [2, 3, 1, 0] (L1 := [(0, .ref v0), (1, .ref v1), (2, .int x15), (3, .int x16)]) rfl ?_
    exact lh24 v0 v1 x15 x16 hf
  have B24 : ∀ (n : Nat) (v0 : Nat) (v1 : Nat) (v2 : Int32) (v3 : Int32), f_X5_spells_24 fu w n v0 v1 v2 v3 = some rr → JW p l e rmX5_spells s m args below meth c 4 D dA A E (MQ below (Qr D dA E (some (.int rr)) w A) args s 0 0 A) 0 0 24 [(0, .ref v0), (1, .ref v1), (2, .int v2), (3, .int v3)] [] w := by
    intro n
    induction n with
    | zero => intro v0 v1 v2 v3 hf; rw [f_X5_spells_24] at hf; cases hf
    | succ n ih =>
      intro v0 v1 v2 v3 hf
      rw [f_X5_spells_24] at hf
      refine J_iload_n (pc := 24) C dX5_spells_24 rfl 3 rfl ?_
      refine J_aload_n (pc := 25) C dX5_spells_25 rfl 1 rfl ?_
      refine J_stL (pc := 26) C dX5_spells_26 k_476 ⟨Nat.le_of_ble_eq_true rfl, Nat.le_of_ble_eq_true rfl⟩ ⟨Nat.le_of_ble_eq_true rfl, Nat.le_of_ble_eq_true rfl⟩ (fun _ => Nat.le_of_ble_eq_true rfl) hf (fun x6 hf => ?_)
      refine J_icmp_ge (pc := 29) C dX5_spells_29 (tgt := 69) (by decide) hf (fun _ hf => ?_) (fun _ hf => ?_)
      · refine J_iload_n (pc := 69) C dX5_spells_69 rfl 2 rfl ?_
        obtain ⟨x7, hx7, hf2⟩ := bind_ok hf
        obtain ⟨hx7, ex7⟩ := zr_spec hx7
        rw [ex7] at hf2
        exact J_iretP (pc := 70) C  rfl hx7 dX5_spells_70 hf2
      · refine J_iload_n (pc := 32) C dX5_spells_32 rfl 2 rfl ?_
        refine J_if_eq (pc := 33) C dX5_spells_33 (tgt := 69) (by decide) hf (fun _ hf => ?_) (fun _ hf => ?_)
        · refine J_iload_n (pc := 69) C dX5_spells_69 rfl 2 rfl ?_
          obtain ⟨x8, hx8, hf2⟩ := bind_ok hf
          obtain ⟨hx8, ex8⟩ := zr_spec hx8
          rw [ex8] at hf2
          exact J_iretP (pc := 70) C  rfl hx8 dX5_spells_70 hf2
        · refine J_aload_n (pc := 36) C dX5_spells_36 rfl 0 rfl ?_
          refine J_getR (pc := 37) C dX5_spells_37 (ci := 5) (k0 := 0) rfl iX5 (by decide) k_300 hf (fun x9 hf => ?_)
          refine J_aload_n (pc := 40) C dX5_spells_40 rfl 0 rfl ?_
          refine J_getI (pc := 41) C dX5_spells_41 (ci := 5) (k0 := 5) rfl iX5 (by decide) k_305 hf (fun x10 hf => ?_)
          refine J_iload_n (pc := 44) C dX5_spells_44 rfl 3 rfl ?_
          refine J_iadd (pc := 45) C dX5_spells_45 ?_
          obtain ⟨q11, h12, hf⟩ := bind_ok hf
          obtain ⟨_, g13, h12⟩ := cl_spec h12
          refine J_cV (S := []) (pc := 46) C dX5_spells_46 (c_X4_byteAt _ _ _ h12) k_442 ys_X4_byteAt ⟨Nat.le_of_ble_eq_true rfl, Nat.le_of_ble_eq_true rfl⟩ ⟨Nat.le_of_ble_eq_true rfl, Nat.le_of_ble_eq_true rfl⟩ g13 rfl rfl (fun _ => Nat.le_of_ble_eq_true rfl) ?_
          refine J_aload_n (pc := 49) C dX5_spells_49 rfl 1 rfl ?_
          refine J_iload_n (pc := 50) C dX5_spells_50 rfl 3 rfl ?_
          refine J_stC (pc := 51) C dX5_spells_51 k_486 ⟨Nat.le_of_ble_eq_true rfl, Nat.le_of_ble_eq_true rfl⟩ ⟨Nat.le_of_ble_eq_true rfl, Nat.le_of_ble_eq_true rfl⟩ (fun _ => Nat.le_of_ble_eq_true rfl) hf (fun x14 hf => ?_)
          refine J_icmp_ne (pc := 54) C dX5_spells_54 (tgt := 61) (by decide) hf (fun _ hf => ?_) (fun _ hf => ?_)
          · refine J_iconst (pc := 61) C dX5_spells_61 (v := 0) (by decide) ?_
            refine J_sub [0, 1, 3] (L1 := [(0, .ref v0), (1, .ref v1), (3, .int v3)]) rfl ?_
            exact B62 (f_X5_spells_24 fu w n) ih v0 v1 v3 (0 : Int32) hf
          · refine J_iconst (pc := 57) C dX5_spells_57 (v := 1) (by decide) ?_
            refine J_goto (pc := 58) C dX5_spells_58 (tgt := 62) (by decide) ?_
            refine J_sub [0, 1, 3] (L1 := [(0, .ref v0), (1, .ref v1), (3, .int v3)]) rfl ?_
            exact B62 (f_X5_spells_24 fu w n) ih v0 v1 v3 (1 : Int32) hf
  rw [f_X5_spells] at hf
  refine J_sub [0, 1] (L1 := [(0, .ref v0), (1, .ref v1)]) rfl ?_
  refine J_aload_n (pc := 0) C dX5_spells_0 rfl 0 rfl ?_
  refine J_getI (pc := 1) C dX5_spells_1 (ci := 5) (k0 := 3) rfl iX5 (by decide) k_303 hf (fun x1 hf => ?_)
  refine J_aload_n (pc := 4) C dX5_spells_4 rfl 0 rfl ?_
  refine J_getI (pc := 5) C dX5_spells_5 (ci := 5) (k0 := 5) rfl iX5 (by decide) k_305 hf (fun x2 hf => ?_)
  refine J_isub (pc := 8) C dX5_spells_8 ?_
  refine J_aload_n (pc := 9) C dX5_spells_9 rfl 1 rfl ?_
  refine J_stL (pc := 10) C dX5_spells_10 k_476 ⟨Nat.le_of_ble_eq_true rfl, Nat.le_of_ble_eq_true rfl⟩ ⟨Nat.le_of_ble_eq_true rfl, Nat.le_of_ble_eq_true rfl⟩ (fun _ => Nat.le_of_ble_eq_true rfl) hf (fun x3 hf => ?_)
  refine J_icmp_ne (pc := 13) C dX5_spells_13 (tgt := 20) (by decide) hf (fun _ hf => ?_) (fun _ hf => ?_)
  · refine J_iconst (pc := 20) C dX5_spells_20 (v := 0) (by decide) ?_
    refine J_istore_n (pc := 21) C dX5_spells_21 rfl (by decide) hf (fun q => [(2, .int q), (0, .ref v0), (1, .ref v1)]) (fun _ => rfl) (fun x4 hf => ?_)
    refine J_iconst (pc := 22) C dX5_spells_22 (v := 0) (by decide) ?_
    refine J_istore_n (pc := 23) C dX5_spells_23 rfl (by decide) hf (fun q => [(3, .int q), (2, .int x4), (0, .ref v0), (1, .ref v1)]) (fun _ => rfl) (fun x5 hf => ?_)
    refine J_sub [2, 3, 1, 0] (L1 := [(0, .ref v0), (1, .ref v1), (2, .int x4), (3, .int x5)]) rfl ?_
    exact B24 fu v0 v1 x4 x5 hf
  · refine J_iconst (pc := 16) C dX5_spells_16 (v := 1) (by decide) ?_
    refine J_goto (pc := 17) C dX5_spells_17 (tgt := 21) (by decide) ?_
    refine J_istore_n (pc := 21) C dX5_spells_21 rfl (by decide) hf (fun q => [(2, .int q), (0, .ref v0), (1, .ref v1)]) (fun _ => rfl) (fun x17 hf => ?_)
    refine J_iconst (pc := 22) C dX5_spells_22 (v := 0) (by decide) ?_
    refine J_istore_n (pc := 23) C dX5_spells_23 rfl (by decide) hf (fun q => [(3, .int q), (2, .int x17), (0, .ref v0), (1, .ref v1)]) (fun _ => rfl) (fun x18 hf => ?_)
    refine J_sub [2, 3, 1, 0] (L1 := [(0, .ref v0), (1, .ref v1), (2, .int x17), (3, .int x18)]) rfl ?_
    exact B24 fu v0 v1 x17 x18 hf
set_option maxRecDepth 100000 in
set_option maxHeartbeats 4000000 in
theorem c_X5_lineHere {l : Launch} {D : va_G} {dA : FieldType → ClassId} (fu : Nat) (w : MW) (v0 : Nat) {rr : Int32} (hf : f_X5_lineHere fu w v0 = some rr) : CT l D dA yX5_lineHere cX5_lineHere 1 (some .int) rmX5_lineHere [.ref v0] w (some (.int rr)) w := by
  refine J_met (by decide) rfl (Nat.le_of_ble_eq_true rfl) (fun p e s m args below meth c A E C => ?_)
  rw [f_X5_lineHere] at hf
  refine J_sub [0] (L1 := [(0, .ref v0)]) rfl ?_
  refine J_aload_n (pc := 0) C dX5_lineHere_0 rfl 0 rfl ?_
  refine J_ldcS (pc := 1) C 0 (by decide) rfl rfl dX5_lineHere_1 ?_
  obtain ⟨q1, h2, hf⟩ := bind_ok hf
  obtain ⟨_, g3, h2⟩ := cl_spec h2
  refine J_cV (S := []) (pc := 3) C dX5_lineHere_3 (c_X5_spells _ _ _ _ h2) k_472 ys_X5_spells ⟨Nat.le_of_ble_eq_true rfl, Nat.le_of_ble_eq_true rfl⟩ ⟨Nat.le_of_ble_eq_true rfl, Nat.le_of_ble_eq_true rfl⟩ g3 rfl rfl (fun _ => Nat.le_of_ble_eq_true rfl) ?_
  refine J_if_eq (pc := 6) C dX5_lineHere_6 (tgt := 13) (by decide) hf (fun _ hf => ?_) (fun _ hf => ?_)
  · refine J_aload_n (pc := 13) C dX5_lineHere_13 rfl 0 rfl ?_
    refine J_ldcS (pc := 14) C 1 (by decide) rfl rfl dX5_lineHere_14 ?_
    obtain ⟨q4, h5, hf⟩ := bind_ok hf
    obtain ⟨_, g6, h5⟩ := cl_spec h5
    refine J_cV (S := []) (pc := 16) C dX5_lineHere_16 (c_X5_spells _ _ _ _ h5) k_472 ys_X5_spells ⟨Nat.le_of_ble_eq_true rfl, Nat.le_of_ble_eq_true rfl⟩ ⟨Nat.le_of_ble_eq_true rfl, Nat.le_of_ble_eq_true rfl⟩ g6 rfl rfl (fun _ => Nat.le_of_ble_eq_true rfl) ?_
    refine J_if_eq (pc := 19) C dX5_lineHere_19 (tgt := 26) (by decide) hf (fun _ hf => ?_) (fun _ hf => ?_)
    · refine J_aload_n (pc := 26) C dX5_lineHere_26 rfl 0 rfl ?_
      refine J_ldcS (pc := 27) C 2 (by decide) rfl rfl dX5_lineHere_27 ?_
      obtain ⟨q7, h8, hf⟩ := bind_ok hf
      obtain ⟨_, g9, h8⟩ := cl_spec h8
      refine J_cV (S := []) (pc := 29) C dX5_lineHere_29 (c_X5_spells _ _ _ _ h8) k_472 ys_X5_spells ⟨Nat.le_of_ble_eq_true rfl, Nat.le_of_ble_eq_true rfl⟩ ⟨Nat.le_of_ble_eq_true rfl, Nat.le_of_ble_eq_true rfl⟩ g9 rfl rfl (fun _ => Nat.le_of_ble_eq_true rfl) ?_
      refine J_if_eq (pc := 32) C dX5_lineHere_32 (tgt := 39) (by decide) hf (fun _ hf => ?_) (fun _ hf => ?_)
      · refine J_aload_n (pc := 39) C dX5_lineHere_39 rfl 0 rfl ?_
        refine J_ldcS (pc := 40) C 3 (by decide) rfl rfl dX5_lineHere_40 ?_
        obtain ⟨q10, h11, hf⟩ := bind_ok hf
        obtain ⟨_, g12, h11⟩ := cl_spec h11
        refine J_cV (S := []) (pc := 42) C dX5_lineHere_42 (c_X5_spells _ _ _ _ h11) k_472 ys_X5_spells ⟨Nat.le_of_ble_eq_true rfl, Nat.le_of_ble_eq_true rfl⟩ ⟨Nat.le_of_ble_eq_true rfl, Nat.le_of_ble_eq_true rfl⟩ g12 rfl rfl (fun _ => Nat.le_of_ble_eq_true rfl) ?_
        refine J_if_eq (pc := 45) C dX5_lineHere_45 (tgt := 52) (by decide) hf (fun _ hf => ?_) (fun _ hf => ?_)
        · refine J_aload_n (pc := 52) C dX5_lineHere_52 rfl 0 rfl ?_
          refine J_ldcS (pc := 53) C 4 (by decide) rfl rfl dX5_lineHere_53 ?_
          obtain ⟨q13, h14, hf⟩ := bind_ok hf
          obtain ⟨_, g15, h14⟩ := cl_spec h14
          refine J_cV (S := []) (pc := 55) C dX5_lineHere_55 (c_X5_spells _ _ _ _ h14) k_472 ys_X5_spells ⟨Nat.le_of_ble_eq_true rfl, Nat.le_of_ble_eq_true rfl⟩ ⟨Nat.le_of_ble_eq_true rfl, Nat.le_of_ble_eq_true rfl⟩ g15 rfl rfl (fun _ => Nat.le_of_ble_eq_true rfl) ?_
          refine J_if_eq (pc := 58) C dX5_lineHere_58 (tgt := 65) (by decide) hf (fun _ hf => ?_) (fun _ hf => ?_)
          · refine J_aload_n (pc := 65) C dX5_lineHere_65 rfl 0 rfl ?_
            refine J_ldcS (pc := 66) C 5 (by decide) rfl rfl dX5_lineHere_66 ?_
            obtain ⟨q16, h17, hf⟩ := bind_ok hf
            obtain ⟨_, g18, h17⟩ := cl_spec h17
            refine J_cV (S := []) (pc := 68) C dX5_lineHere_68 (c_X5_spells _ _ _ _ h17) k_472 ys_X5_spells ⟨Nat.le_of_ble_eq_true rfl, Nat.le_of_ble_eq_true rfl⟩ ⟨Nat.le_of_ble_eq_true rfl, Nat.le_of_ble_eq_true rfl⟩ g18 rfl rfl (fun _ => Nat.le_of_ble_eq_true rfl) ?_
            refine J_if_eq (pc := 71) C dX5_lineHere_71 (tgt := 78) (by decide) hf (fun _ hf => ?_) (fun _ hf => ?_)
            · refine J_aload_n (pc := 78) C dX5_lineHere_78 rfl 0 rfl ?_
              refine J_ldcS (pc := 79) C 6 (by decide) rfl rfl dX5_lineHere_79 ?_
              obtain ⟨q19, h20, hf⟩ := bind_ok hf
              obtain ⟨_, g21, h20⟩ := cl_spec h20
              refine J_cV (S := []) (pc := 81) C dX5_lineHere_81 (c_X5_spells _ _ _ _ h20) k_472 ys_X5_spells ⟨Nat.le_of_ble_eq_true rfl, Nat.le_of_ble_eq_true rfl⟩ ⟨Nat.le_of_ble_eq_true rfl, Nat.le_of_ble_eq_true rfl⟩ g21 rfl rfl (fun _ => Nat.le_of_ble_eq_true rfl) ?_
              refine J_if_eq (pc := 84) C dX5_lineHere_84 (tgt := 92) (by decide) hf (fun _ hf => ?_) (fun _ hf => ?_)
              · refine J_iconst (pc := 92) C dX5_lineHere_92 (v := -1) (by decide) ?_
                exact J_iretP (pc := 93) C  rfl rfl dX5_lineHere_93 hf
              · refine J_bipush (pc := 87) C dX5_lineHere_87 (v := 6) (by decide) ?_
                refine J_goto (pc := 89) C dX5_lineHere_89 (tgt := 93) (by decide) ?_
                exact J_iretP (pc := 93) C  rfl rfl dX5_lineHere_93 hf
            · refine J_iconst (pc := 74) C dX5_lineHere_74 (v := 5) (by decide) ?_
              refine J_goto (pc := 75) C dX5_lineHere_75 (tgt := 93) (by decide) ?_
              exact J_iretP (pc := 93) C  rfl rfl dX5_lineHere_93 hf
          · refine J_iconst (pc := 61) C dX5_lineHere_61 (v := 4) (by decide) ?_
            refine J_goto (pc := 62) C dX5_lineHere_62 (tgt := 93) (by decide) ?_
            exact J_iretP (pc := 93) C  rfl rfl dX5_lineHere_93 hf
        · refine J_iconst (pc := 48) C dX5_lineHere_48 (v := 3) (by decide) ?_
          refine J_goto (pc := 49) C dX5_lineHere_49 (tgt := 93) (by decide) ?_
          exact J_iretP (pc := 93) C  rfl rfl dX5_lineHere_93 hf
      · refine J_iconst (pc := 35) C dX5_lineHere_35 (v := 2) (by decide) ?_
        refine J_goto (pc := 36) C dX5_lineHere_36 (tgt := 93) (by decide) ?_
        exact J_iretP (pc := 93) C  rfl rfl dX5_lineHere_93 hf
    · refine J_iconst (pc := 22) C dX5_lineHere_22 (v := 1) (by decide) ?_
      refine J_goto (pc := 23) C dX5_lineHere_23 (tgt := 93) (by decide) ?_
      exact J_iretP (pc := 93) C  rfl rfl dX5_lineHere_93 hf
  · refine J_iconst (pc := 9) C dX5_lineHere_9 (v := 0) (by decide) ?_
    refine J_goto (pc := 10) C dX5_lineHere_10 (tgt := 93) (by decide) ?_
    exact J_iretP (pc := 93) C  rfl rfl dX5_lineHere_93 hf
set_option maxRecDepth 100000 in
set_option maxHeartbeats 4000000 in
theorem c_X5_fail {l : Launch} {D : va_G} {dA : FieldType → ClassId} (w : MW) (v0 : Nat) (v1 : Int32) (v2 : Int32) {w' : MW} (hf : f_X5_fail w v0 v1 v2 = some w') : CT l D dA yX5_fail cX5_fail 3 none rmX5_fail [.ref v0, .int v1, .int v2] w none w' := by
  refine J_met (by decide) rfl (Nat.le_of_ble_eq_true rfl) (fun p e s m args below meth c A E C => ?_)
  rw [f_X5_fail] at hf
  refine J_sub [0, 1, 2] (L1 := [(0, .ref v0), (1, .int v1), (2, .int v2)]) rfl ?_
  refine J_aload_n (pc := 0) C dX5_fail_0 rfl 0 rfl ?_
  refine J_getI (pc := 1) C dX5_fail_1 (ci := 5) (k0 := 7) rfl iX5 (by decide) k_307 hf (fun x1 hf => ?_)
  refine J_if_ne (pc := 4) C dX5_fail_4 (tgt := 17) (by decide) hf (fun _ hf => ?_) (fun _ hf => ?_)
  · exact J_vret (pc := 17) C rfl dX5_fail_17 hf
  · refine J_aload_n (pc := 7) C dX5_fail_7 rfl 0 rfl ?_
    refine J_iload_n (pc := 8) C dX5_fail_8 rfl 1 rfl ?_
    refine J_put (pc := 9) C dX5_fail_9 (ci := 5) (k0 := 7) rfl iX5 tyX5 tyX5_ok nmX5 (by decide) k_307 rfl (ty := .int) (by decide +kernel) (fun _ => rfl) (fun _ => rfl) hf (fun w2 hf => ?_)
    refine J_aload_n (pc := 12) C dX5_fail_12 rfl 0 rfl ?_
    refine J_iload_n (pc := 13) C dX5_fail_13 rfl 2 rfl ?_
    refine J_put (pc := 14) C dX5_fail_14 (ci := 5) (k0 := 8) rfl iX5 tyX5 tyX5_ok nmX5 (by decide) k_309 rfl (ty := .int) (by decide +kernel) (fun _ => rfl) (fun _ => rfl) hf (fun w3 hf => ?_)
    exact J_vret (pc := 17) C rfl dX5_fail_17 hf
set_option maxRecDepth 100000 in
set_option maxHeartbeats 4000000 in
theorem c_X5_shapeOf {l : Launch} {D : va_G} {dA : FieldType → ClassId} (w : MW) (v0 : Int32) {rr : Nat} (hf : f_X5_shapeOf v0 = rr) : CT l D dA yX5_shapeOf cX5_shapeOf 1 (some (.object "java/lang/String")) rmX5_shapeOf [.int v0] w (some (.ref rr)) w := by
  refine J_met (by decide) rfl (Nat.le_of_ble_eq_true rfl) (fun p e s m args below meth c A E C => ?_)
  rw [f_X5_shapeOf] at hf
  refine J_sub [0] (L1 := [(0, .int v0)]) rfl ?_
  refine J_iload_n (pc := 0) C dX5_shapeOf_0 rfl 0 rfl ?_
  refine J_case (v := 0) hf (fun g1 hf => ?_) (fun g1 hf => ?_)
  · refine J_tabIn (pc := 1) C dX5_shapeOf_1 (tgt := 44) (by rw [g1]; decide) (by rw [g1]; decide) (by rw [g1]; rfl) (by decide) ?_
    refine J_ldcS (pc := 44) C 7 (by decide) rfl rfl dX5_shapeOf_44 ?_
    exact J_aretP (pc := 46) C rfl (Or.inl ⟨_, rfl⟩) dX5_shapeOf_46 (congrArg some hf)
  refine J_case (v := 1) hf (fun g2 hf => ?_) (fun g2 hf => ?_)
  · refine J_tabIn (pc := 1) C dX5_shapeOf_1 (tgt := 47) (by rw [g2]; decide) (by rw [g2]; decide) (by rw [g2]; rfl) (by decide) ?_
    refine J_ldcS (pc := 47) C 8 (by decide) rfl rfl dX5_shapeOf_47 ?_
    exact J_aretP (pc := 49) C rfl (Or.inl ⟨_, rfl⟩) dX5_shapeOf_49 (congrArg some hf)
  refine J_case (v := 2) hf (fun g3 hf => ?_) (fun g3 hf => ?_)
  · refine J_tabIn (pc := 1) C dX5_shapeOf_1 (tgt := 50) (by rw [g3]; decide) (by rw [g3]; decide) (by rw [g3]; rfl) (by decide) ?_
    refine J_ldcS (pc := 50) C 9 (by decide) rfl rfl dX5_shapeOf_50 ?_
    exact J_aretP (pc := 52) C rfl (Or.inl ⟨_, rfl⟩) dX5_shapeOf_52 (congrArg some hf)
  refine J_case (v := 3) hf (fun g4 hf => ?_) (fun g4 hf => ?_)
  · refine J_tabIn (pc := 1) C dX5_shapeOf_1 (tgt := 59) (by rw [g4]; decide) (by rw [g4]; decide) (by rw [g4]; rfl) (by decide) ?_
    refine J_ldcS (pc := 59) C 12 (by decide) rfl rfl dX5_shapeOf_59 ?_
    exact J_aretP (pc := 61) C rfl (Or.inl ⟨_, rfl⟩) dX5_shapeOf_61 (congrArg some hf)
  refine J_case (v := 4) hf (fun g5 hf => ?_) (fun g5 hf => ?_)
  · refine J_tabIn (pc := 1) C dX5_shapeOf_1 (tgt := 59) (by rw [g5]; decide) (by rw [g5]; decide) (by rw [g5]; rfl) (by decide) ?_
    refine J_ldcS (pc := 59) C 12 (by decide) rfl rfl dX5_shapeOf_59 ?_
    exact J_aretP (pc := 61) C rfl (Or.inl ⟨_, rfl⟩) dX5_shapeOf_61 (congrArg some hf)
  refine J_case (v := 5) hf (fun g6 hf => ?_) (fun g6 hf => ?_)
  · refine J_tabIn (pc := 1) C dX5_shapeOf_1 (tgt := 53) (by rw [g6]; decide) (by rw [g6]; decide) (by rw [g6]; rfl) (by decide) ?_
    refine J_ldcS (pc := 53) C 10 (by decide) rfl rfl dX5_shapeOf_53 ?_
    exact J_aretP (pc := 55) C rfl (Or.inl ⟨_, rfl⟩) dX5_shapeOf_55 (congrArg some hf)
  refine J_case (v := 6) hf (fun g7 hf => ?_) (fun g7 hf => ?_)
  · refine J_tabIn (pc := 1) C dX5_shapeOf_1 (tgt := 56) (by rw [g7]; decide) (by rw [g7]; decide) (by rw [g7]; rfl) (by decide) ?_
    refine J_ldcS (pc := 56) C 11 (by decide) rfl rfl dX5_shapeOf_56 ?_
    exact J_aretP (pc := 58) C rfl (Or.inl ⟨_, rfl⟩) dX5_shapeOf_58 (congrArg some hf)
  refine J_tabOut (pc := 1) C dX5_shapeOf_1 (tgt := 59) (by have z0 := lv_neT g1 (k := 0) (a := 0) (by decide); have z1 := lv_neT g2 (k := 1) (a := 1) (by decide); have z2 := lv_neT g3 (k := 2) (a := 2) (by decide); have z3 := lv_neT g4 (k := 3) (a := 3) (by decide); have z4 := lv_neT g5 (k := 4) (a := 4) (by decide); have z5 := lv_neT g6 (k := 5) (a := 5) (by decide); have z6 := lv_neT g7 (k := 6) (a := 6) (by decide); omega) (by decide) ?_
  refine J_ldcS (pc := 59) C 12 (by decide) rfl rfl dX5_shapeOf_59 ?_
  exact J_aretP (pc := 61) C rfl (Or.inl ⟨_, rfl⟩) dX5_shapeOf_61 (congrArg some hf)
set_option maxRecDepth 100000 in
set_option maxHeartbeats 4000000 in
theorem c_X5_takeNumber {l : Launch} {D : va_G} {dA : FieldType → ClassId} (fu : Nat) (w : MW) (v0 : Nat) (v1 : Int32) {rr : Int32} {w' : MW} (hf : f_X5_takeNumber fu w v0 v1 = some (rr, w')) : CT l D dA yX5_takeNumber cX5_takeNumber 3 (some .int) rmX5_takeNumber [.ref v0, .int v1] w (some (.int rr)) w' := by
  refine J_met (by decide) rfl (Nat.le_of_ble_eq_true rfl) (fun p e s m args below meth c A E C => ?_)
  have B37 : ∀ (w : MW) (v0 : Nat), f_X5_takeNumber_37 fu w v0 = some (rr, w') → JW p l e rmX5_takeNumber s m args below meth c 3 D dA A E (MQ below (Qr D dA E (some (.int rr)) w' A) args s 0 0 A) 0 0 37 [(0, .ref v0)] [] w := by
    intro w v0 hf
    rw [f_X5_takeNumber_37] at hf
    refine J_aload_n (pc := 37) C dX5_takeNumber_37 rfl 0 rfl ?_
    refine J_getI (pc := 38) C dX5_takeNumber_38 (ci := 5) (k0 := 7) rfl iX5 (by decide) k_307 hf (fun x3 hf => ?_)
    refine J_if_eq (pc := 41) C dX5_takeNumber_41 (tgt := 46) (by decide) hf (fun _ hf => ?_) (fun _ hf => ?_)
    · refine J_aload_n (pc := 46) C dX5_takeNumber_46 rfl 0 rfl ?_
      refine J_getI (pc := 47) C dX5_takeNumber_47 (ci := 5) (k0 := 6) rfl iX5 (by decide) k_306 hf (fun x4 hf => ?_)
      refine J_istore_n (pc := 50) C dX5_takeNumber_50 rfl (by decide) hf (fun q => [(2, .int q), (0, .ref v0)]) (fun _ => rfl) (fun x5 hf => ?_)
      refine J_aload_n (pc := 51) C dX5_takeNumber_51 rfl 1 rfl ?_
      obtain ⟨q6, h7, hf⟩ := bind_ok hf
      obtain ⟨_, g8, h7⟩ := cl_spec h7
      refine J_cV (S := []) (pc := 52) C dX5_takeNumber_52 (c_X5_advance _ _ _ h7) k_438 ys_X5_advance ⟨Nat.le_of_ble_eq_true rfl, Nat.le_of_ble_eq_true rfl⟩ ⟨Nat.le_of_ble_eq_true rfl, Nat.le_of_ble_eq_true rfl⟩ g8 rfl rfl (fun _ => Nat.le_of_ble_eq_true rfl) ?_
      refine J_iload_n (pc := 55) C dX5_takeNumber_55 rfl 0 rfl ?_
      exact J_iret (pc := 56) C  rfl rfl dX5_takeNumber_56 hf
    · refine J_iconst (pc := 44) C dX5_takeNumber_44 (v := 0) (by decide) ?_
      exact J_iret (pc := 45) C  rfl rfl dX5_takeNumber_45 hf
  rw [f_X5_takeNumber] at hf
  refine J_sub [0, 1] (L1 := [(0, .ref v0), (1, .int v1)]) rfl ?_
  refine J_aload_n (pc := 0) C dX5_takeNumber_0 rfl 0 rfl ?_
  refine J_getI (pc := 1) C dX5_takeNumber_1 (ci := 5) (k0 := 4) rfl iX5 (by decide) k_304 hf (fun x1 hf => ?_)
  refine J_iconst (pc := 4) C dX5_takeNumber_4 (v := 3) (by decide) ?_
  refine J_icmp_eq (pc := 5) C dX5_takeNumber_5 (tgt := 20) (by decide) hf (fun _ hf => ?_) (fun _ hf => ?_)
  · refine J_aload_n (pc := 20) C dX5_takeNumber_20 rfl 0 rfl ?_
    refine J_getI (pc := 21) C dX5_takeNumber_21 (ci := 5) (k0 := 6) rfl iX5 (by decide) k_306 hf (fun x2 hf => ?_)
    refine J_iload_n (pc := 24) C dX5_takeNumber_24 rfl 1 rfl ?_
    refine J_icmp_le (pc := 25) C dX5_takeNumber_25 (tgt := 37) (by decide) hf (fun _ hf => ?_) (fun _ hf => ?_)
    · refine J_sub [0] (L1 := [(0, .ref v0)]) rfl ?_
      exact B37 w v0 hf
    · refine J_aload_n (pc := 28) C dX5_takeNumber_28 rfl 0 rfl ?_
      refine J_iconst (pc := 29) C dX5_takeNumber_29 (v := 2) (by decide) ?_
      refine J_aload_n (pc := 30) C dX5_takeNumber_30 rfl 0 rfl ?_
      refine J_getI (pc := 31) C dX5_takeNumber_31 (ci := 5) (k0 := 5) rfl iX5 (by decide) k_305 hf (fun x9 hf => ?_)
      obtain ⟨q10, h11, hf⟩ := bind_ok hf
      obtain ⟨_, g12, h11⟩ := cl_spec h11
      refine J_cV (S := []) (pc := 34) C dX5_takeNumber_34 (c_X5_fail _ _ _ _ h11) k_530 ys_X5_fail ⟨Nat.le_of_ble_eq_true rfl, Nat.le_of_ble_eq_true rfl⟩ ⟨Nat.le_of_ble_eq_true rfl, Nat.le_of_ble_eq_true rfl⟩ g12 rfl rfl (fun _ => Nat.le_of_ble_eq_true rfl) ?_
      refine J_sub [0] (L1 := [(0, .ref v0)]) rfl ?_
      exact B37 q10 v0 hf
  · refine J_aload_n (pc := 8) C dX5_takeNumber_8 rfl 0 rfl ?_
    refine J_iconst (pc := 9) C dX5_takeNumber_9 (v := 1) (by decide) ?_
    refine J_aload_n (pc := 10) C dX5_takeNumber_10 rfl 0 rfl ?_
    refine J_getI (pc := 11) C dX5_takeNumber_11 (ci := 5) (k0 := 5) rfl iX5 (by decide) k_305 hf (fun x13 hf => ?_)
    obtain ⟨q14, h15, hf⟩ := bind_ok hf
    obtain ⟨_, g16, h15⟩ := cl_spec h15
    refine J_cV (S := []) (pc := 14) C dX5_takeNumber_14 (c_X5_fail _ _ _ _ h15) k_530 ys_X5_fail ⟨Nat.le_of_ble_eq_true rfl, Nat.le_of_ble_eq_true rfl⟩ ⟨Nat.le_of_ble_eq_true rfl, Nat.le_of_ble_eq_true rfl⟩ g16 rfl rfl (fun _ => Nat.le_of_ble_eq_true rfl) ?_
    refine J_goto (pc := 17) C dX5_takeNumber_17 (tgt := 37) (by decide) ?_
    refine J_sub [0] (L1 := [(0, .ref v0)]) rfl ?_
    exact B37 q14 v0 hf
set_option maxRecDepth 100000 in
set_option maxHeartbeats 4000000 in
theorem c_X5_takeArgument {l : Launch} {D : va_G} {dA : FieldType → ClassId} (fu : Nat) (w : MW) (v0 : Nat) (v1 : Int32) {rr : Int32} {w' : MW} (hf : f_X5_takeArgument fu w v0 v1 = some (rr, w')) : CT l D dA yX5_takeArgument cX5_takeArgument 4 (some .int) rmX5_takeArgument [.ref v0, .int v1] w (some (.int rr)) w' := by
  refine J_met (by decide) rfl (Nat.le_of_ble_eq_true rfl) (fun p e s m args below meth c A E C => ?_)
  have B44 : ∀ (w : MW) (v2 : Int32) (s0 : Nat) (s1 : Int32), f_X5_takeArgument_44 fu w v2 s0 s1 = some (rr, w') → JW p l e rmX5_takeArgument s m args below meth c 4 D dA A E (MQ below (Qr D dA E (some (.int rr)) w' A) args s 0 0 A) 0 0 44 [(2, .int v2)] [.int s1, .ref s0] w := by
    intro w v2 s0 s1 hf
    rw [f_X5_takeArgument_44] at hf
    obtain ⟨q2, h3, hf⟩ := bind_ok hf
    obtain ⟨_, g4, h3⟩ := cl_spec h3
    refine J_cV (S := []) (pc := 44) C dX5_takeArgument_44 (c_X5_takeNumber _ _ _ _ h3) k_547 ys_X5_takeNumber ⟨Nat.le_of_ble_eq_true rfl, Nat.le_of_ble_eq_true rfl⟩ ⟨Nat.le_of_ble_eq_true rfl, Nat.le_of_ble_eq_true rfl⟩ g4 rfl rfl (fun _ => Nat.le_of_ble_eq_true rfl) ?_
    refine J_istore_n (pc := 47) C dX5_takeArgument_47 rfl (by decide) hf (fun q => [(3, .int q), (2, .int v2)]) (fun _ => rfl) (fun x5 hf => ?_)
    refine J_iload_n (pc := 48) C dX5_takeArgument_48 rfl 1 rfl ?_
    refine J_if_eq (pc := 49) C dX5_takeArgument_49 (tgt := 57) (by decide) hf (fun _ hf => ?_) (fun _ hf => ?_)
    · refine J_iload_n (pc := 57) C dX5_takeArgument_57 rfl 0 rfl ?_
      exact J_iret (pc := 58) C  rfl rfl dX5_takeArgument_58 hf
    · refine J_iload_n (pc := 52) C dX5_takeArgument_52 rfl 0 rfl ?_
      refine J_ineg (pc := 53) C dX5_takeArgument_53 ?_
      refine J_goto (pc := 54) C dX5_takeArgument_54 (tgt := 58) (by decide) ?_
      exact J_iret (pc := 58) C  rfl rfl dX5_takeArgument_58 hf
  have B29 : ∀ (w : MW) (v0 : Nat) (v1 : Int32) (v2 : Int32), f_X5_takeArgument_29 fu w v0 v1 v2 = some (rr, w') → JW p l e rmX5_takeArgument s m args below meth c 4 D dA A E (MQ below (Qr D dA E (some (.int rr)) w' A) args s 0 0 A) 0 0 29 [(0, .ref v0), (1, .int v1), (2, .int v2)] [] w := by
    intro w v0 v1 v2 hf
    rw [f_X5_takeArgument_29] at hf
    refine J_aload_n (pc := 29) C dX5_takeArgument_29 rfl 0 rfl ?_
    refine J_iload_n (pc := 30) C dX5_takeArgument_30 rfl 1 rfl ?_
    refine J_bipush (pc := 31) C dX5_takeArgument_31 (v := 115) (by decide) ?_
    refine J_icmp_ne (pc := 33) C dX5_takeArgument_33 (tgt := 41) (by decide) hf (fun _ hf => ?_) (fun _ hf => ?_)
    · refine J_sipush (pc := 41) C dX5_takeArgument_41 (v := 9999) (by decide) ?_
      refine J_sub [2] (L1 := [(2, .int v2)]) rfl ?_
      exact B44 w v2 v0 (9999 : Int32) hf
    · refine J_bipush (pc := 36) C dX5_takeArgument_36 (v := 7) (by decide) ?_
      refine J_goto (pc := 38) C dX5_takeArgument_38 (tgt := 44) (by decide) ?_
      refine J_sub [2] (L1 := [(2, .int v2)]) rfl ?_
      exact B44 w v2 v0 (7 : Int32) hf
  have B20 : ∀ (w : MW) (v0 : Nat) (v1 : Int32) (s0 : Int32), f_X5_takeArgument_20 fu w v0 v1 s0 = some (rr, w') → JW p l e rmX5_takeArgument s m args below meth c 4 D dA A E (MQ below (Qr D dA E (some (.int rr)) w' A) args s 0 0 A) 0 0 20 [(0, .ref v0), (1, .int v1)] [.int s0] w := by
    intro w v0 v1 s0 hf
    rw [f_X5_takeArgument_20] at hf
    refine J_istore_n (pc := 20) C dX5_takeArgument_20 rfl (by decide) hf (fun q => [(2, .int q), (0, .ref v0), (1, .int v1)]) (fun _ => rfl) (fun x1 hf => ?_)
    refine J_iload_n (pc := 21) C dX5_takeArgument_21 rfl 0 rfl ?_
    refine J_if_eq (pc := 22) C dX5_takeArgument_22 (tgt := 29) (by decide) hf (fun _ hf => ?_) (fun _ hf => ?_)
    · refine J_sub [1, 2, 0] (L1 := [(0, .ref v0), (1, .int v1), (2, .int x1)]) rfl ?_
      exact B29 w v0 v1 x1 hf
    · refine J_aload_n (pc := 25) C dX5_takeArgument_25 rfl 1 rfl ?_
      obtain ⟨q6, h7, hf⟩ := bind_ok hf
      obtain ⟨_, g8, h7⟩ := cl_spec h7
      refine J_cV (S := []) (pc := 26) C dX5_takeArgument_26 (c_X5_advance _ _ _ h7) k_438 ys_X5_advance ⟨Nat.le_of_ble_eq_true rfl, Nat.le_of_ble_eq_true rfl⟩ ⟨Nat.le_of_ble_eq_true rfl, Nat.le_of_ble_eq_true rfl⟩ g8 rfl rfl (fun _ => Nat.le_of_ble_eq_true rfl) ?_
      refine J_sub [1, 2, 0] (L1 := [(0, .ref v0), (1, .int v1), (2, .int x1)]) rfl ?_
      exact B29 q6 v0 v1 x1 hf
  rw [f_X5_takeArgument] at hf
  refine J_sub [0, 1] (L1 := [(0, .ref v0), (1, .int v1)]) rfl ?_
  refine J_iload_n (pc := 0) C dX5_takeArgument_0 rfl 1 rfl ?_
  refine J_bipush (pc := 1) C dX5_takeArgument_1 (v := 98) (by decide) ?_
  refine J_icmp_ne (pc := 3) C dX5_takeArgument_3 (tgt := 19) (by decide) hf (fun _ hf => ?_) (fun _ hf => ?_)
  · refine J_iconst (pc := 19) C dX5_takeArgument_19 (v := 0) (by decide) ?_
    refine J_sub [0, 1] (L1 := [(0, .ref v0), (1, .int v1)]) rfl ?_
    exact B20 w v0 v1 (0 : Int32) hf
  · refine J_aload_n (pc := 6) C dX5_takeArgument_6 rfl 0 rfl ?_
    refine J_getI (pc := 7) C dX5_takeArgument_7 (ci := 5) (k0 := 4) rfl iX5 (by decide) k_304 hf (fun x9 hf => ?_)
    refine J_bipush (pc := 10) C dX5_takeArgument_10 (v := 45) (by decide) ?_
    refine J_icmp_ne (pc := 12) C dX5_takeArgument_12 (tgt := 19) (by decide) hf (fun _ hf => ?_) (fun _ hf => ?_)
    · refine J_iconst (pc := 19) C dX5_takeArgument_19 (v := 0) (by decide) ?_
      refine J_sub [0, 1] (L1 := [(0, .ref v0), (1, .int v1)]) rfl ?_
      exact B20 w v0 v1 (0 : Int32) hf
    · refine J_iconst (pc := 15) C dX5_takeArgument_15 (v := 1) (by decide) ?_
      refine J_goto (pc := 16) C dX5_takeArgument_16 (tgt := 20) (by decide) ?_
      refine J_sub [0, 1] (L1 := [(0, .ref v0), (1, .int v1)]) rfl ?_
      exact B20 w v0 v1 (1 : Int32) hf
set_option maxRecDepth 100000 in
set_option maxHeartbeats 4000000 in
theorem c_X7_heapAt {l : Launch} {D : va_G} {dA : FieldType → ClassId} (w : MW) (v0 : Nat) (v1 : Int32) {rr : Option Nat} (hf : f_X7_heapAt w v0 v1 = some rr) : CT l D dA yX7_heapAt cX7_heapAt 2 (some (.object "MeltingHeaps$Heap")) rmX7_heapAt [.ref v0, .int v1] w (some (va_rf rr)) w := by
  refine J_met (by decide) rfl (Nat.le_of_ble_eq_true rfl) (fun p e s m args below meth c A E C => ?_)
  rw [f_X7_heapAt] at hf
  refine J_sub [0, 1] (L1 := [(0, .ref v0), (1, .int v1)]) rfl ?_
  refine J_iload_n (pc := 0) C dX7_heapAt_0 rfl 1 rfl ?_
  refine J_if_lt (pc := 1) C dX7_heapAt_1 (tgt := 19) (by decide) hf (fun _ hf => ?_) (fun _ hf => ?_)
  · refine J_null (pc := 19) C dX7_heapAt_19 ?_
    exact J_aretON (pc := 20) C rfl (Or.inl ⟨_, rfl⟩) dX7_heapAt_20 hf
  · refine J_iload_n (pc := 4) C dX7_heapAt_4 rfl 1 rfl ?_
    refine J_bipush (pc := 5) C dX7_heapAt_5 (v := 8) (by decide) ?_
    refine J_icmp_ge (pc := 7) C dX7_heapAt_7 (tgt := 19) (by decide) hf (fun _ hf => ?_) (fun _ hf => ?_)
    · refine J_null (pc := 19) C dX7_heapAt_19 ?_
      exact J_aretON (pc := 20) C rfl (Or.inl ⟨_, rfl⟩) dX7_heapAt_20 hf
    · refine J_aload_n (pc := 10) C dX7_heapAt_10 rfl 0 rfl ?_
      refine J_getR (pc := 11) C dX7_heapAt_11 (ci := 7) (k0 := 0) rfl iX7 (by decide) k_212 hf (fun x1 hf => ?_)
      refine J_iload_n (pc := 14) C dX7_heapAt_14 rfl 1 rfl ?_
      refine J_aald (Cn := RX0) (pc := 15) C 3 (fun _ => rfl) dX7_heapAt_15 hf (fun x2 hf => ?_)
      refine J_goto (pc := 16) C dX7_heapAt_16 (tgt := 20) (by decide) ?_
      exact J_aretO (pc := 20) C rfl (Or.inl ⟨_, rfl⟩) dX7_heapAt_20 hf
theorem z_X10_isKey (v0 : Int32) : narrow .boolean (.int (f_X10_isKey v0)) = .int (f_X10_isKey v0) := by
  unfold f_X10_isKey
  (repeat' split) <;> rfl
set_option maxRecDepth 100000 in
set_option maxHeartbeats 4000000 in
theorem c_X10_isKey {l : Launch} {D : va_G} {dA : FieldType → ClassId} (w : MW) (v0 : Int32) {rr : Int32} (hf : f_X10_isKey v0 = rr) : CT l D dA yX10_isKey cX10_isKey 1 (some .boolean) rmX10_isKey [.int v0] w (some (.int rr)) w := by
  refine J_met (by decide) rfl (Nat.le_of_ble_eq_true rfl) (fun p e s m args below meth c A E C => ?_)
  rw [f_X10_isKey] at hf
  refine J_sub [0] (L1 := [(0, .int v0)]) rfl ?_
  refine J_iload_n (pc := 0) C dX10_isKey_0 rfl 0 rfl ?_
  refine J_if_lt (pc := 1) C dX10_isKey_1 (tgt := 15) (by decide) hf (fun _ hf => ?_) (fun _ hf => ?_)
  · refine J_iconst (pc := 15) C dX10_isKey_15 (v := 0) (by decide) ?_
    exact J_iretT (pc := 16) C  rfl (by decide) dX10_isKey_16 hf
  · refine J_iload_n (pc := 4) C dX10_isKey_4 rfl 0 rfl ?_
    refine J_sipush (pc := 5) C dX10_isKey_5 (v := 9999) (by decide) ?_
    refine J_icmp_gt (pc := 8) C dX10_isKey_8 (tgt := 15) (by decide) hf (fun _ hf => ?_) (fun _ hf => ?_)
    · refine J_iconst (pc := 15) C dX10_isKey_15 (v := 0) (by decide) ?_
      exact J_iretT (pc := 16) C  rfl (by decide) dX10_isKey_16 hf
    · refine J_iconst (pc := 11) C dX10_isKey_11 (v := 1) (by decide) ?_
      refine J_goto (pc := 12) C dX10_isKey_12 (tgt := 16) (by decide) ?_
      exact J_iretT (pc := 16) C  rfl (by decide) dX10_isKey_16 hf
set_option maxRecDepth 100000 in
set_option maxHeartbeats 4000000 in
theorem c_X7_total {l : Launch} {D : va_G} {dA : FieldType → ClassId} (fu : Nat) (w : MW) (v0 : Nat) {rr : Int32} (hf : f_X7_total fu w v0 = some rr) : CT l D dA yX7_total cX7_total 3 (some .int) rmX7_total [.ref v0] w (some (.int rr)) w := by
  refine J_met (by decide) rfl (Nat.le_of_ble_eq_true rfl) (fun p e s m args below meth c A E C => ?_)
  have B4 : ∀ (n : Nat) (v0 : Nat) (v1 : Int32) (v2 : Int32), f_X7_total_4 fu w n v0 v1 v2 = some rr → JW p l e rmX7_total s m args below meth c 3 D dA A E (MQ below (Qr D dA E (some (.int rr)) w A) args s 0 0 A) 0 0 4 [(0, .ref v0), (1, .int v1), (2, .int v2)] [] w := by
    intro n
    induction n with
    | zero => intro v0 v1 v2 hf; rw [f_X7_total_4] at hf; cases hf
    | succ n ih =>
      intro v0 v1 v2 hf
      rw [f_X7_total_4] at hf
      refine J_iload_n (pc := 4) C dX7_total_4 rfl 2 rfl ?_
      refine J_bipush (pc := 5) C dX7_total_5 (v := 8) (by decide) ?_
      refine J_icmp_ge (pc := 7) C dX7_total_7 (tgt := 28) (by decide) hf (fun _ hf => ?_) (fun _ hf => ?_)
      · refine J_iload_n (pc := 28) C dX7_total_28 rfl 1 rfl ?_
        exact J_iretP (pc := 29) C  rfl rfl dX7_total_29 hf
      · refine J_iload_n (pc := 10) C dX7_total_10 rfl 1 rfl ?_
        refine J_aload_n (pc := 11) C dX7_total_11 rfl 0 rfl ?_
        refine J_getR (pc := 12) C dX7_total_12 (ci := 7) (k0 := 0) rfl iX7 (by decide) k_212 hf (fun x3 hf => ?_)
        refine J_iload_n (pc := 15) C dX7_total_15 rfl 2 rfl ?_
        refine J_aald (Cn := RX0) (pc := 16) C 3 (fun _ => rfl) dX7_total_16 hf (fun x4 hf => ?_)
        refine J_getIN (pc := 17) C dX7_total_17 (ci := 0) (k0 := 1) rfl iX0 (by decide) n_186 hf (fun x5 hf => ?_)
        refine J_iadd (pc := 20) C dX7_total_20 ?_
        refine J_istore_n (pc := 21) C dX7_total_21 rfl (by decide) hf (fun q => [(1, .int q), (0, .ref v0), (2, .int v2)]) (fun _ => rfl) (fun x6 hf => ?_)
        refine J_iinc (pc := 22) C dX7_total_22 2 rfl (y := v2 + 1) rfl (by decide) hf (fun q => [(2, .int q), (1, .int x6), (0, .ref v0)]) (fun _ => rfl) (fun x7 hf => ?_)
        refine J_goto (pc := 25) C dX7_total_25 (tgt := 4) (by decide) ?_
        refine J_sub [2, 1, 0] (L1 := [(0, .ref v0), (1, .int x6), (2, .int x7)]) rfl ?_
        exact ih v0 x6 x7 hf
  rw [f_X7_total] at hf
  refine J_sub [0] (L1 := [(0, .ref v0)]) rfl ?_
  refine J_iconst (pc := 0) C dX7_total_0 (v := 0) (by decide) ?_
  refine J_istore_n (pc := 1) C dX7_total_1 rfl (by decide) hf (fun q => [(1, .int q), (0, .ref v0)]) (fun _ => rfl) (fun x1 hf => ?_)
  refine J_iconst (pc := 2) C dX7_total_2 (v := 0) (by decide) ?_
  refine J_istore_n (pc := 3) C dX7_total_3 rfl (by decide) hf (fun q => [(2, .int q), (1, .int x1), (0, .ref v0)]) (fun _ => rfl) (fun x2 hf => ?_)
  refine J_sub [2, 1, 0] (L1 := [(0, .ref v0), (1, .int x1), (2, .int x2)]) rfl ?_
  exact B4 fu v0 x1 x2 hf
set_option maxRecDepth 100000 in
set_option maxHeartbeats 4000000 in
theorem c_X7_putKey {l : Launch} {D : va_G} {dA : FieldType → ClassId} (fu : Nat) (w : MW) (v0 : Nat) (v1 : Int32) (v2 : Int32) {rr : Int32} {w' : MW} (hf : f_X7_putKey fu w v0 v1 v2 = some (rr, w')) : CT l D dA yX7_putKey cX7_putKey 4 (some .int) rmX7_putKey [.ref v0, .int v1, .int v2] w (some (.int rr)) w' := by
  refine J_met (by decide) rfl (Nat.le_of_ble_eq_true rfl) (fun p e s m args below meth c A E C => ?_)
  rw [f_X7_putKey] at hf
  refine J_sub [0, 1, 2] (L1 := [(0, .ref v0), (1, .int v1), (2, .int v2)]) rfl ?_
  refine J_aload_n (pc := 0) C dX7_putKey_0 rfl 0 rfl ?_
  refine J_iload_n (pc := 1) C dX7_putKey_1 rfl 1 rfl ?_
  obtain ⟨q1, h2, hf⟩ := bind_ok hf
  obtain ⟨_, g3, h2⟩ := cl_spec h2
  refine J_cV (S := []) (pc := 2) C dX7_putKey_2 (c_X7_heapAt _ _ _ h2) k_559 ys_X7_heapAt ⟨Nat.le_of_ble_eq_true rfl, Nat.le_of_ble_eq_true rfl⟩ ⟨Nat.le_of_ble_eq_true rfl, Nat.le_of_ble_eq_true rfl⟩ g3 rfl rfl (fun _ => Nat.le_of_ble_eq_true rfl) ?_
  cases q1 with
  | none =>
    refine J_astore_nN (pc := 5) C dX7_putKey_5 rfl (by decide) [(3, .null), (0, .ref v0), (1, .int v1), (2, .int v2)] rfl ?_
    refine J_aload_nN (pc := 6) C dX7_putKey_6 rfl 0 rfl ?_
    refine J_ifnullN (pc := 7) C dX7_putKey_7 (tgt := 17) (by decide) ?_
    refine J_iconst (pc := 17) C dX7_putKey_17 (v := -1) (by decide) ?_
    exact J_iret (pc := 18) C  rfl rfl dX7_putKey_18 hf
  | some b4 =>
    refine J_astore_n (pc := 5) C dX7_putKey_5 rfl (by decide) [(3, .ref b4), (0, .ref v0), (1, .int v1), (2, .int v2)] rfl ?_
    refine J_aload_n (pc := 6) C dX7_putKey_6 rfl 0 rfl ?_
    refine J_ifnull (pc := 7) C dX7_putKey_7 ?_
    refine J_iload_n (pc := 10) C dX7_putKey_10 rfl 3 rfl ?_
    refine J_cSN (S := []) (pc := 11) C dX7_putKey_11 (c_X10_isKey _ _ rfl) n_563 ys_X10_isKey ⟨Nat.le_of_ble_eq_true rfl, Nat.le_of_ble_eq_true rfl⟩ ⟨Nat.le_of_ble_eq_true rfl, Nat.le_of_ble_eq_true rfl⟩ rfl rfl (fun _ => Nat.le_of_ble_eq_true rfl) ?_
    refine J_if_ne (pc := 14) C dX7_putKey_14 (tgt := 19) (by decide) hf (fun _ hf => ?_) (fun _ hf => ?_)
    · refine J_aload_n (pc := 19) C dX7_putKey_19 rfl 0 rfl ?_
      refine J_iload_n (pc := 20) C dX7_putKey_20 rfl 3 rfl ?_
      obtain ⟨q5, h6, hf⟩ := bind_ok hf
      obtain ⟨_, g7, h6⟩ := cl_spec h6
      refine J_cV (S := []) (pc := 21) C dX7_putKey_21 (c_X0_rankOf _ _ _ _ h6) k_566 ys_X0_rankOf ⟨Nat.le_of_ble_eq_true rfl, Nat.le_of_ble_eq_true rfl⟩ ⟨Nat.le_of_ble_eq_true rfl, Nat.le_of_ble_eq_true rfl⟩ g7 rfl rfl (fun _ => Nat.le_of_ble_eq_true rfl) ?_
      refine J_iconst (pc := 24) C dX7_putKey_24 (v := -1) (by decide) ?_
      refine J_icmp_eq (pc := 25) C dX7_putKey_25 (tgt := 31) (by decide) hf (fun _ hf => ?_) (fun _ hf => ?_)
      · refine J_aload_n (pc := 31) C dX7_putKey_31 rfl 0 rfl ?_
        refine J_getIN (pc := 32) C dX7_putKey_32 (ci := 0) (k0 := 1) rfl iX0 (by decide) n_186 hf (fun x8 hf => ?_)
        refine J_bipush (pc := 35) C dX7_putKey_35 (v := 60) (by decide) ?_
        refine J_icmp_ge (pc := 37) C dX7_putKey_37 (tgt := 50) (by decide) hf (fun _ hf => ?_) (fun _ hf => ?_)
        · refine J_bipush (pc := 50) C dX7_putKey_50 (v := -4) (by decide) ?_
          exact J_iret (pc := 52) C  rfl rfl dX7_putKey_52 hf
        · refine J_aload_n (pc := 40) C dX7_putKey_40 rfl 1 rfl ?_
          obtain ⟨q9, h10, hf⟩ := bind_ok hf
          obtain ⟨_, g11, h10⟩ := cl_spec h10
          refine J_cV (S := []) (pc := 41) C dX7_putKey_41 (c_X7_total _ _ _ h10) k_574 ys_X7_total ⟨Nat.le_of_ble_eq_true rfl, Nat.le_of_ble_eq_true rfl⟩ ⟨Nat.le_of_ble_eq_true rfl, Nat.le_of_ble_eq_true rfl⟩ g11 rfl rfl (fun _ => Nat.le_of_ble_eq_true rfl) ?_
          refine J_sipush (pc := 44) C dX7_putKey_44 (v := 240) (by decide) ?_
          refine J_icmp_lt (pc := 47) C dX7_putKey_47 (tgt := 53) (by decide) hf (fun _ hf => ?_) (fun _ hf => ?_)
          · refine J_aload_n (pc := 53) C dX7_putKey_53 rfl 0 rfl ?_
            refine J_iload_n (pc := 54) C dX7_putKey_54 rfl 3 rfl ?_
            obtain ⟨q12, h13, hf⟩ := bind_ok hf
            obtain ⟨_, g14, h13⟩ := cl_spec h13
            refine J_cV (S := []) (pc := 55) C dX7_putKey_55 (c_X0_insert _ _ _ _ h13) k_578 ys_X0_insert ⟨Nat.le_of_ble_eq_true rfl, Nat.le_of_ble_eq_true rfl⟩ ⟨Nat.le_of_ble_eq_true rfl, Nat.le_of_ble_eq_true rfl⟩ g14 rfl rfl (fun _ => Nat.le_of_ble_eq_true rfl) ?_
            exact J_iret (pc := 58) C  rfl rfl dX7_putKey_58 hf
          · refine J_bipush (pc := 50) C dX7_putKey_50 (v := -4) (by decide) ?_
            exact J_iret (pc := 52) C  rfl rfl dX7_putKey_52 hf
      · refine J_bipush (pc := 28) C dX7_putKey_28 (v := -2) (by decide) ?_
        exact J_iret (pc := 30) C  rfl rfl dX7_putKey_30 hf
    · refine J_iconst (pc := 17) C dX7_putKey_17 (v := -1) (by decide) ?_
      exact J_iret (pc := 18) C  rfl rfl dX7_putKey_18 hf
set_option maxRecDepth 100000 in
set_option maxHeartbeats 4000000 in
theorem c_X5_putItem {l : Launch} {D : va_G} {dA : FieldType → ClassId} (fu : Nat) (w : MW) (v0 : Nat) (v1 : Int32) {w' : MW} (hf : f_X5_putItem fu w v0 v1 = some w') : CT l D dA yX5_putItem cX5_putItem 6 none rmX5_putItem [.ref v0, .int v1] w none w' := by
  refine J_met (by decide) rfl (Nat.le_of_ble_eq_true rfl) (fun p e s m args below meth c A E C => ?_)
  have B95 : ∀ (lr60 : MW → Nat → Int32 → Int32 → Int32 → Int32 → Option MW) (lh60 : ∀ (w : MW) (v0 : Nat) (v1 : Int32) (v2 : Int32) (v4 : Int32) (v5 : Int32), lr60 w v0 v1 v2 v4 v5 = some w' → JW p l e rmX5_putItem s m args below meth c 6 D dA A E (MQ below (Qr D dA E none w' A) args s 0 0 A) 0 0 60 [(0, .ref v0), (1, .int v1), (2, .int v2), (4, .int v4), (5, .int v5)] [] w) (w : MW) (v0 : Nat) (v1 : Int32) (v2 : Int32) (v4 : Int32) (v5 : Int32), f_X5_putItem_95 fu lr60 w v0 v1 v2 v4 v5 = some w' → JW p l e rmX5_putItem s m args below meth c 6 D dA A E (MQ below (Qr D dA E none w' A) args s 0 0 A) 0 0 95 [(0, .ref v0), (1, .int v1), (2, .int v2), (4, .int v4), (5, .int v5)] [] w := by
    intro lr60 lh60 w v0 v1 v2 v4 v5 hf
    rw [f_X5_putItem_95] at hf
    refine J_iinc (pc := 95) C dX5_putItem_95 4 rfl (y := v5 + 1) rfl (by decide) hf (fun q => [(5, .int q), (0, .ref v0), (1, .int v1), (2, .int v2), (4, .int v4)]) (fun _ => rfl) (fun x15 hf => ?_)
    refine J_goto (pc := 98) C dX5_putItem_98 (tgt := 60) (by decide) ?_
    refine J_sub [1, 2, 3, 4, 0] (L1 := [(0, .ref v0), (1, .int v1), (2, .int v2), (4, .int v4), (5, .int x15)]) rfl ?_
    exact lh60 w v0 v1 v2 v4 x15 hf
  have B60 : ∀ (n : Nat) (w : MW) (v0 : Nat) (v1 : Int32) (v2 : Int32) (v4 : Int32) (v5 : Int32), f_X5_putItem_60 fu n w v0 v1 v2 v4 v5 = some w' → JW p l e rmX5_putItem s m args below meth c 6 D dA A E (MQ below (Qr D dA E none w' A) args s 0 0 A) 0 0 60 [(0, .ref v0), (1, .int v1), (2, .int v2), (4, .int v4), (5, .int v5)] [] w := by
    intro n
    induction n with
    | zero => intro w v0 v1 v2 v4 v5 hf; rw [f_X5_putItem_60] at hf; cases hf
    | succ n ih =>
      intro w v0 v1 v2 v4 v5 hf
      rw [f_X5_putItem_60] at hf
      refine J_iload (pc := 60) C dX5_putItem_60 4 rfl ?_
      refine J_iload (pc := 62) C dX5_putItem_62 3 rfl ?_
      refine J_icmp_gt (pc := 64) C dX5_putItem_64 (tgt := 101) (by decide) hf (fun _ hf => ?_) (fun _ hf => ?_)
      · exact J_vret (pc := 101) C rfl dX5_putItem_101 hf
      · refine J_aload_n (pc := 67) C dX5_putItem_67 rfl 0 rfl ?_
        refine J_getI (pc := 68) C dX5_putItem_68 (ci := 5) (k0 := 7) rfl iX5 (by decide) k_307 hf (fun x10 hf => ?_)
        refine J_if_ne (pc := 71) C dX5_putItem_71 (tgt := 101) (by decide) hf (fun _ hf => ?_) (fun _ hf => ?_)
        · exact J_vret (pc := 101) C rfl dX5_putItem_101 hf
        · refine J_aload_n (pc := 74) C dX5_putItem_74 rfl 0 rfl ?_
          refine J_getR (pc := 75) C dX5_putItem_75 (ci := 5) (k0 := 1) rfl iX5 (by decide) k_301 hf (fun x11 hf => ?_)
          refine J_iload_n (pc := 78) C dX5_putItem_78 rfl 1 rfl ?_
          refine J_iload (pc := 79) C dX5_putItem_79 4 rfl ?_
          obtain ⟨q12, h13, hf⟩ := bind_ok hf
          obtain ⟨_, g14, h13⟩ := cl_spec h13
          refine J_cV (S := []) (pc := 81) C dX5_putItem_81 (c_X7_putKey _ _ _ _ _ h13) k_555 ys_X7_putKey ⟨Nat.le_of_ble_eq_true rfl, Nat.le_of_ble_eq_true rfl⟩ ⟨Nat.le_of_ble_eq_true rfl, Nat.le_of_ble_eq_true rfl⟩ g14 rfl rfl (fun _ => Nat.le_of_ble_eq_true rfl) ?_
          refine J_bipush (pc := 84) C dX5_putItem_84 (v := -4) (by decide) ?_
          refine J_icmp_ne (pc := 86) C dX5_putItem_86 (tgt := 95) (by decide) hf (fun _ hf => ?_) (fun _ hf => ?_)
          · refine J_sub [0, 1, 2, 3, 4] (L1 := [(0, .ref v0), (1, .int v1), (2, .int v2), (4, .int v4), (5, .int v5)]) rfl ?_
            exact B95 (f_X5_putItem_60 fu n) ih q12.2 v0 v1 v2 v4 v5 hf
          · refine J_aload_n (pc := 89) C dX5_putItem_89 rfl 0 rfl ?_
            refine J_iconst (pc := 90) C dX5_putItem_90 (v := 3) (by decide) ?_
            refine J_iload_n (pc := 91) C dX5_putItem_91 rfl 2 rfl ?_
            obtain ⟨q16, h17, hf⟩ := bind_ok hf
            obtain ⟨_, g18, h17⟩ := cl_spec h17
            refine J_cV (S := []) (pc := 92) C dX5_putItem_92 (c_X5_fail _ _ _ _ h17) k_530 ys_X5_fail ⟨Nat.le_of_ble_eq_true rfl, Nat.le_of_ble_eq_true rfl⟩ ⟨Nat.le_of_ble_eq_true rfl, Nat.le_of_ble_eq_true rfl⟩ g18 rfl rfl (fun _ => Nat.le_of_ble_eq_true rfl) ?_
            refine J_sub [0, 1, 2, 3, 4] (L1 := [(0, .ref v0), (1, .int v1), (2, .int v2), (4, .int v4), (5, .int v5)]) rfl ?_
            exact B95 (f_X5_putItem_60 fu n) ih q16 v0 v1 v2 v4 v5 hf
  rw [f_X5_putItem] at hf
  refine J_sub [0, 1] (L1 := [(0, .ref v0), (1, .int v1)]) rfl ?_
  refine J_aload_n (pc := 0) C dX5_putItem_0 rfl 0 rfl ?_
  refine J_getI (pc := 1) C dX5_putItem_1 (ci := 5) (k0 := 5) rfl iX5 (by decide) k_305 hf (fun x1 hf => ?_)
  refine J_istore_n (pc := 4) C dX5_putItem_4 rfl (by decide) hf (fun q => [(2, .int q), (0, .ref v0), (1, .int v1)]) (fun _ => rfl) (fun x2 hf => ?_)
  refine J_aload_n (pc := 5) C dX5_putItem_5 rfl 1 rfl ?_
  refine J_sipush (pc := 6) C dX5_putItem_6 (v := 9999) (by decide) ?_
  obtain ⟨q3, h4, hf⟩ := bind_ok hf
  obtain ⟨_, g5, h4⟩ := cl_spec h4
  refine J_cV (S := []) (pc := 9) C dX5_putItem_9 (c_X5_takeNumber _ _ _ _ h4) k_547 ys_X5_takeNumber ⟨Nat.le_of_ble_eq_true rfl, Nat.le_of_ble_eq_true rfl⟩ ⟨Nat.le_of_ble_eq_true rfl, Nat.le_of_ble_eq_true rfl⟩ g5 rfl rfl (fun _ => Nat.le_of_ble_eq_true rfl) ?_
  refine J_istore_n (pc := 12) C dX5_putItem_12 rfl (by decide) hf (fun q => [(3, .int q), (2, .int x2), (0, .ref v0), (1, .int v1)]) (fun _ => rfl) (fun x6 hf => ?_)
  refine J_iload_n (pc := 13) C dX5_putItem_13 rfl 0 rfl ?_
  refine J_istore (pc := 14) C dX5_putItem_14 (by decide) hf (fun q => [(4, .int q), (3, .int x6), (2, .int x2), (0, .ref v0), (1, .int v1)]) (fun _ => rfl) (fun x7 hf => ?_)
  refine J_aload_n (pc := 16) C dX5_putItem_16 rfl 3 rfl ?_
  refine J_getI (pc := 17) C dX5_putItem_17 (ci := 5) (k0 := 4) rfl iX5 (by decide) k_304 hf (fun x8 hf => ?_)
  refine J_bipush (pc := 20) C dX5_putItem_20 (v := 45) (by decide) ?_
  refine J_icmp_ne (pc := 22) C dX5_putItem_22 (tgt := 57) (by decide) hf (fun _ hf => ?_) (fun _ hf => ?_)
  · refine J_iload_n (pc := 57) C dX5_putItem_57 rfl 1 rfl ?_
    refine J_istore (pc := 58) C dX5_putItem_58 (by decide) hf (fun q => [(5, .int q), (4, .int x7), (3, .int x6), (2, .int x2), (0, .ref v0), (1, .int v1)]) (fun _ => rfl) (fun x9 hf => ?_)
    refine J_sub [4, 5, 3, 1, 0] (L1 := [(0, .ref v0), (1, .int v1), (2, .int x2), (4, .int x7), (5, .int x9)]) rfl ?_
    exact B60 fu q3.2 v0 v1 x2 x7 x9 hf
  · refine J_aload_n (pc := 25) C dX5_putItem_25 rfl 3 rfl ?_
    obtain ⟨q19, h20, hf⟩ := bind_ok hf
    obtain ⟨_, g21, h20⟩ := cl_spec h20
    refine J_cV (S := []) (pc := 26) C dX5_putItem_26 (c_X5_advance _ _ _ h20) k_438 ys_X5_advance ⟨Nat.le_of_ble_eq_true rfl, Nat.le_of_ble_eq_true rfl⟩ ⟨Nat.le_of_ble_eq_true rfl, Nat.le_of_ble_eq_true rfl⟩ g21 rfl rfl (fun _ => Nat.le_of_ble_eq_true rfl) ?_
    refine J_aload_n (pc := 29) C dX5_putItem_29 rfl 3 rfl ?_
    refine J_getI (pc := 30) C dX5_putItem_30 (ci := 5) (k0 := 5) rfl iX5 (by decide) k_305 hf (fun x22 hf => ?_)
    refine J_istore (pc := 33) C dX5_putItem_33 (by decide) hf (fun q => [(5, .int q), (4, .int x7), (3, .int x6), (2, .int x2), (0, .ref v0), (1, .int v1)]) (fun _ => rfl) (fun x23 hf => ?_)
    refine J_aload_n (pc := 35) C dX5_putItem_35 rfl 4 rfl ?_
    refine J_sipush (pc := 36) C dX5_putItem_36 (v := 9999) (by decide) ?_
    obtain ⟨q24, h25, hf⟩ := bind_ok hf
    obtain ⟨_, g26, h25⟩ := cl_spec h25
    refine J_cV (S := []) (pc := 39) C dX5_putItem_39 (c_X5_takeNumber _ _ _ _ h25) k_547 ys_X5_takeNumber ⟨Nat.le_of_ble_eq_true rfl, Nat.le_of_ble_eq_true rfl⟩ ⟨Nat.le_of_ble_eq_true rfl, Nat.le_of_ble_eq_true rfl⟩ g26 rfl rfl (fun _ => Nat.le_of_ble_eq_true rfl) ?_
    refine J_istore (pc := 42) C dX5_putItem_42 (by decide) hf (fun q => [(4, .int q), (5, .int x23), (3, .int x6), (2, .int x2), (0, .ref v0), (1, .int v1)]) (fun _ => rfl) (fun x27 hf => ?_)
    refine J_iload (pc := 44) C dX5_putItem_44 0 rfl ?_
    refine J_iload_n (pc := 46) C dX5_putItem_46 rfl 2 rfl ?_
    refine J_icmp_ge (pc := 47) C dX5_putItem_47 (tgt := 57) (by decide) hf (fun _ hf => ?_) (fun _ hf => ?_)
    · refine J_iload_n (pc := 57) C dX5_putItem_57 rfl 2 rfl ?_
      refine J_istore (pc := 58) C dX5_putItem_58 (by decide) hf (fun q => [(5, .int q), (4, .int x27), (3, .int x6), (2, .int x2), (0, .ref v0), (1, .int v1)]) (fun _ => rfl) (fun x28 hf => ?_)
      refine J_sub [4, 5, 3, 1, 0] (L1 := [(0, .ref v0), (1, .int v1), (2, .int x2), (4, .int x27), (5, .int x28)]) rfl ?_
      exact B60 fu q24.2 v0 v1 x2 x27 x28 hf
    · refine J_aload_n (pc := 50) C dX5_putItem_50 rfl 4 rfl ?_
      refine J_iconst (pc := 51) C dX5_putItem_51 (v := 2) (by decide) ?_
      refine J_iload (pc := 52) C dX5_putItem_52 1 rfl ?_
      obtain ⟨q29, h30, hf⟩ := bind_ok hf
      obtain ⟨_, g31, h30⟩ := cl_spec h30
      refine J_cV (S := []) (pc := 54) C dX5_putItem_54 (c_X5_fail _ _ _ _ h30) k_530 ys_X5_fail ⟨Nat.le_of_ble_eq_true rfl, Nat.le_of_ble_eq_true rfl⟩ ⟨Nat.le_of_ble_eq_true rfl, Nat.le_of_ble_eq_true rfl⟩ g31 rfl rfl (fun _ => Nat.le_of_ble_eq_true rfl) ?_
      refine J_iload_n (pc := 57) C dX5_putItem_57 rfl 2 rfl ?_
      refine J_istore (pc := 58) C dX5_putItem_58 (by decide) hf (fun q => [(5, .int q), (4, .int x27), (3, .int x6), (2, .int x2), (0, .ref v0), (1, .int v1)]) (fun _ => rfl) (fun x32 hf => ?_)
      refine J_sub [4, 5, 3, 1, 0] (L1 := [(0, .ref v0), (1, .int v1), (2, .int x2), (4, .int x27), (5, .int x32)]) rfl ?_
      exact B60 fu q29 v0 v1 x2 x27 x32 hf
set_option maxRecDepth 100000 in
set_option maxHeartbeats 4000000 in
theorem c_X7_markStretch {l : Launch} {D : va_G} {dA : FieldType → ClassId} (fu : Nat) (w : MW) (v0 : Nat) (v1 : Int32) (v2 : Int32) (v3 : Int32) (v4 : Int32) {rr : Int32} {w' : MW} (hf : f_X7_markStretch fu w v0 v1 v2 v3 v4 = some (rr, w')) : CT l D dA yX7_markStretch cX7_markStretch 7 (some .int) rmX7_markStretch [.ref v0, .int v1, .int v2, .int v3, .int v4] w (some (.int rr)) w' := by
  refine J_met (by decide) rfl (Nat.le_of_ble_eq_true rfl) (fun p e s m args below meth c A E C => ?_)
  have B42 : ∀ (w : MW) (s0 : Nat) (s1 : Int32) (s2 : Int32) (s3 : Int32), f_X7_markStretch_42 fu w s0 s1 s2 s3 = some (rr, w') → JW p l e rmX7_markStretch s m args below meth c 7 D dA A E (MQ below (Qr D dA E (some (.int rr)) w' A) args s 0 0 A) 0 0 42 [] [.int s3, .int s2, .int s1, .ref s0] w := by
    intro w s0 s1 s2 s3 hf
    rw [f_X7_markStretch_42] at hf
    obtain ⟨q5, h6, hf⟩ := bind_ok hf
    obtain ⟨_, g7, h6⟩ := cl_spec h6
    refine J_cV (S := []) (pc := 42) C dX7_markStretch_42 (c_X0_markBetween _ _ _ _ _ _ h6) k_595 ys_X0_markBetween ⟨Nat.le_of_ble_eq_true rfl, Nat.le_of_ble_eq_true rfl⟩ ⟨Nat.le_of_ble_eq_true rfl, Nat.le_of_ble_eq_true rfl⟩ g7 rfl rfl (fun _ => Nat.le_of_ble_eq_true rfl) ?_
    refine J_istore (pc := 45) C dX7_markStretch_45 (by decide) hf (fun q => [(6, .int q)]) (fun _ => rfl) (fun x8 hf => ?_)
    refine J_iload (pc := 47) C dX7_markStretch_47 0 rfl ?_
    refine J_if_ne (pc := 49) C dX7_markStretch_49 (tgt := 57) (by decide) hf (fun _ hf => ?_) (fun _ hf => ?_)
    · refine J_iload (pc := 57) C dX7_markStretch_57 0 rfl ?_
      exact J_iret (pc := 59) C  rfl rfl dX7_markStretch_59 hf
    · refine J_bipush (pc := 52) C dX7_markStretch_52 (v := -2) (by decide) ?_
      refine J_goto (pc := 54) C dX7_markStretch_54 (tgt := 59) (by decide) ?_
      exact J_iret (pc := 59) C  rfl rfl dX7_markStretch_59 hf
  rw [f_X7_markStretch] at hf
  refine J_sub [0, 1, 2, 3, 4] (L1 := [(0, .ref v0), (1, .int v1), (2, .int v2), (3, .int v3), (4, .int v4)]) rfl ?_
  refine J_aload_n (pc := 0) C dX7_markStretch_0 rfl 0 rfl ?_
  refine J_iload_n (pc := 1) C dX7_markStretch_1 rfl 1 rfl ?_
  obtain ⟨q1, h2, hf⟩ := bind_ok hf
  obtain ⟨_, g3, h2⟩ := cl_spec h2
  refine J_cV (S := []) (pc := 2) C dX7_markStretch_2 (c_X7_heapAt _ _ _ h2) k_559 ys_X7_heapAt ⟨Nat.le_of_ble_eq_true rfl, Nat.le_of_ble_eq_true rfl⟩ ⟨Nat.le_of_ble_eq_true rfl, Nat.le_of_ble_eq_true rfl⟩ g3 rfl rfl (fun _ => Nat.le_of_ble_eq_true rfl) ?_
  cases q1 with
  | none =>
    refine J_astoreN (pc := 5) C dX7_markStretch_5 (by decide) [(5, .null), (0, .ref v0), (1, .int v1), (2, .int v2), (3, .int v3), (4, .int v4)] rfl ?_
    refine J_aloadN (pc := 7) C dX7_markStretch_7 0 rfl ?_
    refine J_ifnullN (pc := 9) C dX7_markStretch_9 (tgt := 26) (by decide) ?_
    refine J_iconst (pc := 26) C dX7_markStretch_26 (v := -1) (by decide) ?_
    exact J_iret (pc := 27) C  rfl rfl dX7_markStretch_27 hf
  | some b4 =>
    refine J_astore (pc := 5) C dX7_markStretch_5 (by decide) [(5, .ref b4), (0, .ref v0), (1, .int v1), (2, .int v2), (3, .int v3), (4, .int v4)] rfl ?_
    refine J_aload (pc := 7) C dX7_markStretch_7 0 rfl ?_
    refine J_ifnull (pc := 9) C dX7_markStretch_9 ?_
    refine J_iload_n (pc := 12) C dX7_markStretch_12 rfl 3 rfl ?_
    refine J_cSN (S := []) (pc := 13) C dX7_markStretch_13 (c_X10_isKey _ _ rfl) n_563 ys_X10_isKey ⟨Nat.le_of_ble_eq_true rfl, Nat.le_of_ble_eq_true rfl⟩ ⟨Nat.le_of_ble_eq_true rfl, Nat.le_of_ble_eq_true rfl⟩ rfl rfl (fun _ => Nat.le_of_ble_eq_true rfl) ?_
    refine J_if_eq (pc := 16) C dX7_markStretch_16 (tgt := 26) (by decide) hf (fun _ hf => ?_) (fun _ hf => ?_)
    · refine J_iconst (pc := 26) C dX7_markStretch_26 (v := -1) (by decide) ?_
      exact J_iret (pc := 27) C  rfl rfl dX7_markStretch_27 hf
    · refine J_iload_n (pc := 19) C dX7_markStretch_19 rfl 4 rfl ?_
      refine J_cSN (S := []) (pc := 20) C dX7_markStretch_20 (c_X10_isKey _ _ rfl) n_563 ys_X10_isKey ⟨Nat.le_of_ble_eq_true rfl, Nat.le_of_ble_eq_true rfl⟩ ⟨Nat.le_of_ble_eq_true rfl, Nat.le_of_ble_eq_true rfl⟩ rfl rfl (fun _ => Nat.le_of_ble_eq_true rfl) ?_
      refine J_if_ne (pc := 23) C dX7_markStretch_23 (tgt := 28) (by decide) hf (fun _ hf => ?_) (fun _ hf => ?_)
      · refine J_aload (pc := 28) C dX7_markStretch_28 0 rfl ?_
        refine J_iload_n (pc := 30) C dX7_markStretch_30 rfl 3 rfl ?_
        refine J_iload_n (pc := 31) C dX7_markStretch_31 rfl 4 rfl ?_
        refine J_iload (pc := 32) C dX7_markStretch_32 5 rfl ?_
        refine J_if_eq (pc := 34) C dX7_markStretch_34 (tgt := 41) (by decide) hf (fun _ hf => ?_) (fun _ hf => ?_)
        · refine J_iconst (pc := 41) C dX7_markStretch_41 (v := 0) (by decide) ?_
          refine J_sub [] (L1 := []) rfl ?_
          exact B42 w b4 v2 v3 (0 : Int32) hf
        · refine J_iconst (pc := 37) C dX7_markStretch_37 (v := 1) (by decide) ?_
          refine J_goto (pc := 38) C dX7_markStretch_38 (tgt := 42) (by decide) ?_
          refine J_sub [] (L1 := []) rfl ?_
          exact B42 w b4 v2 v3 (1 : Int32) hf
      · refine J_iconst (pc := 26) C dX7_markStretch_26 (v := -1) (by decide) ?_
        exact J_iret (pc := 27) C  rfl rfl dX7_markStretch_27 hf
set_option maxRecDepth 100000 in
set_option maxHeartbeats 4000000 in
theorem c_X7_cutAbove {l : Launch} {D : va_G} {dA : FieldType → ClassId} (fu : Nat) (w : MW) (v0 : Nat) (v1 : Int32) (v2 : Int32) (v3 : Int32) {rr : Int32} {w' : MW} (hf : f_X7_cutAbove fu w v0 v1 v2 v3 = some (rr, w')) : CT l D dA yX7_cutAbove cX7_cutAbove 8 (some .int) rmX7_cutAbove [.ref v0, .int v1, .int v2, .int v3] w (some (.int rr)) w' := by
  refine J_met (by decide) rfl (Nat.le_of_ble_eq_true rfl) (fun p e s m args below meth c A E C => ?_)
  rw [f_X7_cutAbove] at hf
  refine J_sub [0, 1, 2, 3] (L1 := [(0, .ref v0), (1, .int v1), (2, .int v2), (3, .int v3)]) rfl ?_
  refine J_aload_n (pc := 0) C dX7_cutAbove_0 rfl 0 rfl ?_
  refine J_iload_n (pc := 1) C dX7_cutAbove_1 rfl 1 rfl ?_
  obtain ⟨q1, h2, hf⟩ := bind_ok hf
  obtain ⟨_, g3, h2⟩ := cl_spec h2
  refine J_cV (S := []) (pc := 2) C dX7_cutAbove_2 (c_X7_heapAt _ _ _ h2) k_559 ys_X7_heapAt ⟨Nat.le_of_ble_eq_true rfl, Nat.le_of_ble_eq_true rfl⟩ ⟨Nat.le_of_ble_eq_true rfl, Nat.le_of_ble_eq_true rfl⟩ g3 rfl rfl (fun _ => Nat.le_of_ble_eq_true rfl) ?_
  cases q1 with
  | none =>
    refine J_astoreN (pc := 5) C dX7_cutAbove_5 (by decide) [(4, .null), (0, .ref v0), (1, .int v1), (2, .int v2), (3, .int v3)] rfl ?_
    refine J_aload_n (pc := 7) C dX7_cutAbove_7 rfl 1 rfl ?_
    refine J_iload_n (pc := 8) C dX7_cutAbove_8 rfl 4 rfl ?_
    obtain ⟨q5, h6, hf⟩ := bind_ok hf
    obtain ⟨_, g7, h6⟩ := cl_spec h6
    refine J_cV (S := []) (pc := 9) C dX7_cutAbove_9 (c_X7_heapAt _ _ _ h6) k_559 ys_X7_heapAt ⟨Nat.le_of_ble_eq_true rfl, Nat.le_of_ble_eq_true rfl⟩ ⟨Nat.le_of_ble_eq_true rfl, Nat.le_of_ble_eq_true rfl⟩ g7 rfl rfl (fun _ => Nat.le_of_ble_eq_true rfl) ?_
    cases q5 with
    | none =>
      refine J_astoreN (pc := 12) C dX7_cutAbove_12 (by decide) [(5, .null), (4, .null), (0, .ref v0), (1, .int v1), (2, .int v2), (3, .int v3)] rfl ?_
      refine J_aloadN (pc := 14) C dX7_cutAbove_14 1 rfl ?_
      refine J_ifnullN (pc := 16) C dX7_cutAbove_16 (tgt := 36) (by decide) ?_
      refine J_iconst (pc := 36) C dX7_cutAbove_36 (v := -1) (by decide) ?_
      exact J_iret (pc := 37) C  rfl rfl dX7_cutAbove_37 hf
    | some b8 =>
      refine J_astore (pc := 12) C dX7_cutAbove_12 (by decide) [(5, .ref b8), (4, .null), (0, .ref v0), (1, .int v1), (2, .int v2), (3, .int v3)] rfl ?_
      refine J_aloadN (pc := 14) C dX7_cutAbove_14 1 rfl ?_
      refine J_ifnullN (pc := 16) C dX7_cutAbove_16 (tgt := 36) (by decide) ?_
      refine J_iconst (pc := 36) C dX7_cutAbove_36 (v := -1) (by decide) ?_
      exact J_iret (pc := 37) C  rfl rfl dX7_cutAbove_37 hf
  | some b4 =>
    refine J_astore (pc := 5) C dX7_cutAbove_5 (by decide) [(4, .ref b4), (0, .ref v0), (1, .int v1), (2, .int v2), (3, .int v3)] rfl ?_
    refine J_aload_n (pc := 7) C dX7_cutAbove_7 rfl 1 rfl ?_
    refine J_iload_n (pc := 8) C dX7_cutAbove_8 rfl 4 rfl ?_
    obtain ⟨q9, h10, hf⟩ := bind_ok hf
    obtain ⟨_, g11, h10⟩ := cl_spec h10
    refine J_cV (S := []) (pc := 9) C dX7_cutAbove_9 (c_X7_heapAt _ _ _ h10) k_559 ys_X7_heapAt ⟨Nat.le_of_ble_eq_true rfl, Nat.le_of_ble_eq_true rfl⟩ ⟨Nat.le_of_ble_eq_true rfl, Nat.le_of_ble_eq_true rfl⟩ g11 rfl rfl (fun _ => Nat.le_of_ble_eq_true rfl) ?_
    cases q9 with
    | none =>
      refine J_astoreN (pc := 12) C dX7_cutAbove_12 (by decide) [(5, .null), (4, .ref b4), (0, .ref v0), (1, .int v1), (2, .int v2), (3, .int v3)] rfl ?_
      refine J_aload (pc := 14) C dX7_cutAbove_14 1 rfl ?_
      refine J_ifnull (pc := 16) C dX7_cutAbove_16 ?_
      refine J_aloadN (pc := 19) C dX7_cutAbove_19 0 rfl ?_
      refine J_ifnullN (pc := 21) C dX7_cutAbove_21 (tgt := 36) (by decide) ?_
      refine J_iconst (pc := 36) C dX7_cutAbove_36 (v := -1) (by decide) ?_
      exact J_iret (pc := 37) C  rfl rfl dX7_cutAbove_37 hf
    | some b12 =>
      refine J_astore (pc := 12) C dX7_cutAbove_12 (by decide) [(5, .ref b12), (4, .ref b4), (0, .ref v0), (1, .int v1), (2, .int v2), (3, .int v3)] rfl ?_
      refine J_aload (pc := 14) C dX7_cutAbove_14 1 rfl ?_
      refine J_ifnull (pc := 16) C dX7_cutAbove_16 ?_
      refine J_aload (pc := 19) C dX7_cutAbove_19 0 rfl ?_
      refine J_ifnull (pc := 21) C dX7_cutAbove_21 ?_
      refine J_iload_n (pc := 24) C dX7_cutAbove_24 rfl 3 rfl ?_
      refine J_iload_n (pc := 25) C dX7_cutAbove_25 rfl 5 rfl ?_
      refine J_icmp_eq (pc := 26) C dX7_cutAbove_26 (tgt := 36) (by decide) hf (fun _ hf => ?_) (fun _ hf => ?_)
      · refine J_iconst (pc := 36) C dX7_cutAbove_36 (v := -1) (by decide) ?_
        exact J_iret (pc := 37) C  rfl rfl dX7_cutAbove_37 hf
      · refine J_iload_n (pc := 29) C dX7_cutAbove_29 rfl 4 rfl ?_
        refine J_cSN (S := []) (pc := 30) C dX7_cutAbove_30 (c_X10_isKey _ _ rfl) n_563 ys_X10_isKey ⟨Nat.le_of_ble_eq_true rfl, Nat.le_of_ble_eq_true rfl⟩ ⟨Nat.le_of_ble_eq_true rfl, Nat.le_of_ble_eq_true rfl⟩ rfl rfl (fun _ => Nat.le_of_ble_eq_true rfl) ?_
        refine J_if_ne (pc := 33) C dX7_cutAbove_33 (tgt := 38) (by decide) hf (fun _ hf => ?_) (fun _ hf => ?_)
        · refine J_aload (pc := 38) C dX7_cutAbove_38 1 rfl ?_
          refine J_iload_n (pc := 40) C dX7_cutAbove_40 rfl 4 rfl ?_
          obtain ⟨q13, h14, hf⟩ := bind_ok hf
          obtain ⟨_, g15, h14⟩ := cl_spec h14
          refine J_cV (S := []) (pc := 41) C dX7_cutAbove_41 (c_X0_notAbove _ _ _ _ h14) k_607 ys_X0_notAbove ⟨Nat.le_of_ble_eq_true rfl, Nat.le_of_ble_eq_true rfl⟩ ⟨Nat.le_of_ble_eq_true rfl, Nat.le_of_ble_eq_true rfl⟩ g15 rfl rfl (fun _ => Nat.le_of_ble_eq_true rfl) ?_
          refine J_istore (pc := 44) C dX7_cutAbove_44 (by decide) hf (fun q => [(6, .int q), (5, .ref b12), (4, .ref b4), (0, .ref v0), (1, .int v1), (2, .int v2), (3, .int v3)]) (fun _ => rfl) (fun x16 hf => ?_)
          refine J_aload (pc := 46) C dX7_cutAbove_46 2 rfl ?_
          refine J_getIN (pc := 48) C dX7_cutAbove_48 (ci := 0) (k0 := 1) rfl iX0 (by decide) n_186 hf (fun x17 hf => ?_)
          refine J_iload (pc := 51) C dX7_cutAbove_51 0 rfl ?_
          refine J_isub (pc := 53) C dX7_cutAbove_53 ?_
          refine J_istore (pc := 54) C dX7_cutAbove_54 (by decide) hf (fun q => [(7, .int q), (6, .int x16), (5, .ref b12), (4, .ref b4), (0, .ref v0), (1, .int v1), (2, .int v2), (3, .int v3)]) (fun _ => rfl) (fun x18 hf => ?_)
          refine J_iload (pc := 56) C dX7_cutAbove_56 0 rfl ?_
          refine J_if_ne (pc := 58) C dX7_cutAbove_58 (tgt := 64) (by decide) hf (fun _ hf => ?_) (fun _ hf => ?_)
          · refine J_aload (pc := 64) C dX7_cutAbove_64 2 rfl ?_
            refine J_getIN (pc := 66) C dX7_cutAbove_66 (ci := 0) (k0 := 1) rfl iX0 (by decide) n_186 hf (fun x19 hf => ?_)
            refine J_if_le (pc := 69) C dX7_cutAbove_69 (tgt := 75) (by decide) hf (fun _ hf => ?_) (fun _ hf => ?_)
            · refine J_aload (pc := 75) C dX7_cutAbove_75 3 rfl ?_
              refine J_iload (pc := 77) C dX7_cutAbove_77 1 rfl ?_
              refine J_iload (pc := 79) C dX7_cutAbove_79 0 rfl ?_
              refine J_aload (pc := 81) C dX7_cutAbove_81 2 rfl ?_
              obtain ⟨q20, h21, hf⟩ := bind_ok hf
              obtain ⟨_, g22, h21⟩ := cl_spec h21
              refine J_cV (S := []) (pc := 83) C dX7_cutAbove_83 (c_X0_giveStretch _ _ _ _ _ _ h21) k_608 ys_X0_giveStretch ⟨Nat.le_of_ble_eq_true rfl, Nat.le_of_ble_eq_true rfl⟩ ⟨Nat.le_of_ble_eq_true rfl, Nat.le_of_ble_eq_true rfl⟩ g22 rfl rfl (fun _ => Nat.le_of_ble_eq_true rfl) ?_
              refine J_iload (pc := 86) C dX7_cutAbove_86 0 rfl ?_
              exact J_iret (pc := 88) C  rfl rfl dX7_cutAbove_88 hf
            · refine J_bipush (pc := 72) C dX7_cutAbove_72 (v := -3) (by decide) ?_
              exact J_iret (pc := 74) C  rfl rfl dX7_cutAbove_74 hf
          · refine J_bipush (pc := 61) C dX7_cutAbove_61 (v := -2) (by decide) ?_
            exact J_iret (pc := 63) C  rfl rfl dX7_cutAbove_63 hf
        · refine J_iconst (pc := 36) C dX7_cutAbove_36 (v := -1) (by decide) ?_
          exact J_iret (pc := 37) C  rfl rfl dX7_cutAbove_37 hf
set_option maxRecDepth 100000 in
set_option maxHeartbeats 4000000 in
theorem c_X7_whyNotJoin {l : Launch} {D : va_G} {dA : FieldType → ClassId} (w : MW) (v0 : Nat) (v1 : Nat) (v2 : Nat) {rr : Int32} (hf : f_X7_whyNotJoin w v0 v1 v2 = some rr) : CT l D dA yX7_whyNotJoin cX7_whyNotJoin 3 (some .int) rmX7_whyNotJoin [.ref v0, .ref v1, .ref v2] w (some (.int rr)) w := by
  refine J_met (by decide) rfl (Nat.le_of_ble_eq_true rfl) (fun p e s m args below meth c A E C => ?_)
  have B38 : ∀ (v1 : Nat) (v2 : Nat), f_X7_whyNotJoin_38 w v1 v2 = some rr → JW p l e rmX7_whyNotJoin s m args below meth c 3 D dA A E (MQ below (Qr D dA E (some (.int rr)) w A) args s 0 0 A) 0 0 38 [(1, .ref v1), (2, .ref v2)] [] w := by
    intro v1 v2 hf
    rw [f_X7_whyNotJoin_38] at hf
    refine J_aload_n (pc := 38) C dX7_whyNotJoin_38 rfl 0 rfl ?_
    refine J_getIN (pc := 39) C dX7_whyNotJoin_39 (ci := 0) (k0 := 1) rfl iX0 (by decide) n_186 hf (fun x3 hf => ?_)
    refine J_aload_n (pc := 42) C dX7_whyNotJoin_42 rfl 1 rfl ?_
    refine J_getIN (pc := 43) C dX7_whyNotJoin_43 (ci := 0) (k0 := 1) rfl iX0 (by decide) n_186 hf (fun x4 hf => ?_)
    refine J_iadd (pc := 46) C dX7_whyNotJoin_46 ?_
    refine J_bipush (pc := 47) C dX7_whyNotJoin_47 (v := 60) (by decide) ?_
    refine J_icmp_le (pc := 49) C dX7_whyNotJoin_49 (tgt := 57) (by decide) hf (fun _ hf => ?_) (fun _ hf => ?_)
    · refine J_iconst (pc := 57) C dX7_whyNotJoin_57 (v := 0) (by decide) ?_
      exact J_iretP (pc := 58) C  rfl rfl dX7_whyNotJoin_58 hf
    · refine J_bipush (pc := 52) C dX7_whyNotJoin_52 (v := -4) (by decide) ?_
      refine J_goto (pc := 54) C dX7_whyNotJoin_54 (tgt := 58) (by decide) ?_
      exact J_iretP (pc := 58) C  rfl rfl dX7_whyNotJoin_58 hf
  rw [f_X7_whyNotJoin] at hf
  refine J_sub [0, 1, 2] (L1 := [(0, .ref v0), (1, .ref v1), (2, .ref v2)]) rfl ?_
  refine J_aload_n (pc := 0) C dX7_whyNotJoin_0 rfl 2 rfl ?_
  refine J_getIN (pc := 1) C dX7_whyNotJoin_1 (ci := 0) (k0 := 1) rfl iX0 (by decide) n_186 hf (fun x1 hf => ?_)
  refine J_if_ne (pc := 4) C dX7_whyNotJoin_4 (tgt := 10) (by decide) hf (fun _ hf => ?_) (fun _ hf => ?_)
  · refine J_aload_n (pc := 10) C dX7_whyNotJoin_10 rfl 1 rfl ?_
    refine J_getIN (pc := 11) C dX7_whyNotJoin_11 (ci := 0) (k0 := 1) rfl iX0 (by decide) n_186 hf (fun x2 hf => ?_)
    refine J_if_le (pc := 14) C dX7_whyNotJoin_14 (tgt := 38) (by decide) hf (fun _ hf => ?_) (fun _ hf => ?_)
    · refine J_sub [1, 2] (L1 := [(1, .ref v1), (2, .ref v2)]) rfl ?_
      exact B38 v1 v2 hf
    · refine J_aload_n (pc := 17) C dX7_whyNotJoin_17 rfl 1 rfl ?_
      refine J_aload_n (pc := 18) C dX7_whyNotJoin_18 rfl 1 rfl ?_
      refine J_getIN (pc := 19) C dX7_whyNotJoin_19 (ci := 0) (k0 := 1) rfl iX0 (by decide) n_186 hf (fun x5 hf => ?_)
      refine J_iconst (pc := 22) C dX7_whyNotJoin_22 (v := 1) (by decide) ?_
      refine J_isub (pc := 23) C dX7_whyNotJoin_23 ?_
      obtain ⟨q6, h7, hf⟩ := bind_ok hf
      obtain ⟨_, g8, h7⟩ := cl_spec h7
      refine J_cV (S := []) (pc := 24) C dX7_whyNotJoin_24 (c_X0_keyAt _ _ _ h7) k_624 ys_X0_keyAt ⟨Nat.le_of_ble_eq_true rfl, Nat.le_of_ble_eq_true rfl⟩ ⟨Nat.le_of_ble_eq_true rfl, Nat.le_of_ble_eq_true rfl⟩ g8 rfl rfl (fun _ => Nat.le_of_ble_eq_true rfl) ?_
      refine J_aload_n (pc := 27) C dX7_whyNotJoin_27 rfl 2 rfl ?_
      refine J_iconst (pc := 28) C dX7_whyNotJoin_28 (v := 0) (by decide) ?_
      obtain ⟨q9, h10, hf⟩ := bind_ok hf
      obtain ⟨_, g11, h10⟩ := cl_spec h10
      refine J_cV (S := [.int q6]) (pc := 29) C dX7_whyNotJoin_29 (c_X0_keyAt _ _ _ h10) k_624 ys_X0_keyAt ⟨Nat.le_of_ble_eq_true rfl, Nat.le_of_ble_eq_true rfl⟩ ⟨Nat.le_of_ble_eq_true rfl, Nat.le_of_ble_eq_true rfl⟩ g11 rfl rfl (fun _ => Nat.le_of_ble_eq_true rfl) ?_
      refine J_icmp_lt (pc := 32) C dX7_whyNotJoin_32 (tgt := 38) (by decide) hf (fun _ hf => ?_) (fun _ hf => ?_)
      · refine J_sub [1, 2] (L1 := [(1, .ref v1), (2, .ref v2)]) rfl ?_
        exact B38 v1 v2 hf
      · refine J_bipush (pc := 35) C dX7_whyNotJoin_35 (v := -3) (by decide) ?_
        exact J_iretP (pc := 37) C  rfl rfl dX7_whyNotJoin_37 hf
  · refine J_bipush (pc := 7) C dX7_whyNotJoin_7 (v := -2) (by decide) ?_
    exact J_iretP (pc := 9) C  rfl rfl dX7_whyNotJoin_9 hf
set_option maxRecDepth 100000 in
set_option maxHeartbeats 4000000 in
theorem c_X7_joinTo {l : Launch} {D : va_G} {dA : FieldType → ClassId} (fu : Nat) (w : MW) (v0 : Nat) (v1 : Int32) (v2 : Int32) {rr : Int32} {w' : MW} (hf : f_X7_joinTo fu w v0 v1 v2 = some (rr, w')) : CT l D dA yX7_joinTo cX7_joinTo 6 (some .int) rmX7_joinTo [.ref v0, .int v1, .int v2] w (some (.int rr)) w' := by
  refine J_met (by decide) rfl (Nat.le_of_ble_eq_true rfl) (fun p e s m args below meth c A E C => ?_)
  rw [f_X7_joinTo] at hf
  refine J_sub [0, 1, 2] (L1 := [(0, .ref v0), (1, .int v1), (2, .int v2)]) rfl ?_
  refine J_aload_n (pc := 0) C dX7_joinTo_0 rfl 0 rfl ?_
  refine J_iload_n (pc := 1) C dX7_joinTo_1 rfl 1 rfl ?_
  obtain ⟨q1, h2, hf⟩ := bind_ok hf
  obtain ⟨_, g3, h2⟩ := cl_spec h2
  refine J_cV (S := []) (pc := 2) C dX7_joinTo_2 (c_X7_heapAt _ _ _ h2) k_559 ys_X7_heapAt ⟨Nat.le_of_ble_eq_true rfl, Nat.le_of_ble_eq_true rfl⟩ ⟨Nat.le_of_ble_eq_true rfl, Nat.le_of_ble_eq_true rfl⟩ g3 rfl rfl (fun _ => Nat.le_of_ble_eq_true rfl) ?_
  cases q1 with
  | none =>
    refine J_astore_nN (pc := 5) C dX7_joinTo_5 rfl (by decide) [(3, .null), (0, .ref v0), (1, .int v1), (2, .int v2)] rfl ?_
    refine J_aload_n (pc := 6) C dX7_joinTo_6 rfl 1 rfl ?_
    refine J_iload_n (pc := 7) C dX7_joinTo_7 rfl 3 rfl ?_
    obtain ⟨q5, h6, hf⟩ := bind_ok hf
    obtain ⟨_, g7, h6⟩ := cl_spec h6
    refine J_cV (S := []) (pc := 8) C dX7_joinTo_8 (c_X7_heapAt _ _ _ h6) k_559 ys_X7_heapAt ⟨Nat.le_of_ble_eq_true rfl, Nat.le_of_ble_eq_true rfl⟩ ⟨Nat.le_of_ble_eq_true rfl, Nat.le_of_ble_eq_true rfl⟩ g7 rfl rfl (fun _ => Nat.le_of_ble_eq_true rfl) ?_
    cases q5 with
    | none =>
      refine J_astoreN (pc := 11) C dX7_joinTo_11 (by decide) [(4, .null), (3, .null), (0, .ref v0), (1, .int v1), (2, .int v2)] rfl ?_
      refine J_aload_nN (pc := 13) C dX7_joinTo_13 rfl 1 rfl ?_
      refine J_ifnullN (pc := 14) C dX7_joinTo_14 (tgt := 27) (by decide) ?_
      refine J_iconst (pc := 27) C dX7_joinTo_27 (v := -1) (by decide) ?_
      exact J_iret (pc := 28) C  rfl rfl dX7_joinTo_28 hf
    | some b8 =>
      refine J_astore (pc := 11) C dX7_joinTo_11 (by decide) [(4, .ref b8), (3, .null), (0, .ref v0), (1, .int v1), (2, .int v2)] rfl ?_
      refine J_aload_nN (pc := 13) C dX7_joinTo_13 rfl 1 rfl ?_
      refine J_ifnullN (pc := 14) C dX7_joinTo_14 (tgt := 27) (by decide) ?_
      refine J_iconst (pc := 27) C dX7_joinTo_27 (v := -1) (by decide) ?_
      exact J_iret (pc := 28) C  rfl rfl dX7_joinTo_28 hf
  | some b4 =>
    refine J_astore_n (pc := 5) C dX7_joinTo_5 rfl (by decide) [(3, .ref b4), (0, .ref v0), (1, .int v1), (2, .int v2)] rfl ?_
    refine J_aload_n (pc := 6) C dX7_joinTo_6 rfl 1 rfl ?_
    refine J_iload_n (pc := 7) C dX7_joinTo_7 rfl 3 rfl ?_
    obtain ⟨q9, h10, hf⟩ := bind_ok hf
    obtain ⟨_, g11, h10⟩ := cl_spec h10
    refine J_cV (S := []) (pc := 8) C dX7_joinTo_8 (c_X7_heapAt _ _ _ h10) k_559 ys_X7_heapAt ⟨Nat.le_of_ble_eq_true rfl, Nat.le_of_ble_eq_true rfl⟩ ⟨Nat.le_of_ble_eq_true rfl, Nat.le_of_ble_eq_true rfl⟩ g11 rfl rfl (fun _ => Nat.le_of_ble_eq_true rfl) ?_
    cases q9 with
    | none =>
      refine J_astoreN (pc := 11) C dX7_joinTo_11 (by decide) [(4, .null), (3, .ref b4), (0, .ref v0), (1, .int v1), (2, .int v2)] rfl ?_
      refine J_aload_n (pc := 13) C dX7_joinTo_13 rfl 1 rfl ?_
      refine J_ifnull (pc := 14) C dX7_joinTo_14 ?_
      refine J_aloadN (pc := 17) C dX7_joinTo_17 0 rfl ?_
      refine J_ifnullN (pc := 19) C dX7_joinTo_19 (tgt := 27) (by decide) ?_
      refine J_iconst (pc := 27) C dX7_joinTo_27 (v := -1) (by decide) ?_
      exact J_iret (pc := 28) C  rfl rfl dX7_joinTo_28 hf
    | some b12 =>
      refine J_astore (pc := 11) C dX7_joinTo_11 (by decide) [(4, .ref b12), (3, .ref b4), (0, .ref v0), (1, .int v1), (2, .int v2)] rfl ?_
      refine J_aload_n (pc := 13) C dX7_joinTo_13 rfl 1 rfl ?_
      refine J_ifnull (pc := 14) C dX7_joinTo_14 ?_
      refine J_aload (pc := 17) C dX7_joinTo_17 0 rfl ?_
      refine J_ifnull (pc := 19) C dX7_joinTo_19 ?_
      refine J_iload_n (pc := 22) C dX7_joinTo_22 rfl 3 rfl ?_
      refine J_iload_n (pc := 23) C dX7_joinTo_23 rfl 4 rfl ?_
      refine J_icmp_ne (pc := 24) C dX7_joinTo_24 (tgt := 29) (by decide) hf (fun _ hf => ?_) (fun _ hf => ?_)
      · refine J_aload_n (pc := 29) C dX7_joinTo_29 rfl 2 rfl ?_
        refine J_aload_n (pc := 30) C dX7_joinTo_30 rfl 1 rfl ?_
        refine J_aload (pc := 31) C dX7_joinTo_31 0 rfl ?_
        obtain ⟨q13, h14, hf⟩ := bind_ok hf
        obtain ⟨_, g15, h14⟩ := cl_spec h14
        refine J_cV (S := []) (pc := 33) C dX7_joinTo_33 (c_X7_whyNotJoin _ _ _ _ h14) k_620 ys_X7_whyNotJoin ⟨Nat.le_of_ble_eq_true rfl, Nat.le_of_ble_eq_true rfl⟩ ⟨Nat.le_of_ble_eq_true rfl, Nat.le_of_ble_eq_true rfl⟩ g15 rfl rfl (fun _ => Nat.le_of_ble_eq_true rfl) ?_
        refine J_istore (pc := 36) C dX7_joinTo_36 (by decide) hf (fun q => [(5, .int q), (4, .ref b12), (3, .ref b4), (0, .ref v0), (1, .int v1), (2, .int v2)]) (fun _ => rfl) (fun x16 hf => ?_)
        refine J_iload (pc := 38) C dX7_joinTo_38 0 rfl ?_
        refine J_if_eq (pc := 40) C dX7_joinTo_40 (tgt := 46) (by decide) hf (fun _ hf => ?_) (fun _ hf => ?_)
        · refine J_aload (pc := 46) C dX7_joinTo_46 1 rfl ?_
          refine J_iconst (pc := 48) C dX7_joinTo_48 (v := 0) (by decide) ?_
          refine J_aload (pc := 49) C dX7_joinTo_49 1 rfl ?_
          refine J_getIN (pc := 51) C dX7_joinTo_51 (ci := 0) (k0 := 1) rfl iX0 (by decide) n_186 hf (fun x17 hf => ?_)
          refine J_aload_n (pc := 54) C dX7_joinTo_54 rfl 2 rfl ?_
          obtain ⟨q18, h19, hf⟩ := bind_ok hf
          obtain ⟨_, g20, h19⟩ := cl_spec h19
          refine J_cV (S := []) (pc := 55) C dX7_joinTo_55 (c_X0_giveStretch _ _ _ _ _ _ h19) k_608 ys_X0_giveStretch ⟨Nat.le_of_ble_eq_true rfl, Nat.le_of_ble_eq_true rfl⟩ ⟨Nat.le_of_ble_eq_true rfl, Nat.le_of_ble_eq_true rfl⟩ g20 rfl rfl (fun _ => Nat.le_of_ble_eq_true rfl) ?_
          refine J_aload_n (pc := 58) C dX7_joinTo_58 rfl 2 rfl ?_
          refine J_getIN (pc := 59) C dX7_joinTo_59 (ci := 0) (k0 := 1) rfl iX0 (by decide) n_186 hf (fun x21 hf => ?_)
          exact J_iret (pc := 62) C  rfl rfl dX7_joinTo_62 hf
        · refine J_iload (pc := 43) C dX7_joinTo_43 0 rfl ?_
          exact J_iret (pc := 45) C  rfl rfl dX7_joinTo_45 hf
      · refine J_iconst (pc := 27) C dX7_joinTo_27 (v := -1) (by decide) ?_
        exact J_iret (pc := 28) C  rfl rfl dX7_joinTo_28 hf
set_option maxRecDepth 100000 in
set_option maxHeartbeats 4000000 in
theorem c_X9_endRun {l : Launch} {D : va_G} {dA : FieldType → ClassId} (fu : Nat) (w : MW) (v0 : Nat) (v1 : Int32) {w' : MW} (hf : f_X9_endRun fu w v0 v1 = some w') : CT l D dA yX9_endRun cX9_endRun 3 none rmX9_endRun [.ref v0, .int v1] w none w' := by
  refine J_met (by decide) rfl (Nat.le_of_ble_eq_true rfl) (fun p e s m args below meth c A E C => ?_)
  have B40 : ∀ (n : Nat) (w : MW) (v0 : Nat) (v2 : Int32), f_X9_endRun_40 fu n w v0 v2 = some w' → JW p l e rmX9_endRun s m args below meth c 3 D dA A E (MQ below (Qr D dA E none w' A) args s 0 0 A) 0 0 40 [(0, .ref v0), (2, .int v2)] [] w := by
    intro n
    induction n with
    | zero => intro w v0 v2 hf; rw [f_X9_endRun_40] at hf; cases hf
    | succ n ih =>
      intro w v0 v2 hf
      rw [f_X9_endRun_40] at hf
      refine J_iload_n (pc := 40) C dX9_endRun_40 rfl 1 rfl ?_
      refine J_iconst (pc := 41) C dX9_endRun_41 (v := 1) (by decide) ?_
      refine J_icmp_le (pc := 42) C dX9_endRun_42 (tgt := 62) (by decide) hf (fun _ hf => ?_) (fun _ hf => ?_)
      · exact J_vret (pc := 62) C rfl dX9_endRun_62 hf
      · refine J_aload_n (pc := 45) C dX9_endRun_45 rfl 0 rfl ?_
        refine J_dup (pc := 46) C dX9_endRun_46 rfl ?_
        refine J_getI (pc := 47) C dX9_endRun_47 (ci := 9) (k0 := 2) rfl iX9 (by decide) k_156 hf (fun x8 hf => ?_)
        refine J_iconst (pc := 50) C dX9_endRun_50 (v := 1) (by decide) ?_
        refine J_iadd (pc := 51) C dX9_endRun_51 ?_
        refine J_put (pc := 52) C dX9_endRun_52 (ci := 9) (k0 := 2) rfl iX9 tyX9 tyX9_ok nmX9 (by decide) k_156 rfl (ty := .int) (by decide +kernel) (fun _ => rfl) (fun _ => rfl) hf (fun w9 hf => ?_)
        refine J_iload_n (pc := 55) C dX9_endRun_55 rfl 1 rfl ?_
        refine J_iconst (pc := 56) C dX9_endRun_56 (v := 1) (by decide) ?_
        refine J_ishr (pc := 57) C dX9_endRun_57 ?_
        refine J_istore_n (pc := 58) C dX9_endRun_58 rfl (by decide) hf (fun q => [(2, .int q), (0, .ref v0)]) (fun _ => rfl) (fun x10 hf => ?_)
        refine J_goto (pc := 59) C dX9_endRun_59 (tgt := 40) (by decide) ?_
        refine J_sub [1, 0] (L1 := [(0, .ref v0), (2, .int x10)]) rfl ?_
        exact ih w9 v0 x10 hf
  rw [f_X9_endRun] at hf
  refine J_sub [0, 1] (L1 := [(0, .ref v0), (1, .int v1)]) rfl ?_
  refine J_iload_n (pc := 0) C dX9_endRun_0 rfl 1 rfl ?_
  refine J_iconst (pc := 1) C dX9_endRun_1 (v := 1) (by decide) ?_
  refine J_icmp_ge (pc := 2) C dX9_endRun_2 (tgt := 6) (by decide) hf (fun _ hf => ?_) (fun _ hf => ?_)
  · refine J_aload_n (pc := 6) C dX9_endRun_6 rfl 0 rfl ?_
    refine J_dup (pc := 7) C dX9_endRun_7 rfl ?_
    refine J_getI (pc := 8) C dX9_endRun_8 (ci := 9) (k0 := 0) rfl iX9 (by decide) k_152 hf (fun x1 hf => ?_)
    refine J_iconst (pc := 11) C dX9_endRun_11 (v := 1) (by decide) ?_
    refine J_iadd (pc := 12) C dX9_endRun_12 ?_
    refine J_put (pc := 13) C dX9_endRun_13 (ci := 9) (k0 := 0) rfl iX9 tyX9 tyX9_ok nmX9 (by decide) k_152 rfl (ty := .int) (by decide +kernel) (fun _ => rfl) (fun _ => rfl) hf (fun w2 hf => ?_)
    refine J_aload_n (pc := 16) C dX9_endRun_16 rfl 0 rfl ?_
    refine J_aload_n (pc := 17) C dX9_endRun_17 rfl 0 rfl ?_
    refine J_getI (pc := 18) C dX9_endRun_18 (ci := 9) (k0 := 3) rfl iX9 (by decide) k_159 hf (fun x3 hf => ?_)
    refine J_iload_n (pc := 21) C dX9_endRun_21 rfl 1 rfl ?_
    refine J_max (pc := 22) C dX9_endRun_22 k_644 k_645 k_88 k_646 (Nat.le_of_ble_eq_true rfl) (fun _ => Nat.le_of_ble_eq_true rfl) ⟨Nat.le_of_ble_eq_true rfl, Nat.le_of_ble_eq_true rfl⟩ ?_
    refine J_put (pc := 25) C dX9_endRun_25 (ci := 9) (k0 := 3) rfl iX9 tyX9 tyX9_ok nmX9 (by decide) k_159 rfl (ty := .int) (by decide +kernel) (fun _ => rfl) (fun _ => rfl) hf (fun w4 hf => ?_)
    refine J_aload_n (pc := 28) C dX9_endRun_28 rfl 0 rfl ?_
    refine J_dup (pc := 29) C dX9_endRun_29 rfl ?_
    refine J_getI (pc := 30) C dX9_endRun_30 (ci := 9) (k0 := 2) rfl iX9 (by decide) k_156 hf (fun x5 hf => ?_)
    refine J_iconst (pc := 33) C dX9_endRun_33 (v := 1) (by decide) ?_
    refine J_iadd (pc := 34) C dX9_endRun_34 ?_
    refine J_put (pc := 35) C dX9_endRun_35 (ci := 9) (k0 := 2) rfl iX9 tyX9 tyX9_ok nmX9 (by decide) k_156 rfl (ty := .int) (by decide +kernel) (fun _ => rfl) (fun _ => rfl) hf (fun w6 hf => ?_)
    refine J_iload_n (pc := 38) C dX9_endRun_38 rfl 1 rfl ?_
    refine J_istore_n (pc := 39) C dX9_endRun_39 rfl (by decide) hf (fun q => [(2, .int q), (0, .ref v0), (1, .int v1)]) (fun _ => rfl) (fun x7 hf => ?_)
    refine J_sub [1, 0] (L1 := [(0, .ref v0), (2, .int x7)]) rfl ?_
    exact B40 fu w6 v0 x7 hf
  · exact J_vret (pc := 5) C rfl dX9_endRun_5 hf
