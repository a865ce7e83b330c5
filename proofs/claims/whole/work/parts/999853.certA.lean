set_option maxRecDepth 100000 in
set_option maxHeartbeats 4000000 in
theorem c_X9_weave {l : Launch} {D : va_G} {dA : FieldType → ClassId} (fu : Nat) (w : MW) (v0 : Nat) (v1 : Nat) (v2 : Nat) {w' : MW} (hf : f_X9_weave fu w v0 v1 v2 = some w') : CT l D dA yX9_weave cX9_weave 9 none rmX9_weave [.ref v0, .ref v1, .ref v2] w none w' := by
  refine J_met (by decide) rfl (Nat.le_of_ble_eq_true rfl) (fun p e s m args below meth c A E C => ?_)
  have B201 : ∀ (lr47 : MW → Nat → Nat → Nat → Int32 → Int32 → Int32 → Int32 → Int32 → Option MW) (lh47 : ∀ (w : MW) (v0 : Nat) (v1 : Nat) (v2 : Nat) (v3 : Int32) (v4 : Int32) (v5 : Int32) (v6 : Int32) (v7 : Int32), lr47 w v0 v1 v2 v3 v4 v5 v6 v7 = some w' → JW p l e rmX9_weave s m args below meth c 9 D dA A E (MQ below (Qr D dA E none w' A) args s 0 0 A) 0 0 47 [(0, .ref v0), (1, .ref v1), (2, .ref v2), (3, .int v3), (4, .int v4), (5, .int v5), (6, .int v6), (7, .int v7)] [] w) (w : MW) (v0 : Nat) (v1 : Nat) (v2 : Nat) (v3 : Int32) (v4 : Int32) (v5 : Int32) (v6 : Int32) (s0 : Int32) (s1 : Int32), f_X9_weave_201 fu lr47 w v0 v1 v2 v3 v4 v5 v6 s0 s1 = some w' → JW p l e rmX9_weave s m args below meth c 9 D dA A E (MQ below (Qr D dA E none w' A) args s 0 0 A) 0 0 201 [(0, .ref v0), (1, .ref v1), (2, .ref v2), (3, .int v3), (4, .int v4), (5, .int v5), (6, .int v6)] [.int s1, .int s0] w := by
    intro lr47 lh47 w v0 v1 v2 v3 v4 v5 v6 s0 s1 hf
    rw [f_X9_weave_201] at hf
    refine J_isub (pc := 201) C dX9_weave_201 ?_
    refine J_istore (pc := 202) C dX9_weave_202 (by decide) hf (fun q => [(7, .int q), (0, .ref v0), (1, .ref v1), (2, .ref v2), (3, .int v3), (4, .int v4), (5, .int v5), (6, .int v6)]) (fun _ => rfl) (fun x32 hf => ?_)
    refine J_goto (pc := 204) C dX9_weave_204 (tgt := 47) (by decide) ?_
    refine J_sub [1, 2, 3, 4, 5, 6, 7, 0] (L1 := [(0, .ref v0), (1, .ref v1), (2, .ref v2), (3, .int v3), (4, .int v4), (5, .int v5), (6, .int v6), (7, .int x32)]) rfl ?_
    exact lh47 w v0 v1 v2 v3 v4 v5 v6 x32 hf
  have B186 : ∀ (lr47 : MW → Nat → Nat → Nat → Int32 → Int32 → Int32 → Int32 → Int32 → Option MW) (lh47 : ∀ (w : MW) (v0 : Nat) (v1 : Nat) (v2 : Nat) (v3 : Int32) (v4 : Int32) (v5 : Int32) (v6 : Int32) (v7 : Int32), lr47 w v0 v1 v2 v3 v4 v5 v6 v7 = some w' → JW p l e rmX9_weave s m args below meth c 9 D dA A E (MQ below (Qr D dA E none w' A) args s 0 0 A) 0 0 47 [(0, .ref v0), (1, .ref v1), (2, .ref v2), (3, .int v3), (4, .int v4), (5, .int v5), (6, .int v6), (7, .int v7)] [] w) (w : MW) (v0 : Nat) (v1 : Nat) (v2 : Nat) (v3 : Int32) (v5 : Int32) (v6 : Int32) (v7 : Int32) (v8 : Int32) (s0 : Int32) (s1 : Int32), f_X9_weave_186 fu lr47 w v0 v1 v2 v3 v5 v6 v7 v8 s0 s1 = some w' → JW p l e rmX9_weave s m args below meth c 9 D dA A E (MQ below (Qr D dA E none w' A) args s 0 0 A) 0 0 186 [(0, .ref v0), (1, .ref v1), (2, .ref v2), (3, .int v3), (5, .int v5), (6, .int v6), (7, .int v7), (8, .int v8)] [.int s1, .int s0] w := by
    intro lr47 lh47 w v0 v1 v2 v3 v5 v6 v7 v8 s0 s1 hf
    rw [f_X9_weave_186] at hf
    refine J_iadd (pc := 186) C dX9_weave_186 ?_
    refine J_istore (pc := 187) C dX9_weave_187 (by decide) hf (fun q => [(4, .int q), (0, .ref v0), (1, .ref v1), (2, .ref v2), (3, .int v3), (5, .int v5), (6, .int v6), (7, .int v7), (8, .int v8)]) (fun _ => rfl) (fun x31 hf => ?_)
    refine J_iload (pc := 189) C dX9_weave_189 7 rfl ?_
    refine J_iload (pc := 191) C dX9_weave_191 8 rfl ?_
    refine J_if_ne (pc := 193) C dX9_weave_193 (tgt := 200) (by decide) hf (fun _ hf => ?_) (fun _ hf => ?_)
    · refine J_iconst (pc := 200) C dX9_weave_200 (v := 1) (by decide) ?_
      refine J_sub [1, 2, 3, 4, 0, 5, 6] (L1 := [(0, .ref v0), (1, .ref v1), (2, .ref v2), (3, .int v3), (4, .int x31), (5, .int v5), (6, .int v6)]) rfl ?_
      exact B201 lr47 lh47 w v0 v1 v2 v3 x31 v5 v6 v7 (1 : Int32) hf
    · refine J_iconst (pc := 196) C dX9_weave_196 (v := 2) (by decide) ?_
      refine J_goto (pc := 197) C dX9_weave_197 (tgt := 201) (by decide) ?_
      refine J_sub [1, 2, 3, 4, 0, 5, 6] (L1 := [(0, .ref v0), (1, .ref v1), (2, .ref v2), (3, .int v3), (4, .int x31), (5, .int v5), (6, .int v6)]) rfl ?_
      exact B201 lr47 lh47 w v0 v1 v2 v3 x31 v5 v6 v7 (2 : Int32) hf
  have B172 : ∀ (lr47 : MW → Nat → Nat → Nat → Int32 → Int32 → Int32 → Int32 → Int32 → Option MW) (lh47 : ∀ (w : MW) (v0 : Nat) (v1 : Nat) (v2 : Nat) (v3 : Int32) (v4 : Int32) (v5 : Int32) (v6 : Int32) (v7 : Int32), lr47 w v0 v1 v2 v3 v4 v5 v6 v7 = some w' → JW p l e rmX9_weave s m args below meth c 9 D dA A E (MQ below (Qr D dA E none w' A) args s 0 0 A) 0 0 47 [(0, .ref v0), (1, .ref v1), (2, .ref v2), (3, .int v3), (4, .int v4), (5, .int v5), (6, .int v6), (7, .int v7)] [] w) (w : MW) (v0 : Nat) (v1 : Nat) (v2 : Nat) (v4 : Int32) (v5 : Int32) (v6 : Int32) (v7 : Int32) (v8 : Int32) (s0 : Int32) (s1 : Int32), f_X9_weave_172 fu lr47 w v0 v1 v2 v4 v5 v6 v7 v8 s0 s1 = some w' → JW p l e rmX9_weave s m args below meth c 9 D dA A E (MQ below (Qr D dA E none w' A) args s 0 0 A) 0 0 172 [(0, .ref v0), (1, .ref v1), (2, .ref v2), (4, .int v4), (5, .int v5), (6, .int v6), (7, .int v7), (8, .int v8)] [.int s1, .int s0] w := by
    intro lr47 lh47 w v0 v1 v2 v4 v5 v6 v7 v8 s0 s1 hf
    rw [f_X9_weave_172] at hf
    refine J_iadd (pc := 172) C dX9_weave_172 ?_
    refine J_istore_n (pc := 173) C dX9_weave_173 rfl (by decide) hf (fun q => [(3, .int q), (0, .ref v0), (1, .ref v1), (2, .ref v2), (4, .int v4), (5, .int v5), (6, .int v6), (7, .int v7), (8, .int v8)]) (fun _ => rfl) (fun x30 hf => ?_)
    refine J_iload (pc := 174) C dX9_weave_174 4 rfl ?_
    refine J_iload (pc := 176) C dX9_weave_176 8 rfl ?_
    refine J_if_lt (pc := 178) C dX9_weave_178 (tgt := 185) (by decide) hf (fun _ hf => ?_) (fun _ hf => ?_)
    · refine J_iconst (pc := 185) C dX9_weave_185 (v := 0) (by decide) ?_
      refine J_sub [1, 2, 3, 0, 5, 6, 7, 8] (L1 := [(0, .ref v0), (1, .ref v1), (2, .ref v2), (3, .int x30), (5, .int v5), (6, .int v6), (7, .int v7), (8, .int v8)]) rfl ?_
      exact B186 lr47 lh47 w v0 v1 v2 x30 v5 v6 v7 v8 v4 (0 : Int32) hf
    · refine J_iconst (pc := 181) C dX9_weave_181 (v := 1) (by decide) ?_
      refine J_goto (pc := 182) C dX9_weave_182 (tgt := 186) (by decide) ?_
      refine J_sub [1, 2, 3, 0, 5, 6, 7, 8] (L1 := [(0, .ref v0), (1, .ref v1), (2, .ref v2), (3, .int x30), (5, .int v5), (6, .int v6), (7, .int v7), (8, .int v8)]) rfl ?_
      exact B186 lr47 lh47 w v0 v1 v2 x30 v5 v6 v7 v8 v4 (1 : Int32) hf
  have B157 : ∀ (lr47 : MW → Nat → Nat → Nat → Int32 → Int32 → Int32 → Int32 → Int32 → Option MW) (lh47 : ∀ (w : MW) (v0 : Nat) (v1 : Nat) (v2 : Nat) (v3 : Int32) (v4 : Int32) (v5 : Int32) (v6 : Int32) (v7 : Int32), lr47 w v0 v1 v2 v3 v4 v5 v6 v7 = some w' → JW p l e rmX9_weave s m args below meth c 9 D dA A E (MQ below (Qr D dA E none w' A) args s 0 0 A) 0 0 47 [(0, .ref v0), (1, .ref v1), (2, .ref v2), (3, .int v3), (4, .int v4), (5, .int v5), (6, .int v6), (7, .int v7)] [] w) (w : MW) (v0 : Nat) (v1 : Nat) (v2 : Nat) (v3 : Int32) (v4 : Int32) (v5 : Int32) (v6 : Int32) (v7 : Int32) (v8 : Int32) (s0 : Nat) (s1 : Int32) (s2 : Int32), f_X9_weave_157 fu lr47 w v0 v1 v2 v3 v4 v5 v6 v7 v8 s0 s1 s2 = some w' → JW p l e rmX9_weave s m args below meth c 9 D dA A E (MQ below (Qr D dA E none w' A) args s 0 0 A) 0 0 157 [(0, .ref v0), (1, .ref v1), (2, .ref v2), (3, .int v3), (4, .int v4), (5, .int v5), (6, .int v6), (7, .int v7), (8, .int v8)] [.int s2, .int s1, .ref s0] w := by
    intro lr47 lh47 w v0 v1 v2 v3 v4 v5 v6 v7 v8 s0 s1 s2 hf
    rw [f_X9_weave_157] at hf
    refine J_iadd (pc := 157) C dX9_weave_157 ?_
    refine J_put (pc := 158) C dX9_weave_158 (ci := 9) (k0 := 1) rfl iX9 tyX9 tyX9_ok nmX9 (by decide) k_154 rfl (ty := .int) (by decide +kernel) (fun _ => rfl) (fun _ => rfl) hf (fun w29 hf => ?_)
    refine J_iload_n (pc := 161) C dX9_weave_161 rfl 3 rfl ?_
    refine J_iload (pc := 162) C dX9_weave_162 8 rfl ?_
    refine J_if_gt (pc := 164) C dX9_weave_164 (tgt := 171) (by decide) hf (fun _ hf => ?_) (fun _ hf => ?_)
    · refine J_iconst (pc := 171) C dX9_weave_171 (v := 0) (by decide) ?_
      refine J_sub [0, 1, 2, 4, 5, 6, 7, 8] (L1 := [(0, .ref v0), (1, .ref v1), (2, .ref v2), (4, .int v4), (5, .int v5), (6, .int v6), (7, .int v7), (8, .int v8)]) rfl ?_
      exact B172 lr47 lh47 w29 v0 v1 v2 v4 v5 v6 v7 v8 v3 (0 : Int32) hf
    · refine J_iconst (pc := 167) C dX9_weave_167 (v := 1) (by decide) ?_
      refine J_goto (pc := 168) C dX9_weave_168 (tgt := 172) (by decide) ?_
      refine J_sub [0, 1, 2, 4, 5, 6, 7, 8] (L1 := [(0, .ref v0), (1, .ref v1), (2, .ref v2), (4, .int v4), (5, .int v5), (6, .int v6), (7, .int v7), (8, .int v8)]) rfl ?_
      exact B172 lr47 lh47 w29 v0 v1 v2 v4 v5 v6 v7 v8 v3 (1 : Int32) hf
  have B129 : ∀ (lr47 : MW → Nat → Nat → Nat → Int32 → Int32 → Int32 → Int32 → Int32 → Option MW) (lh47 : ∀ (w : MW) (v0 : Nat) (v1 : Nat) (v2 : Nat) (v3 : Int32) (v4 : Int32) (v5 : Int32) (v6 : Int32) (v7 : Int32), lr47 w v0 v1 v2 v3 v4 v5 v6 v7 = some w' → JW p l e rmX9_weave s m args below meth c 9 D dA A E (MQ below (Qr D dA E none w' A) args s 0 0 A) 0 0 47 [(0, .ref v0), (1, .ref v1), (2, .ref v2), (3, .int v3), (4, .int v4), (5, .int v5), (6, .int v6), (7, .int v7)] [] w) (w : MW) (v0 : Nat) (v1 : Nat) (v2 : Nat) (v3 : Int32) (v4 : Int32) (v5 : Int32) (v6 : Int32) (v7 : Int32) (v8 : Int32), f_X9_weave_129 fu lr47 w v0 v1 v2 v3 v4 v5 v6 v7 v8 = some w' → JW p l e rmX9_weave s m args below meth c 9 D dA A E (MQ below (Qr D dA E none w' A) args s 0 0 A) 0 0 129 [(0, .ref v0), (1, .ref v1), (2, .ref v2), (3, .int v3), (4, .int v4), (5, .int v5), (6, .int v6), (7, .int v7), (8, .int v8)] [] w := by
    intro lr47 lh47 w v0 v1 v2 v3 v4 v5 v6 v7 v8 hf
    rw [f_X9_weave_129] at hf
    refine J_iinc (pc := 129) C dX9_weave_129 5 rfl (y := v5 + 1) rfl (by decide) hf (fun q => [(5, .int q), (0, .ref v0), (1, .ref v1), (2, .ref v2), (3, .int v3), (4, .int v4), (6, .int v6), (7, .int v7), (8, .int v8)]) (fun _ => rfl) (fun x25 hf => ?_)
    refine J_aload_n (pc := 132) C dX9_weave_132 rfl 1 rfl ?_
    refine J_dup (pc := 133) C dX9_weave_133 rfl ?_
    refine J_getI (pc := 134) C dX9_weave_134 (ci := 9) (k0 := 4) rfl iX9 (by decide) k_161 hf (fun x26 hf => ?_)
    refine J_iconst (pc := 137) C dX9_weave_137 (v := 1) (by decide) ?_
    refine J_iadd (pc := 138) C dX9_weave_138 ?_
    refine J_put (pc := 139) C dX9_weave_139 (ci := 9) (k0 := 4) rfl iX9 tyX9 tyX9_ok nmX9 (by decide) k_161 rfl (ty := .int) (by decide +kernel) (fun _ => rfl) (fun _ => rfl) hf (fun w27 hf => ?_)
    refine J_aload_n (pc := 142) C dX9_weave_142 rfl 1 rfl ?_
    refine J_dup (pc := 143) C dX9_weave_143 rfl ?_
    refine J_getI (pc := 144) C dX9_weave_144 (ci := 9) (k0 := 1) rfl iX9 (by decide) k_154 hf (fun x28 hf => ?_)
    refine J_iload (pc := 147) C dX9_weave_147 8 rfl ?_
    refine J_if_ne (pc := 149) C dX9_weave_149 (tgt := 156) (by decide) hf (fun _ hf => ?_) (fun _ hf => ?_)
    · refine J_iconst (pc := 156) C dX9_weave_156 (v := 0) (by decide) ?_
      refine J_sub [1, 2, 3, 4, 5, 0, 6, 7, 8] (L1 := [(0, .ref v0), (1, .ref v1), (2, .ref v2), (3, .int v3), (4, .int v4), (5, .int x25), (6, .int v6), (7, .int v7), (8, .int v8)]) rfl ?_
      exact B157 lr47 lh47 w27 v0 v1 v2 v3 v4 x25 v6 v7 v8 v0 x28 (0 : Int32) hf
    · refine J_iconst (pc := 152) C dX9_weave_152 (v := 1) (by decide) ?_
      refine J_goto (pc := 153) C dX9_weave_153 (tgt := 157) (by decide) ?_
      refine J_sub [1, 2, 3, 4, 5, 0, 6, 7, 8] (L1 := [(0, .ref v0), (1, .ref v1), (2, .ref v2), (3, .int v3), (4, .int v4), (5, .int x25), (6, .int v6), (7, .int v7), (8, .int v8)]) rfl ?_
      exact B157 lr47 lh47 w27 v0 v1 v2 v3 v4 x25 v6 v7 v8 v0 x28 (1 : Int32) hf
  have B105 : ∀ (lr47 : MW → Nat → Nat → Nat → Int32 → Int32 → Int32 → Int32 → Int32 → Option MW) (lh47 : ∀ (w : MW) (v0 : Nat) (v1 : Nat) (v2 : Nat) (v3 : Int32) (v4 : Int32) (v5 : Int32) (v6 : Int32) (v7 : Int32), lr47 w v0 v1 v2 v3 v4 v5 v6 v7 = some w' → JW p l e rmX9_weave s m args below meth c 9 D dA A E (MQ below (Qr D dA E none w' A) args s 0 0 A) 0 0 47 [(0, .ref v0), (1, .ref v1), (2, .ref v2), (3, .int v3), (4, .int v4), (5, .int v5), (6, .int v6), (7, .int v7)] [] w) (w : MW) (v0 : Nat) (v1 : Nat) (v2 : Nat) (v3 : Int32) (v4 : Int32) (v5 : Int32) (v6 : Int32) (v7 : Int32) (v8 : Int32) (s0 : Int32) (s1 : Int32), f_X9_weave_105 fu lr47 w v0 v1 v2 v3 v4 v5 v6 v7 v8 s0 s1 = some w' → JW p l e rmX9_weave s m args below meth c 9 D dA A E (MQ below (Qr D dA E none w' A) args s 0 0 A) 0 0 105 [(0, .ref v0), (1, .ref v1), (2, .ref v2), (3, .int v3), (4, .int v4), (5, .int v5), (6, .int v6), (7, .int v7), (8, .int v8)] [.int s1, .int s0] w := by
    intro lr47 lh47 w v0 v1 v2 v3 v4 v5 v6 v7 v8 s0 s1 hf
    rw [f_X9_weave_105] at hf
    refine J_icmp_eq (pc := 105) C dX9_weave_105 (tgt := 129) (by decide) hf (fun _ hf => ?_) (fun _ hf => ?_)
    · refine J_sub [0, 1, 2, 3, 4, 5, 6, 7, 8] (L1 := [(0, .ref v0), (1, .ref v1), (2, .ref v2), (3, .int v3), (4, .int v4), (5, .int v5), (6, .int v6), (7, .int v7), (8, .int v8)]) rfl ?_
      exact B129 lr47 lh47 w v0 v1 v2 v3 v4 v5 v6 v7 v8 hf
    · refine J_aload_n (pc := 108) C dX9_weave_108 rfl 0 rfl ?_
      refine J_iload (pc := 109) C dX9_weave_109 5 rfl ?_
      obtain ⟨q33, h34, hf⟩ := bind_ok hf
      obtain ⟨_, g35, h34⟩ := cl_spec h34
      refine J_cV (S := []) (pc := 111) C dX9_weave_111 (c_X9_endRun _ _ _ _ h34) k_640 ys_X9_endRun ⟨Nat.le_of_ble_eq_true rfl, Nat.le_of_ble_eq_true rfl⟩ ⟨Nat.le_of_ble_eq_true rfl, Nat.le_of_ble_eq_true rfl⟩ g35 rfl rfl (fun _ => Nat.le_of_ble_eq_true rfl) ?_
      refine J_iconst (pc := 114) C dX9_weave_114 (v := 0) (by decide) ?_
      refine J_istore (pc := 115) C dX9_weave_115 (by decide) hf (fun q => [(5, .int q), (0, .ref v0), (1, .ref v1), (2, .ref v2), (3, .int v3), (4, .int v4), (6, .int v6), (7, .int v7), (8, .int v8)]) (fun _ => rfl) (fun x36 hf => ?_)
      refine J_iload (pc := 117) C dX9_weave_117 8 rfl ?_
      refine J_if_gt (pc := 119) C dX9_weave_119 (tgt := 126) (by decide) hf (fun _ hf => ?_) (fun _ hf => ?_)
      · refine J_iconst (pc := 126) C dX9_weave_126 (v := 0) (by decide) ?_
        refine J_istore (pc := 127) C dX9_weave_127 (by decide) hf (fun q => [(6, .int q), (5, .int x36), (0, .ref v0), (1, .ref v1), (2, .ref v2), (3, .int v3), (4, .int v4), (7, .int v7), (8, .int v8)]) (fun _ => rfl) (fun x37 hf => ?_)
        refine J_sub [2, 3, 4, 5, 6, 1, 0, 7, 8] (L1 := [(0, .ref v0), (1, .ref v1), (2, .ref v2), (3, .int v3), (4, .int v4), (5, .int x36), (6, .int x37), (7, .int v7), (8, .int v8)]) rfl ?_
        exact B129 lr47 lh47 q33 v0 v1 v2 v3 v4 x36 x37 v7 v8 hf
      · refine J_iconst (pc := 122) C dX9_weave_122 (v := 1) (by decide) ?_
        refine J_goto (pc := 123) C dX9_weave_123 (tgt := 127) (by decide) ?_
        refine J_istore (pc := 127) C dX9_weave_127 (by decide) hf (fun q => [(6, .int q), (5, .int x36), (0, .ref v0), (1, .ref v1), (2, .ref v2), (3, .int v3), (4, .int v4), (7, .int v7), (8, .int v8)]) (fun _ => rfl) (fun x38 hf => ?_)
        refine J_sub [2, 3, 4, 5, 6, 1, 0, 7, 8] (L1 := [(0, .ref v0), (1, .ref v1), (2, .ref v2), (3, .int v3), (4, .int v4), (5, .int x36), (6, .int x38), (7, .int v7), (8, .int v8)]) rfl ?_
        exact B129 lr47 lh47 q33 v0 v1 v2 v3 v4 x36 x38 v7 v8 hf
  have B91 : ∀ (lr47 : MW → Nat → Nat → Nat → Int32 → Int32 → Int32 → Int32 → Int32 → Option MW) (lh47 : ∀ (w : MW) (v0 : Nat) (v1 : Nat) (v2 : Nat) (v3 : Int32) (v4 : Int32) (v5 : Int32) (v6 : Int32) (v7 : Int32), lr47 w v0 v1 v2 v3 v4 v5 v6 v7 = some w' → JW p l e rmX9_weave s m args below meth c 9 D dA A E (MQ below (Qr D dA E none w' A) args s 0 0 A) 0 0 47 [(0, .ref v0), (1, .ref v1), (2, .ref v2), (3, .int v3), (4, .int v4), (5, .int v5), (6, .int v6), (7, .int v7)] [] w) (w : MW) (v0 : Nat) (v1 : Nat) (v2 : Nat) (v3 : Int32) (v4 : Int32) (v5 : Int32) (v6 : Int32) (v7 : Int32) (s0 : Int32), f_X9_weave_91 fu lr47 w v0 v1 v2 v3 v4 v5 v6 v7 s0 = some w' → JW p l e rmX9_weave s m args below meth c 9 D dA A E (MQ below (Qr D dA E none w' A) args s 0 0 A) 0 0 91 [(0, .ref v0), (1, .ref v1), (2, .ref v2), (3, .int v3), (4, .int v4), (5, .int v5), (6, .int v6), (7, .int v7)] [.int s0] w := by
    intro lr47 lh47 w v0 v1 v2 v3 v4 v5 v6 v7 s0 hf
    rw [f_X9_weave_91] at hf
    refine J_istore (pc := 91) C dX9_weave_91 (by decide) hf (fun q => [(8, .int q), (0, .ref v0), (1, .ref v1), (2, .ref v2), (3, .int v3), (4, .int v4), (5, .int v5), (6, .int v6), (7, .int v7)]) (fun _ => rfl) (fun x24 hf => ?_)
    refine J_iload (pc := 93) C dX9_weave_93 7 rfl ?_
    refine J_iload (pc := 95) C dX9_weave_95 0 rfl ?_
    refine J_if_gt (pc := 97) C dX9_weave_97 (tgt := 104) (by decide) hf (fun _ hf => ?_) (fun _ hf => ?_)
    · refine J_iconst (pc := 104) C dX9_weave_104 (v := 0) (by decide) ?_
      refine J_sub [1, 2, 3, 4, 5, 6, 7, 8, 0] (L1 := [(0, .ref v0), (1, .ref v1), (2, .ref v2), (3, .int v3), (4, .int v4), (5, .int v5), (6, .int v6), (7, .int v7), (8, .int x24)]) rfl ?_
      exact B105 lr47 lh47 w v0 v1 v2 v3 v4 v5 v6 v7 x24 v6 (0 : Int32) hf
    · refine J_iconst (pc := 100) C dX9_weave_100 (v := 1) (by decide) ?_
      refine J_goto (pc := 101) C dX9_weave_101 (tgt := 105) (by decide) ?_
      refine J_sub [1, 2, 3, 4, 5, 6, 7, 8, 0] (L1 := [(0, .ref v0), (1, .ref v1), (2, .ref v2), (3, .int v3), (4, .int v4), (5, .int v5), (6, .int v6), (7, .int v7), (8, .int x24)]) rfl ?_
      exact B105 lr47 lh47 w v0 v1 v2 v3 v4 v5 v6 v7 x24 v6 (1 : Int32) hf
  have B47 : ∀ (n : Nat) (w : MW) (v0 : Nat) (v1 : Nat) (v2 : Nat) (v3 : Int32) (v4 : Int32) (v5 : Int32) (v6 : Int32) (v7 : Int32), f_X9_weave_47 fu n w v0 v1 v2 v3 v4 v5 v6 v7 = some w' → JW p l e rmX9_weave s m args below meth c 9 D dA A E (MQ below (Qr D dA E none w' A) args s 0 0 A) 0 0 47 [(0, .ref v0), (1, .ref v1), (2, .ref v2), (3, .int v3), (4, .int v4), (5, .int v5), (6, .int v6), (7, .int v7)] [] w := by
    intro n
    induction n with
    | zero => intro w v0 v1 v2 v3 v4 v5 v6 v7 hf; rw [f_X9_weave_47] at hf; cases hf
    | succ n ih =>
      intro w v0 v1 v2 v3 v4 v5 v6 v7 hf
      rw [f_X9_weave_47] at hf
      refine J_iload (pc := 47) C dX9_weave_47 7 rfl ?_
      refine J_if_le (pc := 49) C dX9_weave_49 (tgt := 207) (by decide) hf (fun _ hf => ?_) (fun _ hf => ?_)
      · refine J_aload_n (pc := 207) C dX9_weave_207 rfl 0 rfl ?_
        refine J_iload (pc := 208) C dX9_weave_208 5 rfl ?_
        obtain ⟨q13, h14, hf⟩ := bind_ok hf
        obtain ⟨_, g15, h14⟩ := cl_spec h14
        refine J_cV (S := []) (pc := 210) C dX9_weave_210 (c_X9_endRun _ _ _ _ h14) k_640 ys_X9_endRun ⟨Nat.le_of_ble_eq_true rfl, Nat.le_of_ble_eq_true rfl⟩ ⟨Nat.le_of_ble_eq_true rfl, Nat.le_of_ble_eq_true rfl⟩ g15 rfl rfl (fun _ => Nat.le_of_ble_eq_true rfl) ?_
        exact J_vret (pc := 213) C rfl dX9_weave_213 hf
      · refine J_iload_n (pc := 52) C dX9_weave_52 rfl 3 rfl ?_
        refine J_aload_n (pc := 53) C dX9_weave_53 rfl 1 rfl ?_
        refine J_getIN (pc := 54) C dX9_weave_54 (ci := 0) (k0 := 1) rfl iX0 (by decide) n_185 hf (fun x16 hf => ?_)
        refine J_icmp_lt (pc := 57) C dX9_weave_57 (tgt := 64) (by decide) hf (fun _ hf => ?_) (fun _ hf => ?_)
        · refine J_iload (pc := 64) C dX9_weave_64 4 rfl ?_
          refine J_aload_n (pc := 66) C dX9_weave_66 rfl 2 rfl ?_
          refine J_getIN (pc := 67) C dX9_weave_67 (ci := 0) (k0 := 1) rfl iX0 (by decide) n_185 hf (fun x17 hf => ?_)
          refine J_icmp_lt (pc := 70) C dX9_weave_70 (tgt := 77) (by decide) hf (fun _ hf => ?_) (fun _ hf => ?_)
          · refine J_aload_n (pc := 77) C dX9_weave_77 rfl 1 rfl ?_
            refine J_iload_n (pc := 78) C dX9_weave_78 rfl 3 rfl ?_
            obtain ⟨q18, h19, hf⟩ := bind_ok hf
            obtain ⟨_, g20, h19⟩ := cl_spec h19
            refine J_cV (S := []) (pc := 79) C dX9_weave_79 (c_X0_keyAt _ _ _ h19) k_636 ys_X0_keyAt ⟨Nat.le_of_ble_eq_true rfl, Nat.le_of_ble_eq_true rfl⟩ ⟨Nat.le_of_ble_eq_true rfl, Nat.le_of_ble_eq_true rfl⟩ g20 rfl rfl (fun _ => Nat.le_of_ble_eq_true rfl) ?_
            refine J_aload_n (pc := 82) C dX9_weave_82 rfl 2 rfl ?_
            refine J_iload (pc := 83) C dX9_weave_83 4 rfl ?_
            obtain ⟨q21, h22, hf⟩ := bind_ok hf
            obtain ⟨_, g23, h22⟩ := cl_spec h22
            refine J_cV (S := [.int q18]) (pc := 85) C dX9_weave_85 (c_X0_keyAt _ _ _ h22) k_636 ys_X0_keyAt ⟨Nat.le_of_ble_eq_true rfl, Nat.le_of_ble_eq_true rfl⟩ ⟨Nat.le_of_ble_eq_true rfl, Nat.le_of_ble_eq_true rfl⟩ g23 rfl rfl (fun _ => Nat.le_of_ble_eq_true rfl) ?_
            refine J_cS (S := []) (pc := 88) C dX9_weave_88 (c_J6_compare_7cf53 _ _ _ rfl) k_637 ys_J6_compare_7cf53 ⟨Nat.le_of_ble_eq_true rfl, Nat.le_of_ble_eq_true rfl⟩ ⟨Nat.le_of_ble_eq_true rfl, Nat.le_of_ble_eq_true rfl⟩ rfl rfl (fun _ => Nat.le_of_ble_eq_true rfl) ?_
            refine J_sub [0, 1, 2, 3, 4, 5, 6, 7] (L1 := [(0, .ref v0), (1, .ref v1), (2, .ref v2), (3, .int v3), (4, .int v4), (5, .int v5), (6, .int v6), (7, .int v7)]) rfl ?_
            exact B91 (f_X9_weave_47 fu n) ih w v0 v1 v2 v3 v4 v5 v6 v7 (f_J6_compare_7cf53 q18 q21) hf
          · refine J_iconst (pc := 73) C dX9_weave_73 (v := -1) (by decide) ?_
            refine J_goto (pc := 74) C dX9_weave_74 (tgt := 91) (by decide) ?_
            refine J_sub [0, 1, 2, 3, 4, 5, 6, 7] (L1 := [(0, .ref v0), (1, .ref v1), (2, .ref v2), (3, .int v3), (4, .int v4), (5, .int v5), (6, .int v6), (7, .int v7)]) rfl ?_
            exact B91 (f_X9_weave_47 fu n) ih w v0 v1 v2 v3 v4 v5 v6 v7 (-1 : Int32) hf
        · refine J_iconst (pc := 60) C dX9_weave_60 (v := 1) (by decide) ?_
          refine J_goto (pc := 61) C dX9_weave_61 (tgt := 91) (by decide) ?_
          refine J_sub [0, 1, 2, 3, 4, 5, 6, 7] (L1 := [(0, .ref v0), (1, .ref v1), (2, .ref v2), (3, .int v3), (4, .int v4), (5, .int v5), (6, .int v6), (7, .int v7)]) rfl ?_
          exact B91 (f_X9_weave_47 fu n) ih w v0 v1 v2 v3 v4 v5 v6 v7 (1 : Int32) hf
  rw [f_X9_weave] at hf
  refine J_sub [0, 1, 2] (L1 := [(0, .ref v0), (1, .ref v1), (2, .ref v2)]) rfl ?_
  refine J_aload_n (pc := 0) C dX9_weave_0 rfl 0 rfl ?_
  refine J_iconst (pc := 1) C dX9_weave_1 (v := 0) (by decide) ?_
  refine J_put (pc := 2) C dX9_weave_2 (ci := 9) (k0 := 0) rfl iX9 tyX9 tyX9_ok nmX9 (by decide) k_152 rfl (ty := .int) (by decide +kernel) (fun _ => rfl) (fun _ => rfl) hf (fun w1 hf => ?_)
  refine J_aload_n (pc := 5) C dX9_weave_5 rfl 0 rfl ?_
  refine J_iconst (pc := 6) C dX9_weave_6 (v := 0) (by decide) ?_
  refine J_put (pc := 7) C dX9_weave_7 (ci := 9) (k0 := 1) rfl iX9 tyX9 tyX9_ok nmX9 (by decide) k_154 rfl (ty := .int) (by decide +kernel) (fun _ => rfl) (fun _ => rfl) hf (fun w2 hf => ?_)
  refine J_aload_n (pc := 10) C dX9_weave_10 rfl 0 rfl ?_
  refine J_iconst (pc := 11) C dX9_weave_11 (v := 0) (by decide) ?_
  refine J_put (pc := 12) C dX9_weave_12 (ci := 9) (k0 := 2) rfl iX9 tyX9 tyX9_ok nmX9 (by decide) k_156 rfl (ty := .int) (by decide +kernel) (fun _ => rfl) (fun _ => rfl) hf (fun w3 hf => ?_)
  refine J_aload_n (pc := 15) C dX9_weave_15 rfl 0 rfl ?_
  refine J_iconst (pc := 16) C dX9_weave_16 (v := 0) (by decide) ?_
  refine J_put (pc := 17) C dX9_weave_17 (ci := 9) (k0 := 3) rfl iX9 tyX9 tyX9_ok nmX9 (by decide) k_159 rfl (ty := .int) (by decide +kernel) (fun _ => rfl) (fun _ => rfl) hf (fun w4 hf => ?_)
  refine J_aload_n (pc := 20) C dX9_weave_20 rfl 0 rfl ?_
  refine J_iconst (pc := 21) C dX9_weave_21 (v := 0) (by decide) ?_
  refine J_put (pc := 22) C dX9_weave_22 (ci := 9) (k0 := 4) rfl iX9 tyX9 tyX9_ok nmX9 (by decide) k_161 rfl (ty := .int) (by decide +kernel) (fun _ => rfl) (fun _ => rfl) hf (fun w5 hf => ?_)
  refine J_iconst (pc := 25) C dX9_weave_25 (v := 0) (by decide) ?_
  refine J_istore_n (pc := 26) C dX9_weave_26 rfl (by decide) hf (fun q => [(3, .int q), (0, .ref v0), (1, .ref v1), (2, .ref v2)]) (fun _ => rfl) (fun x6 hf => ?_)
  refine J_iconst (pc := 27) C dX9_weave_27 (v := 0) (by decide) ?_
  refine J_istore (pc := 28) C dX9_weave_28 (by decide) hf (fun q => [(4, .int q), (3, .int x6), (0, .ref v0), (1, .ref v1), (2, .ref v2)]) (fun _ => rfl) (fun x7 hf => ?_)
  refine J_iconst (pc := 30) C dX9_weave_30 (v := 0) (by decide) ?_
  refine J_istore (pc := 31) C dX9_weave_31 (by decide) hf (fun q => [(5, .int q), (4, .int x7), (3, .int x6), (0, .ref v0), (1, .ref v1), (2, .ref v2)]) (fun _ => rfl) (fun x8 hf => ?_)
  refine J_iconst (pc := 33) C dX9_weave_33 (v := 1) (by decide) ?_
  refine J_istore (pc := 34) C dX9_weave_34 (by decide) hf (fun q => [(6, .int q), (5, .int x8), (4, .int x7), (3, .int x6), (0, .ref v0), (1, .ref v1), (2, .ref v2)]) (fun _ => rfl) (fun x9 hf => ?_)
  refine J_aload_n (pc := 36) C dX9_weave_36 rfl 5 rfl ?_
  refine J_getIN (pc := 37) C dX9_weave_37 (ci := 0) (k0 := 1) rfl iX0 (by decide) n_185 hf (fun x10 hf => ?_)
  refine J_aload_n (pc := 40) C dX9_weave_40 rfl 6 rfl ?_
  refine J_getIN (pc := 41) C dX9_weave_41 (ci := 0) (k0 := 1) rfl iX0 (by decide) n_185 hf (fun x11 hf => ?_)
  refine J_iadd (pc := 44) C dX9_weave_44 ?_
  refine J_istore (pc := 45) C dX9_weave_45 (by decide) hf (fun q => [(7, .int q), (6, .int x9), (5, .int x8), (4, .int x7), (3, .int x6), (0, .ref v0), (1, .ref v1), (2, .ref v2)]) (fun _ => rfl) (fun x12 hf => ?_)
  refine J_sub [5, 6, 7, 4, 3, 2, 1, 0] (L1 := [(0, .ref v0), (1, .ref v1), (2, .ref v2), (3, .int x6), (4, .int x7), (5, .int x8), (6, .int x9), (7, .int x12)]) rfl ?_
  exact B47 fu w5 v0 v1 v2 x6 x7 x8 x9 x12 hf
set_option maxRecDepth 100000 in
set_option maxHeartbeats 4000000 in
theorem c_X7_whyNotMelt {l : Launch} {D : va_G} {dA : FieldType → ClassId} (w : MW) (v0 : Nat) (v1 : Nat) (v2 : Nat) {rr : Int32} (hf : f_X7_whyNotMelt w v0 v1 v2 = some rr) : CT l D dA yX7_whyNotMelt cX7_whyNotMelt 3 (some .int) rmX7_whyNotMelt [.ref v0, .ref v1, .ref v2] w (some (.int rr)) w := by
  refine J_met (by decide) rfl (Nat.le_of_ble_eq_true rfl) (fun p e s m args below meth c A E C => ?_)
  rw [f_X7_whyNotMelt] at hf
  refine J_sub [0, 1, 2] (L1 := [(0, .ref v0), (1, .ref v1), (2, .ref v2)]) rfl ?_
  refine J_aload_n (pc := 0) C dX7_whyNotMelt_0 rfl 1 rfl ?_
  refine J_getIN (pc := 1) C dX7_whyNotMelt_1 (ci := 0) (k0 := 1) rfl iX0 (by decide) n_186 hf (fun x1 hf => ?_)
  refine J_if_ne (pc := 4) C dX7_whyNotMelt_4 (tgt := 10) (by decide) hf (fun _ hf => ?_) (fun _ hf => ?_)
  · refine J_aload_n (pc := 10) C dX7_whyNotMelt_10 rfl 2 rfl ?_
    refine J_getIN (pc := 11) C dX7_whyNotMelt_11 (ci := 9) (k0 := 4) rfl iX9 (by decide) n_162 hf (fun x2 hf => ?_)
    refine J_bipush (pc := 14) C dX7_whyNotMelt_14 (v := 60) (by decide) ?_
    refine J_icmp_le (pc := 16) C dX7_whyNotMelt_16 (tgt := 24) (by decide) hf (fun _ hf => ?_) (fun _ hf => ?_)
    · refine J_iconst (pc := 24) C dX7_whyNotMelt_24 (v := 0) (by decide) ?_
      exact J_iretP (pc := 25) C  rfl rfl dX7_whyNotMelt_25 hf
    · refine J_bipush (pc := 19) C dX7_whyNotMelt_19 (v := -4) (by decide) ?_
      refine J_goto (pc := 21) C dX7_whyNotMelt_21 (tgt := 25) (by decide) ?_
      exact J_iretP (pc := 25) C  rfl rfl dX7_whyNotMelt_25 hf
  · refine J_bipush (pc := 7) C dX7_whyNotMelt_7 (v := -2) (by decide) ?_
    exact J_iretP (pc := 9) C  rfl rfl dX7_whyNotMelt_9 hf
set_option maxRecDepth 100000 in
set_option maxHeartbeats 4000000 in
theorem c_X7_meltTo {l : Launch} {D : va_G} {dA : FieldType → ClassId} (fu : Nat) (w : MW) (v0 : Nat) (v1 : Int32) (v2 : Int32) {rr : Int32} {w' : MW} (hf : f_X7_meltTo fu w v0 v1 v2 = some (rr, w')) : CT l D dA yX7_meltTo cX7_meltTo 6 (some .int) rmX7_meltTo [.ref v0, .int v1, .int v2] w (some (.int rr)) w' := by
  refine J_met (by decide) rfl (Nat.le_of_ble_eq_true rfl) (fun p e s m args below meth c A E C => ?_)
  rw [f_X7_meltTo] at hf
  refine J_sub [0, 1, 2] (L1 := [(0, .ref v0), (1, .int v1), (2, .int v2)]) rfl ?_
  refine J_aload_n (pc := 0) C dX7_meltTo_0 rfl 0 rfl ?_
  refine J_iload_n (pc := 1) C dX7_meltTo_1 rfl 1 rfl ?_
  obtain ⟨q1, h2, hf⟩ := bind_ok hf
  obtain ⟨_, g3, h2⟩ := cl_spec h2
  refine J_cV (S := []) (pc := 2) C dX7_meltTo_2 (c_X7_heapAt _ _ _ h2) k_559 ys_X7_heapAt ⟨Nat.le_of_ble_eq_true rfl, Nat.le_of_ble_eq_true rfl⟩ ⟨Nat.le_of_ble_eq_true rfl, Nat.le_of_ble_eq_true rfl⟩ g3 rfl rfl (fun _ => Nat.le_of_ble_eq_true rfl) ?_
  cases q1 with
  | none =>
    refine J_astore_nN (pc := 5) C dX7_meltTo_5 rfl (by decide) [(3, .null), (0, .ref v0), (1, .int v1), (2, .int v2)] rfl ?_
    refine J_aload_n (pc := 6) C dX7_meltTo_6 rfl 1 rfl ?_
    refine J_iload_n (pc := 7) C dX7_meltTo_7 rfl 3 rfl ?_
    obtain ⟨q5, h6, hf⟩ := bind_ok hf
    obtain ⟨_, g7, h6⟩ := cl_spec h6
    refine J_cV (S := []) (pc := 8) C dX7_meltTo_8 (c_X7_heapAt _ _ _ h6) k_559 ys_X7_heapAt ⟨Nat.le_of_ble_eq_true rfl, Nat.le_of_ble_eq_true rfl⟩ ⟨Nat.le_of_ble_eq_true rfl, Nat.le_of_ble_eq_true rfl⟩ g7 rfl rfl (fun _ => Nat.le_of_ble_eq_true rfl) ?_
    cases q5 with
    | none =>
      refine J_astoreN (pc := 11) C dX7_meltTo_11 (by decide) [(4, .null), (3, .null), (0, .ref v0), (1, .int v1), (2, .int v2)] rfl ?_
      refine J_aload_nN (pc := 13) C dX7_meltTo_13 rfl 1 rfl ?_
      refine J_ifnullN (pc := 14) C dX7_meltTo_14 (tgt := 27) (by decide) ?_
      refine J_iconst (pc := 27) C dX7_meltTo_27 (v := -1) (by decide) ?_
      exact J_iret (pc := 28) C  rfl rfl dX7_meltTo_28 hf
    | some b8 =>
      refine J_astore (pc := 11) C dX7_meltTo_11 (by decide) [(4, .ref b8), (3, .null), (0, .ref v0), (1, .int v1), (2, .int v2)] rfl ?_
      refine J_aload_nN (pc := 13) C dX7_meltTo_13 rfl 1 rfl ?_
      refine J_ifnullN (pc := 14) C dX7_meltTo_14 (tgt := 27) (by decide) ?_
      refine J_iconst (pc := 27) C dX7_meltTo_27 (v := -1) (by decide) ?_
      exact J_iret (pc := 28) C  rfl rfl dX7_meltTo_28 hf
  | some b4 =>
    refine J_astore_n (pc := 5) C dX7_meltTo_5 rfl (by decide) [(3, .ref b4), (0, .ref v0), (1, .int v1), (2, .int v2)] rfl ?_
    refine J_aload_n (pc := 6) C dX7_meltTo_6 rfl 1 rfl ?_
    refine J_iload_n (pc := 7) C dX7_meltTo_7 rfl 3 rfl ?_
    obtain ⟨q9, h10, hf⟩ := bind_ok hf
    obtain ⟨_, g11, h10⟩ := cl_spec h10
    refine J_cV (S := []) (pc := 8) C dX7_meltTo_8 (c_X7_heapAt _ _ _ h10) k_559 ys_X7_heapAt ⟨Nat.le_of_ble_eq_true rfl, Nat.le_of_ble_eq_true rfl⟩ ⟨Nat.le_of_ble_eq_true rfl, Nat.le_of_ble_eq_true rfl⟩ g11 rfl rfl (fun _ => Nat.le_of_ble_eq_true rfl) ?_
    cases q9 with
    | none =>
      refine J_astoreN (pc := 11) C dX7_meltTo_11 (by decide) [(4, .null), (3, .ref b4), (0, .ref v0), (1, .int v1), (2, .int v2)] rfl ?_
      refine J_aload_n (pc := 13) C dX7_meltTo_13 rfl 1 rfl ?_
      refine J_ifnull (pc := 14) C dX7_meltTo_14 ?_
      refine J_aloadN (pc := 17) C dX7_meltTo_17 0 rfl ?_
      refine J_ifnullN (pc := 19) C dX7_meltTo_19 (tgt := 27) (by decide) ?_
      refine J_iconst (pc := 27) C dX7_meltTo_27 (v := -1) (by decide) ?_
      exact J_iret (pc := 28) C  rfl rfl dX7_meltTo_28 hf
    | some b12 =>
      refine J_astore (pc := 11) C dX7_meltTo_11 (by decide) [(4, .ref b12), (3, .ref b4), (0, .ref v0), (1, .int v1), (2, .int v2)] rfl ?_
      refine J_aload_n (pc := 13) C dX7_meltTo_13 rfl 1 rfl ?_
      refine J_ifnull (pc := 14) C dX7_meltTo_14 ?_
      refine J_aload (pc := 17) C dX7_meltTo_17 0 rfl ?_
      refine J_ifnull (pc := 19) C dX7_meltTo_19 ?_
      refine J_iload_n (pc := 22) C dX7_meltTo_22 rfl 3 rfl ?_
      refine J_iload_n (pc := 23) C dX7_meltTo_23 rfl 4 rfl ?_
      refine J_icmp_ne (pc := 24) C dX7_meltTo_24 (tgt := 29) (by decide) hf (fun _ hf => ?_) (fun _ hf => ?_)
      · refine J_aload_n (pc := 29) C dX7_meltTo_29 rfl 2 rfl ?_
        refine J_getR (pc := 30) C dX7_meltTo_30 (ci := 7) (k0 := 2) rfl iX7 (by decide) k_217 hf (fun x13 hf => ?_)
        refine J_aload_n (pc := 33) C dX7_meltTo_33 rfl 1 rfl ?_
        refine J_aload (pc := 34) C dX7_meltTo_34 0 rfl ?_
        obtain ⟨q14, h15, hf⟩ := bind_ok hf
        obtain ⟨_, g16, h15⟩ := cl_spec h15
        refine J_cV (S := []) (pc := 36) C dX7_meltTo_36 (c_X9_weave _ _ _ _ _ h15) k_632 ys_X9_weave ⟨Nat.le_of_ble_eq_true rfl, Nat.le_of_ble_eq_true rfl⟩ ⟨Nat.le_of_ble_eq_true rfl, Nat.le_of_ble_eq_true rfl⟩ g16 rfl rfl (fun _ => Nat.le_of_ble_eq_true rfl) ?_
        refine J_aload_n (pc := 39) C dX7_meltTo_39 rfl 2 rfl ?_
        refine J_aload (pc := 40) C dX7_meltTo_40 0 rfl ?_
        refine J_aload_n (pc := 42) C dX7_meltTo_42 rfl 2 rfl ?_
        refine J_getR (pc := 43) C dX7_meltTo_43 (ci := 7) (k0 := 2) rfl iX7 (by decide) k_217 hf (fun x17 hf => ?_)
        obtain ⟨q18, h19, hf⟩ := bind_ok hf
        obtain ⟨_, g20, h19⟩ := cl_spec h19
        refine J_cV (S := []) (pc := 46) C dX7_meltTo_46 (c_X7_whyNotMelt _ _ _ _ h19) k_647 ys_X7_whyNotMelt ⟨Nat.le_of_ble_eq_true rfl, Nat.le_of_ble_eq_true rfl⟩ ⟨Nat.le_of_ble_eq_true rfl, Nat.le_of_ble_eq_true rfl⟩ g20 rfl rfl (fun _ => Nat.le_of_ble_eq_true rfl) ?_
        refine J_istore (pc := 49) C dX7_meltTo_49 (by decide) hf (fun q => [(5, .int q), (4, .ref b12), (3, .ref b4), (0, .ref v0), (1, .int v1), (2, .int v2)]) (fun _ => rfl) (fun x21 hf => ?_)
        refine J_iload (pc := 51) C dX7_meltTo_51 0 rfl ?_
        refine J_if_eq (pc := 53) C dX7_meltTo_53 (tgt := 59) (by decide) hf (fun _ hf => ?_) (fun _ hf => ?_)
        · refine J_aload_n (pc := 59) C dX7_meltTo_59 rfl 2 rfl ?_
          refine J_aload (pc := 60) C dX7_meltTo_60 1 rfl ?_
          refine J_aload_n (pc := 62) C dX7_meltTo_62 rfl 3 rfl ?_
          refine J_getR (pc := 63) C dX7_meltTo_63 (ci := 7) (k0 := 2) rfl iX7 (by decide) k_217 hf (fun x22 hf => ?_)
          refine J_getIN (pc := 66) C dX7_meltTo_66 (ci := 9) (k0 := 4) rfl iX9 (by decide) n_162 hf (fun x23 hf => ?_)
          obtain ⟨q24, h25, hf⟩ := bind_ok hf
          obtain ⟨_, g26, h25⟩ := cl_spec h25
          refine J_cV (S := []) (pc := 69) C dX7_meltTo_69 (c_X0_absorb _ _ _ _ _ h25) k_651 ys_X0_absorb ⟨Nat.le_of_ble_eq_true rfl, Nat.le_of_ble_eq_true rfl⟩ ⟨Nat.le_of_ble_eq_true rfl, Nat.le_of_ble_eq_true rfl⟩ g26 rfl rfl (fun _ => Nat.le_of_ble_eq_true rfl) ?_
          refine J_aload_n (pc := 72) C dX7_meltTo_72 rfl 3 rfl ?_
          refine J_getR (pc := 73) C dX7_meltTo_73 (ci := 7) (k0 := 2) rfl iX7 (by decide) k_217 hf (fun x27 hf => ?_)
          refine J_getIN (pc := 76) C dX7_meltTo_76 (ci := 9) (k0 := 2) rfl iX9 (by decide) n_157 hf (fun x28 hf => ?_)
          exact J_iret (pc := 79) C  rfl rfl dX7_meltTo_79 hf
        · refine J_iload (pc := 56) C dX7_meltTo_56 0 rfl ?_
          exact J_iret (pc := 58) C  rfl rfl dX7_meltTo_58 hf
      · refine J_iconst (pc := 27) C dX7_meltTo_27 (v := -1) (by decide) ?_
        exact J_iret (pc := 28) C  rfl rfl dX7_meltTo_28 hf
set_option maxRecDepth 100000 in
set_option maxHeartbeats 4000000 in
theorem c_X7_shiftBy {l : Launch} {D : va_G} {dA : FieldType → ClassId} (fu : Nat) (w : MW) (v0 : Nat) (v1 : Int32) (v2 : Int32) {rr : Int32} {w' : MW} (hf : f_X7_shiftBy fu w v0 v1 v2 = some (rr, w')) : CT l D dA yX7_shiftBy cX7_shiftBy 4 (some .int) rmX7_shiftBy [.ref v0, .int v1, .int v2] w (some (.int rr)) w' := by
  refine J_met (by decide) rfl (Nat.le_of_ble_eq_true rfl) (fun p e s m args below meth c A E C => ?_)
  rw [f_X7_shiftBy] at hf
  refine J_sub [0, 1, 2] (L1 := [(0, .ref v0), (1, .int v1), (2, .int v2)]) rfl ?_
  refine J_aload_n (pc := 0) C dX7_shiftBy_0 rfl 0 rfl ?_
  refine J_iload_n (pc := 1) C dX7_shiftBy_1 rfl 1 rfl ?_
  obtain ⟨q1, h2, hf⟩ := bind_ok hf
  obtain ⟨_, g3, h2⟩ := cl_spec h2
  refine J_cV (S := []) (pc := 2) C dX7_shiftBy_2 (c_X7_heapAt _ _ _ h2) k_559 ys_X7_heapAt ⟨Nat.le_of_ble_eq_true rfl, Nat.le_of_ble_eq_true rfl⟩ ⟨Nat.le_of_ble_eq_true rfl, Nat.le_of_ble_eq_true rfl⟩ g3 rfl rfl (fun _ => Nat.le_of_ble_eq_true rfl) ?_
  cases q1 with
  | none =>
    refine J_astore_nN (pc := 5) C dX7_shiftBy_5 rfl (by decide) [(3, .null), (0, .ref v0), (1, .int v1), (2, .int v2)] rfl ?_
    refine J_aload_nN (pc := 6) C dX7_shiftBy_6 rfl 0 rfl ?_
    refine J_ifnullN (pc := 7) C dX7_shiftBy_7 (tgt := 24) (by decide) ?_
    refine J_iconst (pc := 24) C dX7_shiftBy_24 (v := -1) (by decide) ?_
    exact J_iret (pc := 25) C  rfl rfl dX7_shiftBy_25 hf
  | some b4 =>
    refine J_astore_n (pc := 5) C dX7_shiftBy_5 rfl (by decide) [(3, .ref b4), (0, .ref v0), (1, .int v1), (2, .int v2)] rfl ?_
    refine J_aload_n (pc := 6) C dX7_shiftBy_6 rfl 0 rfl ?_
    refine J_ifnull (pc := 7) C dX7_shiftBy_7 ?_
    refine J_iload_n (pc := 10) C dX7_shiftBy_10 rfl 3 rfl ?_
    refine J_sipush (pc := 11) C dX7_shiftBy_11 (v := -9999) (by decide) ?_
    refine J_icmp_lt (pc := 14) C dX7_shiftBy_14 (tgt := 24) (by decide) hf (fun _ hf => ?_) (fun _ hf => ?_)
    · refine J_iconst (pc := 24) C dX7_shiftBy_24 (v := -1) (by decide) ?_
      exact J_iret (pc := 25) C  rfl rfl dX7_shiftBy_25 hf
    · refine J_iload_n (pc := 17) C dX7_shiftBy_17 rfl 3 rfl ?_
      refine J_sipush (pc := 18) C dX7_shiftBy_18 (v := 9999) (by decide) ?_
      refine J_icmp_le (pc := 21) C dX7_shiftBy_21 (tgt := 26) (by decide) hf (fun _ hf => ?_) (fun _ hf => ?_)
      · refine J_iload_n (pc := 26) C dX7_shiftBy_26 rfl 3 rfl ?_
        refine J_if_eq (pc := 27) C dX7_shiftBy_27 (tgt := 37) (by decide) hf (fun _ hf => ?_) (fun _ hf => ?_)
        · refine J_bipush (pc := 37) C dX7_shiftBy_37 (v := -2) (by decide) ?_
          exact J_iret (pc := 39) C  rfl rfl dX7_shiftBy_39 hf
        · refine J_aload_n (pc := 30) C dX7_shiftBy_30 rfl 0 rfl ?_
          refine J_getIN (pc := 31) C dX7_shiftBy_31 (ci := 0) (k0 := 1) rfl iX0 (by decide) n_186 hf (fun x5 hf => ?_)
          refine J_if_ne (pc := 34) C dX7_shiftBy_34 (tgt := 40) (by decide) hf (fun _ hf => ?_) (fun _ hf => ?_)
          · refine J_aload_n (pc := 40) C dX7_shiftBy_40 rfl 0 rfl ?_
            refine J_iconst (pc := 41) C dX7_shiftBy_41 (v := 0) (by decide) ?_
            obtain ⟨q6, h7, hf⟩ := bind_ok hf
            obtain ⟨_, g8, h7⟩ := cl_spec h7
            refine J_cV (S := []) (pc := 42) C dX7_shiftBy_42 (c_X0_keyAt _ _ _ h7) k_624 ys_X0_keyAt ⟨Nat.le_of_ble_eq_true rfl, Nat.le_of_ble_eq_true rfl⟩ ⟨Nat.le_of_ble_eq_true rfl, Nat.le_of_ble_eq_true rfl⟩ g8 rfl rfl (fun _ => Nat.le_of_ble_eq_true rfl) ?_
            refine J_iload_n (pc := 45) C dX7_shiftBy_45 rfl 3 rfl ?_
            refine J_iadd (pc := 46) C dX7_shiftBy_46 ?_
            refine J_cSN (S := []) (pc := 47) C dX7_shiftBy_47 (c_X10_isKey _ _ rfl) n_563 ys_X10_isKey ⟨Nat.le_of_ble_eq_true rfl, Nat.le_of_ble_eq_true rfl⟩ ⟨Nat.le_of_ble_eq_true rfl, Nat.le_of_ble_eq_true rfl⟩ rfl rfl (fun _ => Nat.le_of_ble_eq_true rfl) ?_
            refine J_if_eq (pc := 50) C dX7_shiftBy_50 (tgt := 71) (by decide) hf (fun _ hf => ?_) (fun _ hf => ?_)
            · refine J_bipush (pc := 71) C dX7_shiftBy_71 (v := -3) (by decide) ?_
              exact J_iret (pc := 73) C  rfl rfl dX7_shiftBy_73 hf
            · refine J_aload_n (pc := 53) C dX7_shiftBy_53 rfl 0 rfl ?_
              refine J_aload_n (pc := 54) C dX7_shiftBy_54 rfl 0 rfl ?_
              refine J_getIN (pc := 55) C dX7_shiftBy_55 (ci := 0) (k0 := 1) rfl iX0 (by decide) n_186 hf (fun x9 hf => ?_)
              refine J_iconst (pc := 58) C dX7_shiftBy_58 (v := 1) (by decide) ?_
              refine J_isub (pc := 59) C dX7_shiftBy_59 ?_
              obtain ⟨q10, h11, hf⟩ := bind_ok hf
              obtain ⟨_, g12, h11⟩ := cl_spec h11
              refine J_cV (S := []) (pc := 60) C dX7_shiftBy_60 (c_X0_keyAt _ _ _ h11) k_624 ys_X0_keyAt ⟨Nat.le_of_ble_eq_true rfl, Nat.le_of_ble_eq_true rfl⟩ ⟨Nat.le_of_ble_eq_true rfl, Nat.le_of_ble_eq_true rfl⟩ g12 rfl rfl (fun _ => Nat.le_of_ble_eq_true rfl) ?_
              refine J_iload_n (pc := 63) C dX7_shiftBy_63 rfl 3 rfl ?_
              refine J_iadd (pc := 64) C dX7_shiftBy_64 ?_
              refine J_cSN (S := []) (pc := 65) C dX7_shiftBy_65 (c_X10_isKey _ _ rfl) n_563 ys_X10_isKey ⟨Nat.le_of_ble_eq_true rfl, Nat.le_of_ble_eq_true rfl⟩ ⟨Nat.le_of_ble_eq_true rfl, Nat.le_of_ble_eq_true rfl⟩ rfl rfl (fun _ => Nat.le_of_ble_eq_true rfl) ?_
              refine J_if_ne (pc := 68) C dX7_shiftBy_68 (tgt := 74) (by decide) hf (fun _ hf => ?_) (fun _ hf => ?_)
              · refine J_aload_n (pc := 74) C dX7_shiftBy_74 rfl 0 rfl ?_
                refine J_iload_n (pc := 75) C dX7_shiftBy_75 rfl 3 rfl ?_
                obtain ⟨q13, h14, hf⟩ := bind_ok hf
                obtain ⟨_, g15, h14⟩ := cl_spec h14
                refine J_cV (S := []) (pc := 76) C dX7_shiftBy_76 (c_X0_shiftAll _ _ _ _ h14) k_663 ys_X0_shiftAll ⟨Nat.le_of_ble_eq_true rfl, Nat.le_of_ble_eq_true rfl⟩ ⟨Nat.le_of_ble_eq_true rfl, Nat.le_of_ble_eq_true rfl⟩ g15 rfl rfl (fun _ => Nat.le_of_ble_eq_true rfl) ?_
                refine J_aload_n (pc := 79) C dX7_shiftBy_79 rfl 0 rfl ?_
                refine J_getIN (pc := 80) C dX7_shiftBy_80 (ci := 0) (k0 := 1) rfl iX0 (by decide) n_186 hf (fun x16 hf => ?_)
                exact J_iret (pc := 83) C  rfl rfl dX7_shiftBy_83 hf
              · refine J_bipush (pc := 71) C dX7_shiftBy_71 (v := -3) (by decide) ?_
                exact J_iret (pc := 73) C  rfl rfl dX7_shiftBy_73 hf
          · refine J_bipush (pc := 37) C dX7_shiftBy_37 (v := -2) (by decide) ?_
            exact J_iret (pc := 39) C  rfl rfl dX7_shiftBy_39 hf
      · refine J_iconst (pc := 24) C dX7_shiftBy_24 (v := -1) (by decide) ?_
        exact J_iret (pc := 25) C  rfl rfl dX7_shiftBy_25 hf
set_option maxRecDepth 100000 in
set_option maxHeartbeats 4000000 in
theorem c_X7_moveStretch {l : Launch} {D : va_G} {dA : FieldType → ClassId} (fu : Nat) (w : MW) (v0 : Nat) (v1 : Int32) (v2 : Int32) (v3 : Int32) (v4 : Int32) {rr : Int32} {w' : MW} (hf : f_X7_moveStretch fu w v0 v1 v2 v3 v4 = some (rr, w')) : CT l D dA yX7_moveStretch cX7_moveStretch 9 (some .int) rmX7_moveStretch [.ref v0, .int v1, .int v2, .int v3, .int v4] w (some (.int rr)) w' := by
  refine J_met (by decide) rfl (Nat.le_of_ble_eq_true rfl) (fun p e s m args below meth c A E C => ?_)
  rw [f_X7_moveStretch] at hf
  refine J_sub [0, 1, 2, 3, 4] (L1 := [(0, .ref v0), (1, .int v1), (2, .int v2), (3, .int v3), (4, .int v4)]) rfl ?_
  refine J_aload_n (pc := 0) C dX7_moveStretch_0 rfl 0 rfl ?_
  refine J_iload_n (pc := 1) C dX7_moveStretch_1 rfl 1 rfl ?_
  obtain ⟨q1, h2, hf⟩ := bind_ok hf
  obtain ⟨_, g3, h2⟩ := cl_spec h2
  refine J_cV (S := []) (pc := 2) C dX7_moveStretch_2 (c_X7_heapAt _ _ _ h2) k_559 ys_X7_heapAt ⟨Nat.le_of_ble_eq_true rfl, Nat.le_of_ble_eq_true rfl⟩ ⟨Nat.le_of_ble_eq_true rfl, Nat.le_of_ble_eq_true rfl⟩ g3 rfl rfl (fun _ => Nat.le_of_ble_eq_true rfl) ?_
  cases q1 with
  | none =>
    refine J_astoreN (pc := 5) C dX7_moveStretch_5 (by decide) [(5, .null), (0, .ref v0), (1, .int v1), (2, .int v2), (3, .int v3), (4, .int v4)] rfl ?_
    refine J_aload_n (pc := 7) C dX7_moveStretch_7 rfl 1 rfl ?_
    refine J_iload (pc := 8) C dX7_moveStretch_8 5 rfl ?_
    obtain ⟨q5, h6, hf⟩ := bind_ok hf
    obtain ⟨_, g7, h6⟩ := cl_spec h6
    refine J_cV (S := []) (pc := 10) C dX7_moveStretch_10 (c_X7_heapAt _ _ _ h6) k_559 ys_X7_heapAt ⟨Nat.le_of_ble_eq_true rfl, Nat.le_of_ble_eq_true rfl⟩ ⟨Nat.le_of_ble_eq_true rfl, Nat.le_of_ble_eq_true rfl⟩ g7 rfl rfl (fun _ => Nat.le_of_ble_eq_true rfl) ?_
    cases q5 with
    | none =>
      refine J_astoreN (pc := 13) C dX7_moveStretch_13 (by decide) [(6, .null), (5, .null), (0, .ref v0), (1, .int v1), (2, .int v2), (3, .int v3), (4, .int v4)] rfl ?_
      refine J_aloadN (pc := 15) C dX7_moveStretch_15 1 rfl ?_
      refine J_ifnullN (pc := 17) C dX7_moveStretch_17 (tgt := 45) (by decide) ?_
      refine J_iconst (pc := 45) C dX7_moveStretch_45 (v := -1) (by decide) ?_
      exact J_iret (pc := 46) C  rfl rfl dX7_moveStretch_46 hf
    | some b8 =>
      refine J_astore (pc := 13) C dX7_moveStretch_13 (by decide) [(6, .ref b8), (5, .null), (0, .ref v0), (1, .int v1), (2, .int v2), (3, .int v3), (4, .int v4)] rfl ?_
      refine J_aloadN (pc := 15) C dX7_moveStretch_15 1 rfl ?_
      refine J_ifnullN (pc := 17) C dX7_moveStretch_17 (tgt := 45) (by decide) ?_
      refine J_iconst (pc := 45) C dX7_moveStretch_45 (v := -1) (by decide) ?_
      exact J_iret (pc := 46) C  rfl rfl dX7_moveStretch_46 hf
  | some b4 =>
    refine J_astore (pc := 5) C dX7_moveStretch_5 (by decide) [(5, .ref b4), (0, .ref v0), (1, .int v1), (2, .int v2), (3, .int v3), (4, .int v4)] rfl ?_
    refine J_aload_n (pc := 7) C dX7_moveStretch_7 rfl 1 rfl ?_
    refine J_iload (pc := 8) C dX7_moveStretch_8 5 rfl ?_
    obtain ⟨q9, h10, hf⟩ := bind_ok hf
    obtain ⟨_, g11, h10⟩ := cl_spec h10
    refine J_cV (S := []) (pc := 10) C dX7_moveStretch_10 (c_X7_heapAt _ _ _ h10) k_559 ys_X7_heapAt ⟨Nat.le_of_ble_eq_true rfl, Nat.le_of_ble_eq_true rfl⟩ ⟨Nat.le_of_ble_eq_true rfl, Nat.le_of_ble_eq_true rfl⟩ g11 rfl rfl (fun _ => Nat.le_of_ble_eq_true rfl) ?_
    cases q9 with
    | none =>
      refine J_astoreN (pc := 13) C dX7_moveStretch_13 (by decide) [(6, .null), (5, .ref b4), (0, .ref v0), (1, .int v1), (2, .int v2), (3, .int v3), (4, .int v4)] rfl ?_
      refine J_aload (pc := 15) C dX7_moveStretch_15 1 rfl ?_
      refine J_ifnull (pc := 17) C dX7_moveStretch_17 ?_
      refine J_aloadN (pc := 20) C dX7_moveStretch_20 0 rfl ?_
      refine J_ifnullN (pc := 22) C dX7_moveStretch_22 (tgt := 45) (by decide) ?_
      refine J_iconst (pc := 45) C dX7_moveStretch_45 (v := -1) (by decide) ?_
      exact J_iret (pc := 46) C  rfl rfl dX7_moveStretch_46 hf
    | some b12 =>
      refine J_astore (pc := 13) C dX7_moveStretch_13 (by decide) [(6, .ref b12), (5, .ref b4), (0, .ref v0), (1, .int v1), (2, .int v2), (3, .int v3), (4, .int v4)] rfl ?_
      refine J_aload (pc := 15) C dX7_moveStretch_15 1 rfl ?_
      refine J_ifnull (pc := 17) C dX7_moveStretch_17 ?_
      refine J_aload (pc := 20) C dX7_moveStretch_20 0 rfl ?_
      refine J_ifnull (pc := 22) C dX7_moveStretch_22 ?_
      refine J_iload_n (pc := 25) C dX7_moveStretch_25 rfl 3 rfl ?_
      refine J_iload (pc := 26) C dX7_moveStretch_26 6 rfl ?_
      refine J_icmp_eq (pc := 28) C dX7_moveStretch_28 (tgt := 45) (by decide) hf (fun _ hf => ?_) (fun _ hf => ?_)
      · refine J_iconst (pc := 45) C dX7_moveStretch_45 (v := -1) (by decide) ?_
        exact J_iret (pc := 46) C  rfl rfl dX7_moveStretch_46 hf
      · refine J_iload_n (pc := 31) C dX7_moveStretch_31 rfl 4 rfl ?_
        refine J_cSN (S := []) (pc := 32) C dX7_moveStretch_32 (c_X10_isKey _ _ rfl) n_563 ys_X10_isKey ⟨Nat.le_of_ble_eq_true rfl, Nat.le_of_ble_eq_true rfl⟩ ⟨Nat.le_of_ble_eq_true rfl, Nat.le_of_ble_eq_true rfl⟩ rfl rfl (fun _ => Nat.le_of_ble_eq_true rfl) ?_
        refine J_if_eq (pc := 35) C dX7_moveStretch_35 (tgt := 45) (by decide) hf (fun _ hf => ?_) (fun _ hf => ?_)
        · refine J_iconst (pc := 45) C dX7_moveStretch_45 (v := -1) (by decide) ?_
          exact J_iret (pc := 46) C  rfl rfl dX7_moveStretch_46 hf
        · refine J_iload_n (pc := 38) C dX7_moveStretch_38 rfl 5 rfl ?_
          refine J_cSN (S := []) (pc := 39) C dX7_moveStretch_39 (c_X10_isKey _ _ rfl) n_563 ys_X10_isKey ⟨Nat.le_of_ble_eq_true rfl, Nat.le_of_ble_eq_true rfl⟩ ⟨Nat.le_of_ble_eq_true rfl, Nat.le_of_ble_eq_true rfl⟩ rfl rfl (fun _ => Nat.le_of_ble_eq_true rfl) ?_
          refine J_if_ne (pc := 42) C dX7_moveStretch_42 (tgt := 47) (by decide) hf (fun _ hf => ?_) (fun _ hf => ?_)
          · refine J_aload (pc := 47) C dX7_moveStretch_47 1 rfl ?_
            refine J_iload_n (pc := 49) C dX7_moveStretch_49 rfl 4 rfl ?_
            refine J_iload_n (pc := 50) C dX7_moveStretch_50 rfl 5 rfl ?_
            obtain ⟨q13, h14, hf⟩ := bind_ok hf
            obtain ⟨_, g15, h14⟩ := cl_spec h14
            refine J_cV (S := []) (pc := 51) C dX7_moveStretch_51 (c_X0_howManyBetween _ _ _ _ _ h14) k_671 ys_X0_howManyBetween ⟨Nat.le_of_ble_eq_true rfl, Nat.le_of_ble_eq_true rfl⟩ ⟨Nat.le_of_ble_eq_true rfl, Nat.le_of_ble_eq_true rfl⟩ g15 rfl rfl (fun _ => Nat.le_of_ble_eq_true rfl) ?_
            refine J_istore (pc := 54) C dX7_moveStretch_54 (by decide) hf (fun q => [(7, .int q), (6, .ref b12), (5, .ref b4), (0, .ref v0), (1, .int v1), (2, .int v2), (3, .int v3), (4, .int v4)]) (fun _ => rfl) (fun x16 hf => ?_)
            refine J_iload (pc := 56) C dX7_moveStretch_56 0 rfl ?_
            refine J_if_ne (pc := 58) C dX7_moveStretch_58 (tgt := 64) (by decide) hf (fun _ hf => ?_) (fun _ hf => ?_)
            · refine J_aload (pc := 64) C dX7_moveStretch_64 2 rfl ?_
              refine J_iload_n (pc := 66) C dX7_moveStretch_66 rfl 5 rfl ?_
              obtain ⟨q17, h18, hf⟩ := bind_ok hf
              obtain ⟨_, g19, h18⟩ := cl_spec h18
              refine J_cV (S := []) (pc := 67) C dX7_moveStretch_67 (c_X0_below _ _ _ _ h18) k_676 ys_X0_below ⟨Nat.le_of_ble_eq_true rfl, Nat.le_of_ble_eq_true rfl⟩ ⟨Nat.le_of_ble_eq_true rfl, Nat.le_of_ble_eq_true rfl⟩ g19 rfl rfl (fun _ => Nat.le_of_ble_eq_true rfl) ?_
              refine J_istore (pc := 70) C dX7_moveStretch_70 (by decide) hf (fun q => [(8, .int q), (7, .int x16), (6, .ref b12), (5, .ref b4), (0, .ref v0), (1, .int v1), (2, .int v2), (3, .int v3), (4, .int v4)]) (fun _ => rfl) (fun x20 hf => ?_)
              refine J_aload (pc := 72) C dX7_moveStretch_72 2 rfl ?_
              refine J_aload (pc := 74) C dX7_moveStretch_74 3 rfl ?_
              refine J_iload (pc := 76) C dX7_moveStretch_76 0 rfl ?_
              obtain ⟨q21, h22, hf⟩ := bind_ok hf
              obtain ⟨_, g23, h22⟩ := cl_spec h22
              refine J_cV (S := [.ref b12]) (pc := 78) C dX7_moveStretch_78 (c_X0_keyAt _ _ _ h22) k_624 ys_X0_keyAt ⟨Nat.le_of_ble_eq_true rfl, Nat.le_of_ble_eq_true rfl⟩ ⟨Nat.le_of_ble_eq_true rfl, Nat.le_of_ble_eq_true rfl⟩ g23 rfl rfl (fun _ => Nat.le_of_ble_eq_true rfl) ?_
              refine J_aload (pc := 81) C dX7_moveStretch_81 3 rfl ?_
              refine J_iload (pc := 83) C dX7_moveStretch_83 0 rfl ?_
              refine J_iload (pc := 85) C dX7_moveStretch_85 1 rfl ?_
              refine J_iadd (pc := 87) C dX7_moveStretch_87 ?_
              refine J_iconst (pc := 88) C dX7_moveStretch_88 (v := 1) (by decide) ?_
              refine J_isub (pc := 89) C dX7_moveStretch_89 ?_
              obtain ⟨q24, h25, hf⟩ := bind_ok hf
              obtain ⟨_, g26, h25⟩ := cl_spec h25
              refine J_cV (S := [.int q21, .ref b12]) (pc := 90) C dX7_moveStretch_90 (c_X0_keyAt _ _ _ h25) k_624 ys_X0_keyAt ⟨Nat.le_of_ble_eq_true rfl, Nat.le_of_ble_eq_true rfl⟩ ⟨Nat.le_of_ble_eq_true rfl, Nat.le_of_ble_eq_true rfl⟩ g26 rfl rfl (fun _ => Nat.le_of_ble_eq_true rfl) ?_
              obtain ⟨q27, h28, hf⟩ := bind_ok hf
              obtain ⟨_, g29, h28⟩ := cl_spec h28
              refine J_cV (S := []) (pc := 93) C dX7_moveStretch_93 (c_X0_howManyBetween _ _ _ _ _ h28) k_671 ys_X0_howManyBetween ⟨Nat.le_of_ble_eq_true rfl, Nat.le_of_ble_eq_true rfl⟩ ⟨Nat.le_of_ble_eq_true rfl, Nat.le_of_ble_eq_true rfl⟩ g29 rfl rfl (fun _ => Nat.le_of_ble_eq_true rfl) ?_
              refine J_if_le (pc := 96) C dX7_moveStretch_96 (tgt := 102) (by decide) hf (fun _ hf => ?_) (fun _ hf => ?_)
              · refine J_aload (pc := 102) C dX7_moveStretch_102 2 rfl ?_
                refine J_getIN (pc := 104) C dX7_moveStretch_104 (ci := 0) (k0 := 1) rfl iX0 (by decide) n_186 hf (fun x30 hf => ?_)
                refine J_iload (pc := 107) C dX7_moveStretch_107 1 rfl ?_
                refine J_iadd (pc := 109) C dX7_moveStretch_109 ?_
                refine J_bipush (pc := 110) C dX7_moveStretch_110 (v := 60) (by decide) ?_
                refine J_icmp_le (pc := 112) C dX7_moveStretch_112 (tgt := 118) (by decide) hf (fun _ hf => ?_) (fun _ hf => ?_)
                · refine J_aload (pc := 118) C dX7_moveStretch_118 3 rfl ?_
                  refine J_iload (pc := 120) C dX7_moveStretch_120 0 rfl ?_
                  refine J_iload (pc := 122) C dX7_moveStretch_122 1 rfl ?_
                  refine J_aload (pc := 124) C dX7_moveStretch_124 2 rfl ?_
                  obtain ⟨q31, h32, hf⟩ := bind_ok hf
                  obtain ⟨_, g33, h32⟩ := cl_spec h32
                  refine J_cV (S := []) (pc := 126) C dX7_moveStretch_126 (c_X0_giveStretch _ _ _ _ _ _ h32) k_608 ys_X0_giveStretch ⟨Nat.le_of_ble_eq_true rfl, Nat.le_of_ble_eq_true rfl⟩ ⟨Nat.le_of_ble_eq_true rfl, Nat.le_of_ble_eq_true rfl⟩ g33 rfl rfl (fun _ => Nat.le_of_ble_eq_true rfl) ?_
                  refine J_iload (pc := 129) C dX7_moveStretch_129 1 rfl ?_
                  exact J_iret (pc := 131) C  rfl rfl dX7_moveStretch_131 hf
                · refine J_bipush (pc := 115) C dX7_moveStretch_115 (v := -4) (by decide) ?_
                  exact J_iret (pc := 117) C  rfl rfl dX7_moveStretch_117 hf
              · refine J_bipush (pc := 99) C dX7_moveStretch_99 (v := -3) (by decide) ?_
                exact J_iret (pc := 101) C  rfl rfl dX7_moveStretch_101 hf
            · refine J_bipush (pc := 61) C dX7_moveStretch_61 (v := -2) (by decide) ?_
              exact J_iret (pc := 63) C  rfl rfl dX7_moveStretch_63 hf
          · refine J_iconst (pc := 45) C dX7_moveStretch_45 (v := -1) (by decide) ?_
            exact J_iret (pc := 46) C  rfl rfl dX7_moveStretch_46 hf
set_option maxRecDepth 100000 in
set_option maxHeartbeats 4000000 in
theorem c_X5_act {l : Launch} {D : va_G} {dA : FieldType → ClassId} (fu : Nat) (w : MW) (v0 : Nat) (v1 : Int32) {rr : Int32} {w' : MW} (hf : f_X5_act fu w v0 v1 = some (rr, w')) : CT l D dA yX5_act cX5_act 2 (some .int) rmX5_act [.ref v0, .int v1] w (some (.int rr)) w' := by
  refine J_met (by decide) rfl (Nat.le_of_ble_eq_true rfl) (fun p e s m args below meth c A E C => ?_)
  rw [f_X5_act] at hf
  refine J_sub [0, 1] (L1 := [(0, .ref v0), (1, .int v1)]) rfl ?_
  refine J_iload_n (pc := 0) C dX5_act_0 rfl 1 rfl ?_
  refine J_case (v := 1) hf (fun g1 hf => ?_) (fun g1 hf => ?_)
  · refine J_tabIn (pc := 1) C dX5_act_1 (tgt := 40) (by rw [g1]; decide) (by rw [g1]; decide) (by rw [g1]; rfl) (by decide) ?_
    refine J_aload_n (pc := 40) C dX5_act_40 rfl 0 rfl ?_
    refine J_getR (pc := 41) C dX5_act_41 (ci := 5) (k0 := 1) rfl iX5 (by decide) k_301 hf (fun x2 hf => ?_)
    refine J_aload_n (pc := 44) C dX5_act_44 rfl 0 rfl ?_
    refine J_getR (pc := 45) C dX5_act_45 (ci := 5) (k0 := 2) rfl iX5 (by decide) k_302 hf (fun x3 hf => ?_)
    refine J_iconst (pc := 48) C dX5_act_48 (v := 0) (by decide) ?_
    refine J_iald (pc := 49) C dX5_act_49 hf (fun x4 hf => ?_)
    refine J_aload_n (pc := 50) C dX5_act_50 rfl 0 rfl ?_
    refine J_getR (pc := 51) C dX5_act_51 (ci := 5) (k0 := 2) rfl iX5 (by decide) k_302 hf (fun x5 hf => ?_)
    refine J_iconst (pc := 54) C dX5_act_54 (v := 1) (by decide) ?_
    refine J_iald (pc := 55) C dX5_act_55 hf (fun x6 hf => ?_)
    refine J_aload_n (pc := 56) C dX5_act_56 rfl 0 rfl ?_
    refine J_getR (pc := 57) C dX5_act_57 (ci := 5) (k0 := 2) rfl iX5 (by decide) k_302 hf (fun x7 hf => ?_)
    refine J_iconst (pc := 60) C dX5_act_60 (v := 2) (by decide) ?_
    refine J_iald (pc := 61) C dX5_act_61 hf (fun x8 hf => ?_)
    refine J_iconst (pc := 62) C dX5_act_62 (v := 1) (by decide) ?_
    obtain ⟨q9, h10, hf⟩ := bind_ok hf
    obtain ⟨_, g11, h10⟩ := cl_spec h10
    refine J_cV (S := []) (pc := 63) C dX5_act_63 (c_X7_markStretch _ _ _ _ _ _ _ h10) k_591 ys_X7_markStretch ⟨Nat.le_of_ble_eq_true rfl, Nat.le_of_ble_eq_true rfl⟩ ⟨Nat.le_of_ble_eq_true rfl, Nat.le_of_ble_eq_true rfl⟩ g11 rfl rfl (fun _ => Nat.le_of_ble_eq_true rfl) ?_
    exact J_iret (pc := 66) C  rfl rfl dX5_act_66 hf
  refine J_case (v := 2) hf (fun g12 hf => ?_) (fun g12 hf => ?_)
  · refine J_tabIn (pc := 1) C dX5_act_1 (tgt := 67) (by rw [g12]; decide) (by rw [g12]; decide) (by rw [g12]; rfl) (by decide) ?_
    refine J_aload_n (pc := 67) C dX5_act_67 rfl 0 rfl ?_
    refine J_getR (pc := 68) C dX5_act_68 (ci := 5) (k0 := 1) rfl iX5 (by decide) k_301 hf (fun x13 hf => ?_)
    refine J_aload_n (pc := 71) C dX5_act_71 rfl 0 rfl ?_
    refine J_getR (pc := 72) C dX5_act_72 (ci := 5) (k0 := 2) rfl iX5 (by decide) k_302 hf (fun x14 hf => ?_)
    refine J_iconst (pc := 75) C dX5_act_75 (v := 0) (by decide) ?_
    refine J_iald (pc := 76) C dX5_act_76 hf (fun x15 hf => ?_)
    refine J_aload_n (pc := 77) C dX5_act_77 rfl 0 rfl ?_
    refine J_getR (pc := 78) C dX5_act_78 (ci := 5) (k0 := 2) rfl iX5 (by decide) k_302 hf (fun x16 hf => ?_)
    refine J_iconst (pc := 81) C dX5_act_81 (v := 1) (by decide) ?_
    refine J_iald (pc := 82) C dX5_act_82 hf (fun x17 hf => ?_)
    refine J_aload_n (pc := 83) C dX5_act_83 rfl 0 rfl ?_
    refine J_getR (pc := 84) C dX5_act_84 (ci := 5) (k0 := 2) rfl iX5 (by decide) k_302 hf (fun x18 hf => ?_)
    refine J_iconst (pc := 87) C dX5_act_87 (v := 2) (by decide) ?_
    refine J_iald (pc := 88) C dX5_act_88 hf (fun x19 hf => ?_)
    obtain ⟨q20, h21, hf⟩ := bind_ok hf
    obtain ⟨_, g22, h21⟩ := cl_spec h21
    refine J_cV (S := []) (pc := 89) C dX5_act_89 (c_X7_cutAbove _ _ _ _ _ _ h21) k_603 ys_X7_cutAbove ⟨Nat.le_of_ble_eq_true rfl, Nat.le_of_ble_eq_true rfl⟩ ⟨Nat.le_of_ble_eq_true rfl, Nat.le_of_ble_eq_true rfl⟩ g22 rfl rfl (fun _ => Nat.le_of_ble_eq_true rfl) ?_
    exact J_iret (pc := 92) C  rfl rfl dX5_act_92 hf
  refine J_case (v := 3) hf (fun g23 hf => ?_) (fun g23 hf => ?_)
  · refine J_tabIn (pc := 1) C dX5_act_1 (tgt := 93) (by rw [g23]; decide) (by rw [g23]; decide) (by rw [g23]; rfl) (by decide) ?_
    refine J_aload_n (pc := 93) C dX5_act_93 rfl 0 rfl ?_
    refine J_getR (pc := 94) C dX5_act_94 (ci := 5) (k0 := 1) rfl iX5 (by decide) k_301 hf (fun x24 hf => ?_)
    refine J_aload_n (pc := 97) C dX5_act_97 rfl 0 rfl ?_
    refine J_getR (pc := 98) C dX5_act_98 (ci := 5) (k0 := 2) rfl iX5 (by decide) k_302 hf (fun x25 hf => ?_)
    refine J_iconst (pc := 101) C dX5_act_101 (v := 0) (by decide) ?_
    refine J_iald (pc := 102) C dX5_act_102 hf (fun x26 hf => ?_)
    refine J_aload_n (pc := 103) C dX5_act_103 rfl 0 rfl ?_
    refine J_getR (pc := 104) C dX5_act_104 (ci := 5) (k0 := 2) rfl iX5 (by decide) k_302 hf (fun x27 hf => ?_)
    refine J_iconst (pc := 107) C dX5_act_107 (v := 1) (by decide) ?_
    refine J_iald (pc := 108) C dX5_act_108 hf (fun x28 hf => ?_)
    obtain ⟨q29, h30, hf⟩ := bind_ok hf
    obtain ⟨_, g31, h30⟩ := cl_spec h30
    refine J_cV (S := []) (pc := 109) C dX5_act_109 (c_X7_joinTo _ _ _ _ _ h30) k_616 ys_X7_joinTo ⟨Nat.le_of_ble_eq_true rfl, Nat.le_of_ble_eq_true rfl⟩ ⟨Nat.le_of_ble_eq_true rfl, Nat.le_of_ble_eq_true rfl⟩ g31 rfl rfl (fun _ => Nat.le_of_ble_eq_true rfl) ?_
    exact J_iret (pc := 112) C  rfl rfl dX5_act_112 hf
  refine J_case (v := 4) hf (fun g32 hf => ?_) (fun g32 hf => ?_)
  · refine J_tabIn (pc := 1) C dX5_act_1 (tgt := 113) (by rw [g32]; decide) (by rw [g32]; decide) (by rw [g32]; rfl) (by decide) ?_
    refine J_aload_n (pc := 113) C dX5_act_113 rfl 0 rfl ?_
    refine J_getR (pc := 114) C dX5_act_114 (ci := 5) (k0 := 1) rfl iX5 (by decide) k_301 hf (fun x33 hf => ?_)
    refine J_aload_n (pc := 117) C dX5_act_117 rfl 0 rfl ?_
    refine J_getR (pc := 118) C dX5_act_118 (ci := 5) (k0 := 2) rfl iX5 (by decide) k_302 hf (fun x34 hf => ?_)
    refine J_iconst (pc := 121) C dX5_act_121 (v := 0) (by decide) ?_
    refine J_iald (pc := 122) C dX5_act_122 hf (fun x35 hf => ?_)
    refine J_aload_n (pc := 123) C dX5_act_123 rfl 0 rfl ?_
    refine J_getR (pc := 124) C dX5_act_124 (ci := 5) (k0 := 2) rfl iX5 (by decide) k_302 hf (fun x36 hf => ?_)
    refine J_iconst (pc := 127) C dX5_act_127 (v := 1) (by decide) ?_
    refine J_iald (pc := 128) C dX5_act_128 hf (fun x37 hf => ?_)
    obtain ⟨q38, h39, hf⟩ := bind_ok hf
    obtain ⟨_, g40, h39⟩ := cl_spec h39
    refine J_cV (S := []) (pc := 129) C dX5_act_129 (c_X7_meltTo _ _ _ _ _ h39) k_628 ys_X7_meltTo ⟨Nat.le_of_ble_eq_true rfl, Nat.le_of_ble_eq_true rfl⟩ ⟨Nat.le_of_ble_eq_true rfl, Nat.le_of_ble_eq_true rfl⟩ g40 rfl rfl (fun _ => Nat.le_of_ble_eq_true rfl) ?_
    exact J_iret (pc := 132) C  rfl rfl dX5_act_132 hf
  refine J_case (v := 5) hf (fun g41 hf => ?_) (fun g41 hf => ?_)
  · refine J_tabIn (pc := 1) C dX5_act_1 (tgt := 133) (by rw [g41]; decide) (by rw [g41]; decide) (by rw [g41]; rfl) (by decide) ?_
    refine J_aload_n (pc := 133) C dX5_act_133 rfl 0 rfl ?_
    refine J_getR (pc := 134) C dX5_act_134 (ci := 5) (k0 := 1) rfl iX5 (by decide) k_301 hf (fun x42 hf => ?_)
    refine J_aload_n (pc := 137) C dX5_act_137 rfl 0 rfl ?_
    refine J_getR (pc := 138) C dX5_act_138 (ci := 5) (k0 := 2) rfl iX5 (by decide) k_302 hf (fun x43 hf => ?_)
    refine J_iconst (pc := 141) C dX5_act_141 (v := 0) (by decide) ?_
    refine J_iald (pc := 142) C dX5_act_142 hf (fun x44 hf => ?_)
    refine J_aload_n (pc := 143) C dX5_act_143 rfl 0 rfl ?_
    refine J_getR (pc := 144) C dX5_act_144 (ci := 5) (k0 := 2) rfl iX5 (by decide) k_302 hf (fun x45 hf => ?_)
    refine J_iconst (pc := 147) C dX5_act_147 (v := 1) (by decide) ?_
    refine J_iald (pc := 148) C dX5_act_148 hf (fun x46 hf => ?_)
    obtain ⟨q47, h48, hf⟩ := bind_ok hf
    obtain ⟨_, g49, h48⟩ := cl_spec h48
    refine J_cV (S := []) (pc := 149) C dX5_act_149 (c_X7_shiftBy _ _ _ _ _ h48) k_659 ys_X7_shiftBy ⟨Nat.le_of_ble_eq_true rfl, Nat.le_of_ble_eq_true rfl⟩ ⟨Nat.le_of_ble_eq_true rfl, Nat.le_of_ble_eq_true rfl⟩ g49 rfl rfl (fun _ => Nat.le_of_ble_eq_true rfl) ?_
    exact J_iret (pc := 152) C  rfl rfl dX5_act_152 hf
  refine J_case (v := 6) hf (fun g50 hf => ?_) (fun g50 hf => ?_)
  · refine J_tabIn (pc := 1) C dX5_act_1 (tgt := 153) (by rw [g50]; decide) (by rw [g50]; decide) (by rw [g50]; rfl) (by decide) ?_
    refine J_aload_n (pc := 153) C dX5_act_153 rfl 0 rfl ?_
    refine J_getR (pc := 154) C dX5_act_154 (ci := 5) (k0 := 1) rfl iX5 (by decide) k_301 hf (fun x51 hf => ?_)
    refine J_aload_n (pc := 157) C dX5_act_157 rfl 0 rfl ?_
    refine J_getR (pc := 158) C dX5_act_158 (ci := 5) (k0 := 2) rfl iX5 (by decide) k_302 hf (fun x52 hf => ?_)
    refine J_iconst (pc := 161) C dX5_act_161 (v := 0) (by decide) ?_
    refine J_iald (pc := 162) C dX5_act_162 hf (fun x53 hf => ?_)
    refine J_aload_n (pc := 163) C dX5_act_163 rfl 0 rfl ?_
    refine J_getR (pc := 164) C dX5_act_164 (ci := 5) (k0 := 2) rfl iX5 (by decide) k_302 hf (fun x54 hf => ?_)
    refine J_iconst (pc := 167) C dX5_act_167 (v := 1) (by decide) ?_
    refine J_iald (pc := 168) C dX5_act_168 hf (fun x55 hf => ?_)
    refine J_aload_n (pc := 169) C dX5_act_169 rfl 0 rfl ?_
    refine J_getR (pc := 170) C dX5_act_170 (ci := 5) (k0 := 2) rfl iX5 (by decide) k_302 hf (fun x56 hf => ?_)
    refine J_iconst (pc := 173) C dX5_act_173 (v := 2) (by decide) ?_
    refine J_iald (pc := 174) C dX5_act_174 hf (fun x57 hf => ?_)
    refine J_aload_n (pc := 175) C dX5_act_175 rfl 0 rfl ?_
    refine J_getR (pc := 176) C dX5_act_176 (ci := 5) (k0 := 2) rfl iX5 (by decide) k_302 hf (fun x58 hf => ?_)
    refine J_iconst (pc := 179) C dX5_act_179 (v := 3) (by decide) ?_
    refine J_iald (pc := 180) C dX5_act_180 hf (fun x59 hf => ?_)
    obtain ⟨q60, h61, hf⟩ := bind_ok hf
    obtain ⟨_, g62, h61⟩ := cl_spec h61
    refine J_cV (S := []) (pc := 181) C dX5_act_181 (c_X7_moveStretch _ _ _ _ _ _ _ h61) k_667 ys_X7_moveStretch ⟨Nat.le_of_ble_eq_true rfl, Nat.le_of_ble_eq_true rfl⟩ ⟨Nat.le_of_ble_eq_true rfl, Nat.le_of_ble_eq_true rfl⟩ g62 rfl rfl (fun _ => Nat.le_of_ble_eq_true rfl) ?_
    exact J_iret (pc := 184) C  rfl rfl dX5_act_184 hf
  refine J_tabOut (pc := 1) C dX5_act_1 (tgt := 185) (by have z0 := lv_neT g1 (k := 1) (a := 1) (by decide); have z1 := lv_neT g12 (k := 2) (a := 2) (by decide); have z2 := lv_neT g23 (k := 3) (a := 3) (by decide); have z3 := lv_neT g32 (k := 4) (a := 4) (by decide); have z4 := lv_neT g41 (k := 5) (a := 5) (by decide); have z5 := lv_neT g50 (k := 6) (a := 6) (by decide); omega) (by decide) ?_
  refine J_iconst (pc := 185) C dX5_act_185 (v := 0) (by decide) ?_
  exact J_iret (pc := 186) C  rfl rfl dX5_act_186 hf
set_option maxRecDepth 100000 in
set_option maxHeartbeats 4000000 in
theorem c_X5_doLine {l : Launch} {D : va_G} {dA : FieldType → ClassId} (fu : Nat) (w : MW) (v0 : Nat) {w' : MW} (hf : f_X5_doLine fu w v0 = some w') : CT l D dA yX5_doLine cX5_doLine 5 none rmX5_doLine [.ref v0] w none w' := by
  refine J_met (by decide) rfl (Nat.le_of_ble_eq_true rfl) (fun p e s m args below meth c A E C => ?_)
  have B176 : ∀ (w : MW) (v0 : Nat), f_X5_doLine_176 fu w v0 = some w' → JW p l e rmX5_doLine s m args below meth c 5 D dA A E (MQ below (Qr D dA E none w' A) args s 0 0 A) 0 0 176 [(0, .ref v0)] [] w := by
    intro w v0 hf
    rw [f_X5_doLine_176] at hf
    refine J_aload_n (pc := 176) C dX5_doLine_176 rfl 0 rfl ?_
    obtain ⟨q13, h14, hf⟩ := bind_ok hf
    obtain ⟨_, g15, h14⟩ := cl_spec h14
    refine J_cV (S := []) (pc := 177) C dX5_doLine_177 (c_X5_advance _ _ _ h14) k_438 ys_X5_advance ⟨Nat.le_of_ble_eq_true rfl, Nat.le_of_ble_eq_true rfl⟩ ⟨Nat.le_of_ble_eq_true rfl, Nat.le_of_ble_eq_true rfl⟩ g15 rfl rfl (fun _ => Nat.le_of_ble_eq_true rfl) ?_
    exact J_vret (pc := 180) C rfl dX5_doLine_180 hf
  have B155 : ∀ (w : MW) (v0 : Nat) (v1 : Int32) (v2 : Int32), f_X5_doLine_155 fu w v0 v1 v2 = some w' → JW p l e rmX5_doLine s m args below meth c 5 D dA A E (MQ below (Qr D dA E none w' A) args s 0 0 A) 0 0 155 [(0, .ref v0), (1, .int v1), (2, .int v2)] [] w := by
    intro w v0 v1 v2 hf
    rw [f_X5_doLine_155] at hf
    refine J_aload_n (pc := 155) C dX5_doLine_155 rfl 0 rfl ?_
    refine J_getI (pc := 156) C dX5_doLine_156 (ci := 5) (k0 := 7) rfl iX5 (by decide) k_307 hf (fun x12 hf => ?_)
    refine J_if_ne (pc := 159) C dX5_doLine_159 (tgt := 176) (by decide) hf (fun _ hf => ?_) (fun _ hf => ?_)
    · refine J_sub [0] (L1 := [(0, .ref v0)]) rfl ?_
      exact B176 w v0 hf
    · refine J_aload_n (pc := 162) C dX5_doLine_162 rfl 0 rfl ?_
      refine J_iload_n (pc := 163) C dX5_doLine_163 rfl 2 rfl ?_
      obtain ⟨q16, h17, hf⟩ := bind_ok hf
      obtain ⟨_, g18, h17⟩ := cl_spec h17
      refine J_cV (S := []) (pc := 164) C dX5_doLine_164 (c_X5_act _ _ _ _ h17) k_587 ys_X5_act ⟨Nat.le_of_ble_eq_true rfl, Nat.le_of_ble_eq_true rfl⟩ ⟨Nat.le_of_ble_eq_true rfl, Nat.le_of_ble_eq_true rfl⟩ g18 rfl rfl (fun _ => Nat.le_of_ble_eq_true rfl) ?_
      refine J_if_ge (pc := 167) C dX5_doLine_167 (tgt := 176) (by decide) hf (fun _ hf => ?_) (fun _ hf => ?_)
      · refine J_sub [0] (L1 := [(0, .ref v0)]) rfl ?_
        exact B176 q16.2 v0 hf
      · refine J_aload_n (pc := 170) C dX5_doLine_170 rfl 0 rfl ?_
        refine J_iconst (pc := 171) C dX5_doLine_171 (v := 4) (by decide) ?_
        refine J_iload_n (pc := 172) C dX5_doLine_172 rfl 1 rfl ?_
        obtain ⟨q19, h20, hf⟩ := bind_ok hf
        obtain ⟨_, g21, h20⟩ := cl_spec h20
        refine J_cV (S := []) (pc := 173) C dX5_doLine_173 (c_X5_fail _ _ _ _ h20) k_530 ys_X5_fail ⟨Nat.le_of_ble_eq_true rfl, Nat.le_of_ble_eq_true rfl⟩ ⟨Nat.le_of_ble_eq_true rfl, Nat.le_of_ble_eq_true rfl⟩ g21 rfl rfl (fun _ => Nat.le_of_ble_eq_true rfl) ?_
        refine J_sub [0] (L1 := [(0, .ref v0)]) rfl ?_
        exact B176 q19 v0 hf
  have B137 : ∀ (w : MW) (v0 : Nat) (v1 : Int32) (v2 : Int32), f_X5_doLine_137 fu w v0 v1 v2 = some w' → JW p l e rmX5_doLine s m args below meth c 5 D dA A E (MQ below (Qr D dA E none w' A) args s 0 0 A) 0 0 137 [(0, .ref v0), (1, .int v1), (2, .int v2)] [] w := by
    intro w v0 v1 v2 hf
    rw [f_X5_doLine_137] at hf
    refine J_aload_n (pc := 137) C dX5_doLine_137 rfl 0 rfl ?_
    refine J_getI (pc := 138) C dX5_doLine_138 (ci := 5) (k0 := 4) rfl iX5 (by decide) k_304 hf (fun x11 hf => ?_)
    refine J_bipush (pc := 141) C dX5_doLine_141 (v := 59) (by decide) ?_
    refine J_icmp_eq (pc := 143) C dX5_doLine_143 (tgt := 155) (by decide) hf (fun _ hf => ?_) (fun _ hf => ?_)
    · refine J_sub [0, 1, 2] (L1 := [(0, .ref v0), (1, .int v1), (2, .int v2)]) rfl ?_
      exact B155 w v0 v1 v2 hf
    · refine J_aload_n (pc := 146) C dX5_doLine_146 rfl 0 rfl ?_
      refine J_iconst (pc := 147) C dX5_doLine_147 (v := 1) (by decide) ?_
      refine J_aload_n (pc := 148) C dX5_doLine_148 rfl 0 rfl ?_
      refine J_getI (pc := 149) C dX5_doLine_149 (ci := 5) (k0 := 5) rfl iX5 (by decide) k_305 hf (fun x22 hf => ?_)
      obtain ⟨q23, h24, hf⟩ := bind_ok hf
      obtain ⟨_, g25, h24⟩ := cl_spec h24
      refine J_cV (S := []) (pc := 152) C dX5_doLine_152 (c_X5_fail _ _ _ _ h24) k_530 ys_X5_fail ⟨Nat.le_of_ble_eq_true rfl, Nat.le_of_ble_eq_true rfl⟩ ⟨Nat.le_of_ble_eq_true rfl, Nat.le_of_ble_eq_true rfl⟩ g25 rfl rfl (fun _ => Nat.le_of_ble_eq_true rfl) ?_
      refine J_sub [0, 1, 2] (L1 := [(0, .ref v0), (1, .int v1), (2, .int v2)]) rfl ?_
      exact B155 q23 v0 v1 v2 hf
  have B94 : ∀ (n : Nat) (w : MW) (v0 : Nat) (v1 : Int32) (v2 : Int32) (v4 : Int32), f_X5_doLine_94 fu n w v0 v1 v2 v4 = some w' → JW p l e rmX5_doLine s m args below meth c 5 D dA A E (MQ below (Qr D dA E none w' A) args s 0 0 A) 0 0 94 [(0, .ref v0), (1, .int v1), (2, .int v2), (4, .int v4)] [] w := by
    intro n
    induction n with
    | zero => intro w v0 v1 v2 v4 hf; rw [f_X5_doLine_94] at hf; cases hf
    | succ n ih =>
      intro w v0 v1 v2 v4 hf
      rw [f_X5_doLine_94] at hf
      refine J_iload (pc := 94) C dX5_doLine_94 3 rfl ?_
      refine J_sipush (pc := 96) C dX5_doLine_96 (v := 800) (by decide) ?_
      refine J_icmp_ge (pc := 99) C dX5_doLine_99 (tgt := 137) (by decide) hf (fun _ hf => ?_) (fun _ hf => ?_)
      · refine J_sub [0, 1, 2] (L1 := [(0, .ref v0), (1, .int v1), (2, .int v2)]) rfl ?_
        exact B137 w v0 v1 v2 hf
      · refine J_iload_n (pc := 102) C dX5_doLine_102 rfl 2 rfl ?_
        refine J_if_ne (pc := 103) C dX5_doLine_103 (tgt := 137) (by decide) hf (fun _ hf => ?_) (fun _ hf => ?_)
        · refine J_sub [0, 1, 2] (L1 := [(0, .ref v0), (1, .int v1), (2, .int v2)]) rfl ?_
          exact B137 w v0 v1 v2 hf
        · refine J_aload_n (pc := 106) C dX5_doLine_106 rfl 0 rfl ?_
          refine J_getI (pc := 107) C dX5_doLine_107 (ci := 5) (k0 := 7) rfl iX5 (by decide) k_307 hf (fun x26 hf => ?_)
          refine J_if_ne (pc := 110) C dX5_doLine_110 (tgt := 137) (by decide) hf (fun _ hf => ?_) (fun _ hf => ?_)
          · refine J_sub [0, 1, 2] (L1 := [(0, .ref v0), (1, .int v1), (2, .int v2)]) rfl ?_
            exact B137 w v0 v1 v2 hf
          · refine J_aload_n (pc := 113) C dX5_doLine_113 rfl 0 rfl ?_
            refine J_getI (pc := 114) C dX5_doLine_114 (ci := 5) (k0 := 4) rfl iX5 (by decide) k_304 hf (fun x27 hf => ?_)
            refine J_iconst (pc := 117) C dX5_doLine_117 (v := 3) (by decide) ?_
            refine J_icmp_ne (pc := 118) C dX5_doLine_118 (tgt := 137) (by decide) hf (fun _ hf => ?_) (fun _ hf => ?_)
            · refine J_sub [0, 1, 2] (L1 := [(0, .ref v0), (1, .int v1), (2, .int v2)]) rfl ?_
              exact B137 w v0 v1 v2 hf
            · refine J_aload_n (pc := 121) C dX5_doLine_121 rfl 0 rfl ?_
              refine J_aload_n (pc := 122) C dX5_doLine_122 rfl 0 rfl ?_
              refine J_getR (pc := 123) C dX5_doLine_123 (ci := 5) (k0 := 2) rfl iX5 (by decide) k_302 hf (fun x28 hf => ?_)
              refine J_iconst (pc := 126) C dX5_doLine_126 (v := 0) (by decide) ?_
              refine J_iald (pc := 127) C dX5_doLine_127 hf (fun x29 hf => ?_)
              obtain ⟨q30, h31, hf⟩ := bind_ok hf
              obtain ⟨_, g32, h31⟩ := cl_spec h31
              refine J_cV (S := []) (pc := 128) C dX5_doLine_128 (c_X5_putItem _ _ _ _ h31) k_551 ys_X5_putItem ⟨Nat.le_of_ble_eq_true rfl, Nat.le_of_ble_eq_true rfl⟩ ⟨Nat.le_of_ble_eq_true rfl, Nat.le_of_ble_eq_true rfl⟩ g32 rfl rfl (fun _ => Nat.le_of_ble_eq_true rfl) ?_
              refine J_iinc (pc := 131) C dX5_doLine_131 3 rfl (y := v4 + 1) rfl (by decide) hf (fun q => [(4, .int q), (0, .ref v0), (1, .int v1), (2, .int v2)]) (fun _ => rfl) (fun x33 hf => ?_)
              refine J_goto (pc := 134) C dX5_doLine_134 (tgt := 94) (by decide) ?_
              refine J_sub [1, 2, 3, 0] (L1 := [(0, .ref v0), (1, .int v1), (2, .int v2), (4, .int x33)]) rfl ?_
              exact ih q30 v0 v1 v2 x33 hf
  have B49 : ∀ (n : Nat) (w : MW) (v0 : Nat) (v1 : Int32) (v2 : Int32) (v3 : Nat) (v4 : Int32), f_X5_doLine_49 fu n w v0 v1 v2 v3 v4 = some w' → JW p l e rmX5_doLine s m args below meth c 5 D dA A E (MQ below (Qr D dA E none w' A) args s 0 0 A) 0 0 49 [(0, .ref v0), (1, .int v1), (2, .int v2), (3, .ref v3), (4, .int v4)] [] w := by
    intro n
    induction n with
    | zero => intro w v0 v1 v2 v3 v4 hf; rw [f_X5_doLine_49] at hf; cases hf
    | succ n ih =>
      intro w v0 v1 v2 v3 v4 hf
      rw [f_X5_doLine_49] at hf
      refine J_iload (pc := 49) C dX5_doLine_49 4 rfl ?_
      refine J_aload_n (pc := 51) C dX5_doLine_51 rfl 3 rfl ?_
      refine J_stL (pc := 52) C dX5_doLine_52 k_476 ⟨Nat.le_of_ble_eq_true rfl, Nat.le_of_ble_eq_true rfl⟩ ⟨Nat.le_of_ble_eq_true rfl, Nat.le_of_ble_eq_true rfl⟩ (fun _ => Nat.le_of_ble_eq_true rfl) hf (fun x9 hf => ?_)
      refine J_icmp_ge (pc := 55) C dX5_doLine_55 (tgt := 91) (by decide) hf (fun _ hf => ?_) (fun _ hf => ?_)
      · refine J_iconst (pc := 91) C dX5_doLine_91 (v := 0) (by decide) ?_
        refine J_istore (pc := 92) C dX5_doLine_92 (by decide) hf (fun q => [(4, .int q), (0, .ref v0), (1, .int v1), (2, .int v2), (3, .ref v3)]) (fun _ => rfl) (fun x10 hf => ?_)
        refine J_sub [1, 2, 3, 0] (L1 := [(0, .ref v0), (1, .int v1), (2, .int v2), (4, .int x10)]) rfl ?_
        exact B94 fu w v0 v1 v2 x10 hf
      · refine J_iload (pc := 58) C dX5_doLine_58 4 rfl ?_
        refine J_aload_n (pc := 60) C dX5_doLine_60 rfl 0 rfl ?_
        refine J_getR (pc := 61) C dX5_doLine_61 (ci := 5) (k0 := 2) rfl iX5 (by decide) k_302 hf (fun x34 hf => ?_)
        refine J_alen (ty := .int) (pc := 64) C 0 (fun _ => rfl) dX5_doLine_64 hf (fun x35 hf => ?_)
        refine J_icmp_ge (pc := 65) C dX5_doLine_65 (tgt := 91) (by decide) hf (fun _ hf => ?_) (fun _ hf => ?_)
        · refine J_iconst (pc := 91) C dX5_doLine_91 (v := 0) (by decide) ?_
          refine J_istore (pc := 92) C dX5_doLine_92 (by decide) hf (fun q => [(4, .int q), (0, .ref v0), (1, .int v1), (2, .int v2), (3, .ref v3)]) (fun _ => rfl) (fun x36 hf => ?_)
          refine J_sub [1, 2, 3, 0] (L1 := [(0, .ref v0), (1, .int v1), (2, .int v2), (4, .int x36)]) rfl ?_
          exact B94 fu w v0 v1 v2 x36 hf
        · refine J_aload_n (pc := 68) C dX5_doLine_68 rfl 0 rfl ?_
          refine J_getR (pc := 69) C dX5_doLine_69 (ci := 5) (k0 := 2) rfl iX5 (by decide) k_302 hf (fun x37 hf => ?_)
          refine J_iload (pc := 72) C dX5_doLine_72 4 rfl ?_
          refine J_aload_n (pc := 74) C dX5_doLine_74 rfl 0 rfl ?_
          refine J_aload_n (pc := 75) C dX5_doLine_75 rfl 3 rfl ?_
          refine J_iload (pc := 76) C dX5_doLine_76 4 rfl ?_
          refine J_stC (pc := 78) C dX5_doLine_78 k_486 ⟨Nat.le_of_ble_eq_true rfl, Nat.le_of_ble_eq_true rfl⟩ ⟨Nat.le_of_ble_eq_true rfl, Nat.le_of_ble_eq_true rfl⟩ (fun _ => Nat.le_of_ble_eq_true rfl) hf (fun x38 hf => ?_)
          obtain ⟨q39, h40, hf⟩ := bind_ok hf
          obtain ⟨_, g41, h40⟩ := cl_spec h40
          refine J_cV (S := [.int v4, .ref x37]) (pc := 81) C dX5_doLine_81 (c_X5_takeArgument _ _ _ _ h40) k_543 ys_X5_takeArgument ⟨Nat.le_of_ble_eq_true rfl, Nat.le_of_ble_eq_true rfl⟩ ⟨Nat.le_of_ble_eq_true rfl, Nat.le_of_ble_eq_true rfl⟩ g41 rfl rfl (fun _ => Nat.le_of_ble_eq_true rfl) ?_
          refine J_iast (pc := 84) C dX5_doLine_84 hf (fun w42 hf => ?_)
          refine J_iinc (pc := 85) C dX5_doLine_85 4 rfl (y := v4 + 1) rfl (by decide) hf (fun q => [(4, .int q), (0, .ref v0), (1, .int v1), (2, .int v2), (3, .ref v3)]) (fun _ => rfl) (fun x43 hf => ?_)
          refine J_goto (pc := 88) C dX5_doLine_88 (tgt := 49) (by decide) ?_
          refine J_sub [1, 2, 3, 4, 0] (L1 := [(0, .ref v0), (1, .int v1), (2, .int v2), (3, .ref v3), (4, .int x43)]) rfl ?_
          exact ih w42 v0 v1 v2 v3 x43 hf
  have B21 : ∀ (w : MW) (v0 : Nat) (v1 : Int32) (s0 : Int32), f_X5_doLine_21 fu w v0 v1 s0 = some w' → JW p l e rmX5_doLine s m args below meth c 5 D dA A E (MQ below (Qr D dA E none w' A) args s 0 0 A) 0 0 21 [(0, .ref v0), (1, .int v1)] [.int s0] w := by
    intro w v0 v1 s0 hf
    rw [f_X5_doLine_21] at hf
    refine J_istore_n (pc := 21) C dX5_doLine_21 rfl (by decide) hf (fun q => [(2, .int q), (0, .ref v0), (1, .int v1)]) (fun _ => rfl) (fun x4 hf => ?_)
    refine J_iload_n (pc := 22) C dX5_doLine_22 rfl 0 rfl ?_
    refine J_iconst (pc := 23) C dX5_doLine_23 (v := -1) (by decide) ?_
    refine J_icmp_ne (pc := 24) C dX5_doLine_24 (tgt := 37) (by decide) hf (fun _ hf => ?_) (fun _ hf => ?_)
    · refine J_aload_n (pc := 37) C dX5_doLine_37 rfl 1 rfl ?_
      obtain ⟨q5, h6, hf⟩ := bind_ok hf
      obtain ⟨_, g7, h6⟩ := cl_spec h6
      refine J_cV (S := []) (pc := 38) C dX5_doLine_38 (c_X5_advance _ _ _ h6) k_438 ys_X5_advance ⟨Nat.le_of_ble_eq_true rfl, Nat.le_of_ble_eq_true rfl⟩ ⟨Nat.le_of_ble_eq_true rfl, Nat.le_of_ble_eq_true rfl⟩ g7 rfl rfl (fun _ => Nat.le_of_ble_eq_true rfl) ?_
      refine J_iload_n (pc := 41) C dX5_doLine_41 rfl 0 rfl ?_
      refine J_cS (S := []) (pc := 42) C dX5_doLine_42 (c_X5_shapeOf _ _ rfl) k_534 ys_X5_shapeOf ⟨Nat.le_of_ble_eq_true rfl, Nat.le_of_ble_eq_true rfl⟩ ⟨Nat.le_of_ble_eq_true rfl, Nat.le_of_ble_eq_true rfl⟩ rfl rfl (fun _ => Nat.le_of_ble_eq_true rfl) ?_
      refine J_astore_n (pc := 45) C dX5_doLine_45 rfl (by decide) [(3, .ref (f_X5_shapeOf x4)), (2, .int x4), (0, .ref v0), (1, .int v1)] rfl ?_
      refine J_iconst (pc := 46) C dX5_doLine_46 (v := 0) (by decide) ?_
      refine J_istore (pc := 47) C dX5_doLine_47 (by decide) hf (fun q => [(4, .int q), (3, .ref (f_X5_shapeOf x4)), (2, .int x4), (0, .ref v0), (1, .int v1)]) (fun _ => rfl) (fun x8 hf => ?_)
      refine J_sub [3, 4, 2, 1, 0] (L1 := [(0, .ref v0), (1, .int v1), (2, .int x4), (3, .ref (f_X5_shapeOf x4)), (4, .int x8)]) rfl ?_
      exact B49 fu q5 v0 v1 x4 (f_X5_shapeOf x4) x8 hf
    · refine J_aload_n (pc := 27) C dX5_doLine_27 rfl 1 rfl ?_
      refine J_iconst (pc := 28) C dX5_doLine_28 (v := 1) (by decide) ?_
      refine J_aload_n (pc := 29) C dX5_doLine_29 rfl 1 rfl ?_
      refine J_getI (pc := 30) C dX5_doLine_30 (ci := 5) (k0 := 5) rfl iX5 (by decide) k_305 hf (fun x44 hf => ?_)
      obtain ⟨q45, h46, hf⟩ := bind_ok hf
      obtain ⟨_, g47, h46⟩ := cl_spec h46
      refine J_cV (S := []) (pc := 33) C dX5_doLine_33 (c_X5_fail _ _ _ _ h46) k_530 ys_X5_fail ⟨Nat.le_of_ble_eq_true rfl, Nat.le_of_ble_eq_true rfl⟩ ⟨Nat.le_of_ble_eq_true rfl, Nat.le_of_ble_eq_true rfl⟩ g47 rfl rfl (fun _ => Nat.le_of_ble_eq_true rfl) ?_
      exact J_vret (pc := 36) C rfl dX5_doLine_36 hf
  rw [f_X5_doLine] at hf
  refine J_sub [0] (L1 := [(0, .ref v0)]) rfl ?_
  refine J_aload_n (pc := 0) C dX5_doLine_0 rfl 0 rfl ?_
  refine J_getI (pc := 1) C dX5_doLine_1 (ci := 5) (k0 := 5) rfl iX5 (by decide) k_305 hf (fun x1 hf => ?_)
  refine J_istore_n (pc := 4) C dX5_doLine_4 rfl (by decide) hf (fun q => [(1, .int q), (0, .ref v0)]) (fun _ => rfl) (fun x2 hf => ?_)
  refine J_aload_n (pc := 5) C dX5_doLine_5 rfl 1 rfl ?_
  refine J_getI (pc := 6) C dX5_doLine_6 (ci := 5) (k0 := 4) rfl iX5 (by decide) k_304 hf (fun x3 hf => ?_)
  refine J_iconst (pc := 9) C dX5_doLine_9 (v := 2) (by decide) ?_
  refine J_icmp_ne (pc := 10) C dX5_doLine_10 (tgt := 20) (by decide) hf (fun _ hf => ?_) (fun _ hf => ?_)
  · refine J_iconst (pc := 20) C dX5_doLine_20 (v := -1) (by decide) ?_
    refine J_sub [1, 0] (L1 := [(0, .ref v0), (1, .int x2)]) rfl ?_
    exact B21 w v0 x2 (-1 : Int32) hf
  · refine J_aload_n (pc := 13) C dX5_doLine_13 rfl 1 rfl ?_
    obtain ⟨q48, h49, hf⟩ := bind_ok hf
    obtain ⟨_, g50, h49⟩ := cl_spec h49
    refine J_cV (S := []) (pc := 14) C dX5_doLine_14 (c_X5_lineHere _ _ _ h49) k_467 ys_X5_lineHere ⟨Nat.le_of_ble_eq_true rfl, Nat.le_of_ble_eq_true rfl⟩ ⟨Nat.le_of_ble_eq_true rfl, Nat.le_of_ble_eq_true rfl⟩ g50 rfl rfl (fun _ => Nat.le_of_ble_eq_true rfl) ?_
    refine J_goto (pc := 17) C dX5_doLine_17 (tgt := 21) (by decide) ?_
    refine J_sub [1, 0] (L1 := [(0, .ref v0), (1, .int x2)]) rfl ?_
    exact B21 w v0 x2 q48 hf
set_option maxRecDepth 100000 in
set_option maxHeartbeats 4000000 in
theorem c_X5_perform {l : Launch} {D : va_G} {dA : FieldType → ClassId} (fu : Nat) (w : MW) (v0 : Nat) {w' : MW} (hf : f_X5_perform fu w v0 = some w') : CT l D dA yX5_perform cX5_perform 2 none rmX5_perform [.ref v0] w none w' := by
  refine J_met (by decide) rfl (Nat.le_of_ble_eq_true rfl) (fun p e s m args below meth c A E C => ?_)
  have B21 : ∀ (n : Nat) (w : MW) (v0 : Nat) (v1 : Int32), f_X5_perform_21 fu n w v0 v1 = some w' → JW p l e rmX5_perform s m args below meth c 2 D dA A E (MQ below (Qr D dA E none w' A) args s 0 0 A) 0 0 21 [(0, .ref v0), (1, .int v1)] [] w := by
    intro n
    induction n with
    | zero => intro w v0 v1 hf; rw [f_X5_perform_21] at hf; cases hf
    | succ n ih =>
      intro w v0 v1 hf
      rw [f_X5_perform_21] at hf
      refine J_iload_n (pc := 21) C dX5_perform_21 rfl 1 rfl ?_
      refine J_sipush (pc := 22) C dX5_perform_22 (v := 800) (by decide) ?_
      refine J_icmp_ge (pc := 25) C dX5_perform_25 (tgt := 52) (by decide) hf (fun _ hf => ?_) (fun _ hf => ?_)
      · exact J_vret (pc := 52) C rfl dX5_perform_52 hf
      · refine J_aload_n (pc := 28) C dX5_perform_28 rfl 0 rfl ?_
        refine J_getI (pc := 29) C dX5_perform_29 (ci := 5) (k0 := 7) rfl iX5 (by decide) k_307 hf (fun x8 hf => ?_)
        refine J_if_ne (pc := 32) C dX5_perform_32 (tgt := 52) (by decide) hf (fun _ hf => ?_) (fun _ hf => ?_)
        · exact J_vret (pc := 52) C rfl dX5_perform_52 hf
        · refine J_aload_n (pc := 35) C dX5_perform_35 rfl 0 rfl ?_
          refine J_getI (pc := 36) C dX5_perform_36 (ci := 5) (k0 := 4) rfl iX5 (by decide) k_304 hf (fun x9 hf => ?_)
          refine J_if_eq (pc := 39) C dX5_perform_39 (tgt := 52) (by decide) hf (fun _ hf => ?_) (fun _ hf => ?_)
          · exact J_vret (pc := 52) C rfl dX5_perform_52 hf
          · refine J_aload_n (pc := 42) C dX5_perform_42 rfl 0 rfl ?_
            obtain ⟨q10, h11, hf⟩ := bind_ok hf
            obtain ⟨_, g12, h11⟩ := cl_spec h11
            refine J_cV (S := []) (pc := 43) C dX5_perform_43 (c_X5_doLine _ _ _ h11) k_463 ys_X5_doLine ⟨Nat.le_of_ble_eq_true rfl, Nat.le_of_ble_eq_true rfl⟩ ⟨Nat.le_of_ble_eq_true rfl, Nat.le_of_ble_eq_true rfl⟩ g12 rfl rfl (fun _ => Nat.le_of_ble_eq_true rfl) ?_
            refine J_iinc (pc := 46) C dX5_perform_46 1 rfl (y := v1 + 1) rfl (by decide) hf (fun q => [(1, .int q), (0, .ref v0)]) (fun _ => rfl) (fun x13 hf => ?_)
            refine J_goto (pc := 49) C dX5_perform_49 (tgt := 21) (by decide) ?_
            refine J_sub [1, 0] (L1 := [(0, .ref v0), (1, .int x13)]) rfl ?_
            exact ih q10 v0 x13 hf
  rw [f_X5_perform] at hf
  refine J_sub [0] (L1 := [(0, .ref v0)]) rfl ?_
  refine J_aload_n (pc := 0) C dX5_perform_0 rfl 0 rfl ?_
  refine J_iconst (pc := 1) C dX5_perform_1 (v := 0) (by decide) ?_
  refine J_put (pc := 2) C dX5_perform_2 (ci := 5) (k0 := 3) rfl iX5 tyX5 tyX5_ok nmX5 (by decide) k_303 rfl (ty := .int) (by decide +kernel) (fun _ => rfl) (fun _ => rfl) hf (fun w1 hf => ?_)
  refine J_aload_n (pc := 5) C dX5_perform_5 rfl 0 rfl ?_
  refine J_iconst (pc := 6) C dX5_perform_6 (v := 0) (by decide) ?_
  refine J_put (pc := 7) C dX5_perform_7 (ci := 5) (k0 := 7) rfl iX5 tyX5 tyX5_ok nmX5 (by decide) k_307 rfl (ty := .int) (by decide +kernel) (fun _ => rfl) (fun _ => rfl) hf (fun w2 hf => ?_)
  refine J_aload_n (pc := 10) C dX5_perform_10 rfl 0 rfl ?_
  refine J_iconst (pc := 11) C dX5_perform_11 (v := -1) (by decide) ?_
  refine J_put (pc := 12) C dX5_perform_12 (ci := 5) (k0 := 8) rfl iX5 tyX5 tyX5_ok nmX5 (by decide) k_309 rfl (ty := .int) (by decide +kernel) (fun _ => rfl) (fun _ => rfl) hf (fun w3 hf => ?_)
  refine J_aload_n (pc := 15) C dX5_perform_15 rfl 0 rfl ?_
  obtain ⟨q4, h5, hf⟩ := bind_ok hf
  obtain ⟨_, g6, h5⟩ := cl_spec h5
  refine J_cV (S := []) (pc := 16) C dX5_perform_16 (c_X5_advance _ _ _ h5) k_438 ys_X5_advance ⟨Nat.le_of_ble_eq_true rfl, Nat.le_of_ble_eq_true rfl⟩ ⟨Nat.le_of_ble_eq_true rfl, Nat.le_of_ble_eq_true rfl⟩ g6 rfl rfl (fun _ => Nat.le_of_ble_eq_true rfl) ?_
  refine J_iconst (pc := 19) C dX5_perform_19 (v := 0) (by decide) ?_
  refine J_istore_n (pc := 20) C dX5_perform_20 rfl (by decide) hf (fun q => [(1, .int q), (0, .ref v0)]) (fun _ => rfl) (fun x7 hf => ?_)
  refine J_sub [1, 0] (L1 := [(0, .ref v0), (1, .int x7)]) rfl ?_
  exact B21 fu q4 v0 x7 hf
set_option maxRecDepth 100000 in
set_option maxHeartbeats 4000000 in
theorem c_X8_init {l : Launch} {D : va_G} {dA : FieldType → ClassId} (w0 : MW) (v0 : Nat) {w' : MW} (hf : f_X8_init w0 v0 = some w') : CA l D dA yX8_init cX8_init 1 none rmX8_init 7 427 [.ref v0] w0 none w' := by
  refine J_metA (by decide) rfl (Nat.le_of_ble_eq_true rfl) (fun p e s m args below meth c A E C hini hEE => ?_)
  rw [f_X8_init] at hf
  refine J_sub [0] (L1 := [(0, .ref v0)]) rfl ?_
  refine J_aload_n (pc := 0) C dX8_init_0 rfl 0 rfl ?_
  refine J_objInit (pc := 1) C dX8_init_1 k_116 k_101 k_102 (Nat.le_of_ble_eq_true rfl) (fun _ => Nat.le_of_ble_eq_true rfl) ?_
  refine J_aload_n (pc := 4) C dX8_init_4 rfl 0 rfl ?_
  refine J_bipush (pc := 5) C dX8_init_5 (v := 61) (by decide) ?_
  refine J_newa (aty := .int) (ty := .int) (N := 61) (pc := 7) C 0 (fun _ => rfl) dX8_init_7 rfl k_145 (fun _ => rfl) (fun _ _ h => h) (by decide) (by decide) (Nat.le_of_ble_eq_true rfl) ⟨Nat.le_of_ble_eq_true rfl, Nat.le_of_ble_eq_true rfl⟩ hEE [.ref v0, .ref v0] rfl hf (fun w1 hf => ?_)
  refine J_putF (pc := 9) C dX8_init_9 (ci := 8) (k0 := 0) rfl iX8 tyX8 tyX8_ok nmX8 (by decide) k_117 hini rfl rfl (ty := (.array .int)) (by decide +kernel) (fun _ => rfl) (fun _ => rfl) hf (fun w2 hf => ?_)
  refine J_aload_n (pc := 12) C dX8_init_12 rfl 0 rfl ?_
  refine J_bipush (pc := 13) C dX8_init_13 (v := 61) (by decide) ?_
  refine J_newa (aty := .int) (ty := .int) (N := 61) (pc := 15) C 0 (fun _ => rfl) dX8_init_15 rfl k_145 (fun _ => rfl) (fun _ _ h => h) (by decide) (by decide) (Nat.le_of_ble_eq_true rfl) ⟨Nat.le_of_ble_eq_true rfl, Nat.le_of_ble_eq_true rfl⟩ hEE [.ref v0, .ref v0] rfl hf (fun w3 hf => ?_)
  refine J_putF (pc := 17) C dX8_init_17 (ci := 8) (k0 := 1) rfl iX8 tyX8 tyX8_ok nmX8 (by decide) k_118 hini rfl rfl (ty := (.array .int)) (by decide +kernel) (fun _ => rfl) (fun _ => rfl) hf (fun w4 hf => ?_)
  refine J_aload_n (pc := 20) C dX8_init_20 rfl 0 rfl ?_
  refine J_bipush (pc := 21) C dX8_init_21 (v := 61) (by decide) ?_
  refine J_newa (aty := .int) (ty := .int) (N := 61) (pc := 23) C 0 (fun _ => rfl) dX8_init_23 rfl k_145 (fun _ => rfl) (fun _ _ h => h) (by decide) (by decide) (Nat.le_of_ble_eq_true rfl) ⟨Nat.le_of_ble_eq_true rfl, Nat.le_of_ble_eq_true rfl⟩ hEE [.ref v0, .ref v0] rfl hf (fun w5 hf => ?_)
  refine J_putF (pc := 25) C dX8_init_25 (ci := 8) (k0 := 2) rfl iX8 tyX8 tyX8_ok nmX8 (by decide) k_119 hini rfl rfl (ty := (.array .int)) (by decide +kernel) (fun _ => rfl) (fun _ => rfl) hf (fun w6 hf => ?_)
  refine J_aload_n (pc := 28) C dX8_init_28 rfl 0 rfl ?_
  refine J_bipush (pc := 29) C dX8_init_29 (v := 61) (by decide) ?_
  refine J_newa (aty := .int) (ty := .int) (N := 61) (pc := 31) C 0 (fun _ => rfl) dX8_init_31 rfl k_145 (fun _ => rfl) (fun _ _ h => h) (by decide) (by decide) (Nat.le_of_ble_eq_true rfl) ⟨Nat.le_of_ble_eq_true rfl, Nat.le_of_ble_eq_true rfl⟩ hEE [.ref v0, .ref v0] rfl hf (fun w7 hf => ?_)
  refine J_putF (pc := 33) C dX8_init_33 (ci := 8) (k0 := 3) rfl iX8 tyX8 tyX8_ok nmX8 (by decide) k_120 hini rfl rfl (ty := (.array .int)) (by decide +kernel) (fun _ => rfl) (fun _ => rfl) hf (fun w8 hf => ?_)
  refine J_aload_n (pc := 36) C dX8_init_36 rfl 0 rfl ?_
  refine J_bipush (pc := 37) C dX8_init_37 (v := 61) (by decide) ?_
  refine J_newa (aty := .int) (ty := .int) (N := 61) (pc := 39) C 0 (fun _ => rfl) dX8_init_39 rfl k_145 (fun _ => rfl) (fun _ _ h => h) (by decide) (by decide) (Nat.le_of_ble_eq_true rfl) ⟨Nat.le_of_ble_eq_true rfl, Nat.le_of_ble_eq_true rfl⟩ hEE [.ref v0, .ref v0] rfl hf (fun w9 hf => ?_)
  refine J_putF (pc := 41) C dX8_init_41 (ci := 8) (k0 := 4) rfl iX8 tyX8 tyX8_ok nmX8 (by decide) k_121 hini rfl rfl (ty := (.array .int)) (by decide +kernel) (fun _ => rfl) (fun _ => rfl) hf (fun w10 hf => ?_)
  refine J_aload_n (pc := 44) C dX8_init_44 rfl 0 rfl ?_
  refine J_bipush (pc := 45) C dX8_init_45 (v := 61) (by decide) ?_
  refine J_newa (aty := .int) (ty := .int) (N := 61) (pc := 47) C 0 (fun _ => rfl) dX8_init_47 rfl k_145 (fun _ => rfl) (fun _ _ h => h) (by decide) (by decide) (Nat.le_of_ble_eq_true rfl) ⟨Nat.le_of_ble_eq_true rfl, Nat.le_of_ble_eq_true rfl⟩ hEE [.ref v0, .ref v0] rfl hf (fun w11 hf => ?_)
  refine J_putF (pc := 49) C dX8_init_49 (ci := 8) (k0 := 5) rfl iX8 tyX8 tyX8_ok nmX8 (by decide) k_122 hini rfl rfl (ty := (.array .int)) (by decide +kernel) (fun _ => rfl) (fun _ => rfl) hf (fun w12 hf => ?_)
  refine J_aload_n (pc := 52) C dX8_init_52 rfl 0 rfl ?_
  refine J_bipush (pc := 53) C dX8_init_53 (v := 61) (by decide) ?_
  refine J_newa (aty := .int) (ty := .int) (N := 61) (pc := 55) C 0 (fun _ => rfl) dX8_init_55 rfl k_145 (fun _ => rfl) (fun _ _ h => h) (by decide) (by decide) (Nat.le_of_ble_eq_true rfl) ⟨Nat.le_of_ble_eq_true rfl, Nat.le_of_ble_eq_true rfl⟩ hEE [.ref v0, .ref v0] rfl hf (fun w13 hf => ?_)
  refine J_putF (pc := 57) C dX8_init_57 (ci := 8) (k0 := 6) rfl iX8 tyX8 tyX8_ok nmX8 (by decide) k_123 hini rfl rfl (ty := (.array .int)) (by decide +kernel) (fun _ => rfl) (fun _ => rfl) hf (fun w14 hf => ?_)
  refine J_aload_n (pc := 60) C dX8_init_60 rfl 0 rfl ?_
  refine J_iconst (pc := 61) C dX8_init_61 (v := 0) (by decide) ?_
  refine J_put (pc := 62) C dX8_init_62 (ci := 8) (k0 := 7) rfl iX8 tyX8 tyX8_ok nmX8 (by decide) k_124 rfl (ty := .int) (by decide +kernel) (fun _ => rfl) (fun _ => rfl) hf (fun w15 hf => ?_)
  refine J_aload_n (pc := 65) C dX8_init_65 rfl 0 rfl ?_
  refine J_iconst (pc := 66) C dX8_init_66 (v := -1) (by decide) ?_
  refine J_put (pc := 67) C dX8_init_67 (ci := 8) (k0 := 8) rfl iX8 tyX8 tyX8_ok nmX8 (by decide) k_125 rfl (ty := .int) (by decide +kernel) (fun _ => rfl) (fun _ => rfl) hf (fun w16 hf => ?_)
  refine J_widen (k := 7) (n := 427) (Nat.le_of_ble_eq_true rfl) (Nat.le_of_ble_eq_true rfl) ?_
  exact J_vret (pc := 70) C rfl dX8_init_70 hf
