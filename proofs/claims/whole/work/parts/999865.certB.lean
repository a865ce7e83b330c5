theorem z_X11_isLetter (v0 : Int32) : narrow .boolean (.int (f_X11_isLetter v0)) = .int (f_X11_isLetter v0) := by
  unfold f_X11_isLetter
  (repeat' split) <;> rfl
set_option maxRecDepth 100000 in
set_option maxHeartbeats 4000000 in
theorem c_X11_isLetter {l : Launch} {D : va_G} {dA : FieldType → ClassId} (w : MW) (v0 : Int32) {rr : Int32} (hf : f_X11_isLetter v0 = rr) : CT l D dA yX11_isLetter cX11_isLetter 1 (some .boolean) rmX11_isLetter [.int v0] w (some (.int rr)) w := by
  refine J_met (by decide) rfl (Nat.le_of_ble_eq_true rfl) (fun p e s m args below meth c A E C => ?_)
  rw [f_X11_isLetter] at hf
  refine J_sub [0] (L1 := [(0, .int v0)]) rfl ?_
  refine J_iload_n (pc := 0) C dX11_isLetter_0 rfl 0 rfl ?_
  refine J_bipush (pc := 1) C dX11_isLetter_1 (v := 97) (by decide) ?_
  refine J_icmp_lt (pc := 3) C dX11_isLetter_3 (tgt := 16) (by decide) hf (fun _ hf => ?_) (fun _ hf => ?_)
  · refine J_iconst (pc := 16) C dX11_isLetter_16 (v := 0) (by decide) ?_
    exact J_iretT (pc := 17) C  rfl (by decide) dX11_isLetter_17 hf
  · refine J_iload_n (pc := 6) C dX11_isLetter_6 rfl 0 rfl ?_
    refine J_bipush (pc := 7) C dX11_isLetter_7 (v := 122) (by decide) ?_
    refine J_icmp_gt (pc := 9) C dX11_isLetter_9 (tgt := 16) (by decide) hf (fun _ hf => ?_) (fun _ hf => ?_)
    · refine J_iconst (pc := 16) C dX11_isLetter_16 (v := 0) (by decide) ?_
      exact J_iretT (pc := 17) C  rfl (by decide) dX11_isLetter_17 hf
    · refine J_iconst (pc := 12) C dX11_isLetter_12 (v := 1) (by decide) ?_
      refine J_goto (pc := 13) C dX11_isLetter_13 (tgt := 17) (by decide) ?_
      exact J_iretT (pc := 17) C  rfl (by decide) dX11_isLetter_17 hf
theorem z_X11_isDigit (v0 : Int32) : narrow .boolean (.int (f_X11_isDigit v0)) = .int (f_X11_isDigit v0) := by
  unfold f_X11_isDigit
  (repeat' split) <;> rfl
set_option maxRecDepth 100000 in
set_option maxHeartbeats 4000000 in
theorem c_X11_isDigit {l : Launch} {D : va_G} {dA : FieldType → ClassId} (w : MW) (v0 : Int32) {rr : Int32} (hf : f_X11_isDigit v0 = rr) : CT l D dA yX11_isDigit cX11_isDigit 1 (some .boolean) rmX11_isDigit [.int v0] w (some (.int rr)) w := by
  refine J_met (by decide) rfl (Nat.le_of_ble_eq_true rfl) (fun p e s m args below meth c A E C => ?_)
  rw [f_X11_isDigit] at hf
  refine J_sub [0] (L1 := [(0, .int v0)]) rfl ?_
  refine J_iload_n (pc := 0) C dX11_isDigit_0 rfl 0 rfl ?_
  refine J_bipush (pc := 1) C dX11_isDigit_1 (v := 48) (by decide) ?_
  refine J_icmp_lt (pc := 3) C dX11_isDigit_3 (tgt := 16) (by decide) hf (fun _ hf => ?_) (fun _ hf => ?_)
  · refine J_iconst (pc := 16) C dX11_isDigit_16 (v := 0) (by decide) ?_
    exact J_iretT (pc := 17) C  rfl (by decide) dX11_isDigit_17 hf
  · refine J_iload_n (pc := 6) C dX11_isDigit_6 rfl 0 rfl ?_
    refine J_bipush (pc := 7) C dX11_isDigit_7 (v := 57) (by decide) ?_
    refine J_icmp_gt (pc := 9) C dX11_isDigit_9 (tgt := 16) (by decide) hf (fun _ hf => ?_) (fun _ hf => ?_)
    · refine J_iconst (pc := 16) C dX11_isDigit_16 (v := 0) (by decide) ?_
      exact J_iretT (pc := 17) C  rfl (by decide) dX11_isDigit_17 hf
    · refine J_iconst (pc := 12) C dX11_isDigit_12 (v := 1) (by decide) ?_
      refine J_goto (pc := 13) C dX11_isDigit_13 (tgt := 17) (by decide) ?_
      exact J_iretT (pc := 17) C  rfl (by decide) dX11_isDigit_17 hf
set_option maxRecDepth 100000 in
set_option maxHeartbeats 4000000 in
theorem c_X11_takes {l : Launch} {D : va_G} {dA : FieldType → ClassId} (fu : Nat) (w : MW) (v0 : Nat) {w' : MW} (hf : f_X11_takes fu w v0 = some w') : CT l D dA yX11_takes cX11_takes 2 none rmX11_takes [.ref v0] w none w' := by
  refine J_met (by decide) rfl (Nat.le_of_ble_eq_true rfl) (fun p e s m args below meth c A E C => ?_)
  have B26 : ∀ (lr0 : MW → Nat → Option MW) (lh0 : ∀ (w : MW) (v0 : Nat), lr0 w v0 = some w' → JW p l e rmX11_takes s m args below meth c 2 D dA A E (MQ below (Qr D dA E none w' A) args s 0 0 A) 0 0 0 [(0, .ref v0)] [] w) (w : MW) (v0 : Nat), f_X11_takes_26 fu lr0 w v0 = some w' → JW p l e rmX11_takes s m args below meth c 2 D dA A E (MQ below (Qr D dA E none w' A) args s 0 0 A) 0 0 26 [(0, .ref v0)] [] w := by
    intro lr0 lh0 w v0 hf
    rw [f_X11_takes_26] at hf
    refine J_aload_n (pc := 26) C dX11_takes_26 rfl 0 rfl ?_
    refine J_dup (pc := 27) C dX11_takes_27 rfl ?_
    refine J_getI (pc := 28) C dX11_takes_28 (ci := 11) (k0 := 23) rfl iX11 (by decide) k_1026 hf (fun x5 hf => ?_)
    refine J_iconst (pc := 31) C dX11_takes_31 (v := 1) (by decide) ?_
    refine J_iadd (pc := 32) C dX11_takes_32 ?_
    refine J_put (pc := 33) C dX11_takes_33 (ci := 11) (k0 := 23) rfl iX11 tyX11 tyX11_ok nmX11 (by decide) k_1026 rfl (ty := .int) (by decide +kernel) (fun _ => rfl) (fun _ => rfl) hf (fun w6 hf => ?_)
    refine J_goto (pc := 36) C dX11_takes_36 (tgt := 0) (by decide) ?_
    refine J_sub [0] (L1 := [(0, .ref v0)]) rfl ?_
    exact lh0 w6 v0 hf
  have B302 : ∀ (w : MW) (s0 : Nat) (s1 : Int32), f_X11_takes_302 fu w s0 s1 = some w' → JW p l e rmX11_takes s m args below meth c 2 D dA A E (MQ below (Qr D dA E none w' A) args s 0 0 A) 0 0 302 [] [.int s1, .ref s0] w := by
    intro w s0 s1 hf
    rw [f_X11_takes_302] at hf
    refine J_put (pc := 302) C dX11_takes_302 (ci := 11) (k0 := 24) rfl iX11 tyX11 tyX11_ok nmX11 (by decide) k_1027 rfl (ty := .int) (by decide +kernel) (fun _ => rfl) (fun _ => rfl) hf (fun w22 hf => ?_)
    exact J_vret (pc := 305) C rfl dX11_takes_305 hf
  have B262 : ∀ (w : MW) (s0 : Nat) (s1 : Int32), f_X11_takes_262 fu w s0 s1 = some w' → JW p l e rmX11_takes s m args below meth c 2 D dA A E (MQ below (Qr D dA E none w' A) args s 0 0 A) 0 0 262 [] [.int s1, .ref s0] w := by
    intro w s0 s1 hf
    rw [f_X11_takes_262] at hf
    refine J_put (pc := 262) C dX11_takes_262 (ci := 11) (k0 := 24) rfl iX11 tyX11 tyX11_ok nmX11 (by decide) k_1027 rfl (ty := .int) (by decide +kernel) (fun _ => rfl) (fun _ => rfl) hf (fun w29 hf => ?_)
    refine J_goto (pc := 265) C dX11_takes_265 (tgt := 305) (by decide) ?_
    exact J_vret (pc := 305) C rfl dX11_takes_305 hf
  have B227 : ∀ (lr170 : MW → Nat → Option MW) (lh170 : ∀ (w : MW) (v0 : Nat), lr170 w v0 = some w' → JW p l e rmX11_takes s m args below meth c 2 D dA A E (MQ below (Qr D dA E none w' A) args s 0 0 A) 0 0 170 [(0, .ref v0)] [] w) (w : MW) (v0 : Nat) (s0 : Nat) (s1 : Int64), f_X11_takes_227 fu lr170 w v0 s0 s1 = some w' → JW p l e rmX11_takes s m args below meth c 2 D dA A E (MQ below (Qr D dA E none w' A) args s 0 0 A) 0 0 227 [(0, .ref v0)] [.long s1, .ref s0] w := by
    intro lr170 lh170 w v0 s0 s1 hf
    rw [f_X11_takes_227] at hf
    refine J_put (pc := 227) C dX11_takes_227 (ci := 11) (k0 := 26) rfl iX11 tyX11 tyX11_ok nmX11 (by decide) k_1029 rfl (ty := .long) (by decide +kernel) (fun _ => rfl) (fun _ => rfl) hf (fun w33 hf => ?_)
    refine J_aload_n (pc := 230) C dX11_takes_230 rfl 0 rfl ?_
    refine J_dup (pc := 231) C dX11_takes_231 rfl ?_
    refine J_getI (pc := 232) C dX11_takes_232 (ci := 11) (k0 := 23) rfl iX11 (by decide) k_1026 hf (fun x34 hf => ?_)
    refine J_iconst (pc := 235) C dX11_takes_235 (v := 1) (by decide) ?_
    refine J_iadd (pc := 236) C dX11_takes_236 ?_
    refine J_put (pc := 237) C dX11_takes_237 (ci := 11) (k0 := 23) rfl iX11 tyX11 tyX11_ok nmX11 (by decide) k_1026 rfl (ty := .int) (by decide +kernel) (fun _ => rfl) (fun _ => rfl) hf (fun w35 hf => ?_)
    refine J_goto (pc := 240) C dX11_takes_240 (tgt := 170) (by decide) ?_
    refine J_sub [0] (L1 := [(0, .ref v0)]) rfl ?_
    exact lh170 w35 v0 hf
  have B170 : ∀ (n : Nat) (w : MW) (v0 : Nat), f_X11_takes_170 fu n w v0 = some w' → JW p l e rmX11_takes s m args below meth c 2 D dA A E (MQ below (Qr D dA E none w' A) args s 0 0 A) 0 0 170 [(0, .ref v0)] [] w := by
    intro n
    induction n with
    | zero => intro w v0 hf; rw [f_X11_takes_170] at hf; cases hf
    | succ n ih =>
      intro w v0 hf
      rw [f_X11_takes_170] at hf
      refine J_aload_n (pc := 170) C dX11_takes_170 rfl 0 rfl ?_
      refine J_aload_n (pc := 171) C dX11_takes_171 rfl 0 rfl ?_
      refine J_getI (pc := 172) C dX11_takes_172 (ci := 11) (k0 := 23) rfl iX11 (by decide) k_1026 hf (fun x23 hf => ?_)
      obtain ⟨q24, h25, hf⟩ := bind_ok hf
      obtain ⟨_, g26, h25⟩ := cl_spec h25
      refine J_cV (S := []) (pc := 175) C dX11_takes_175 (c_X11_byteAt _ _ _ h25) k_1385 ys_X11_byteAt ⟨Nat.le_of_ble_eq_true rfl, Nat.le_of_ble_eq_true rfl⟩ ⟨Nat.le_of_ble_eq_true rfl, Nat.le_of_ble_eq_true rfl⟩ g26 rfl rfl (fun _ => Nat.le_of_ble_eq_true rfl) ?_
      refine J_cS (S := []) (pc := 178) C dX11_takes_178 (c_X11_isDigit _ _ rfl) k_1395 ys_X11_isDigit ⟨Nat.le_of_ble_eq_true rfl, Nat.le_of_ble_eq_true rfl⟩ ⟨Nat.le_of_ble_eq_true rfl, Nat.le_of_ble_eq_true rfl⟩ rfl rfl (fun _ => Nat.le_of_ble_eq_true rfl) ?_
      refine J_if_eq (pc := 181) C dX11_takes_181 (tgt := 243) (by decide) hf (fun _ hf => ?_) (fun _ hf => ?_)
      · refine J_aload_n (pc := 243) C dX11_takes_243 rfl 0 rfl ?_
        refine J_aload_n (pc := 244) C dX11_takes_244 rfl 0 rfl ?_
        refine J_getI (pc := 245) C dX11_takes_245 (ci := 11) (k0 := 23) rfl iX11 (by decide) k_1026 hf (fun x27 hf => ?_)
        refine J_aload_n (pc := 248) C dX11_takes_248 rfl 0 rfl ?_
        refine J_getI (pc := 249) C dX11_takes_249 (ci := 11) (k0 := 25) rfl iX11 (by decide) k_1028 hf (fun x28 hf => ?_)
        refine J_isub (pc := 252) C dX11_takes_252 ?_
        refine J_iconst (pc := 253) C dX11_takes_253 (v := 4) (by decide) ?_
        refine J_icmp_le (pc := 254) C dX11_takes_254 (tgt := 261) (by decide) hf (fun _ hf => ?_) (fun _ hf => ?_)
        · refine J_iconst (pc := 261) C dX11_takes_261 (v := 2) (by decide) ?_
          refine J_sub [] (L1 := []) rfl ?_
          exact B262 w v0 (2 : Int32) hf
        · refine J_iconst (pc := 257) C dX11_takes_257 (v := 4) (by decide) ?_
          refine J_goto (pc := 258) C dX11_takes_258 (tgt := 262) (by decide) ?_
          refine J_sub [] (L1 := []) rfl ?_
          exact B262 w v0 (4 : Int32) hf
      · refine J_aload_n (pc := 184) C dX11_takes_184 rfl 0 rfl ?_
        refine J_aload_n (pc := 185) C dX11_takes_185 rfl 0 rfl ?_
        refine J_getI (pc := 186) C dX11_takes_186 (ci := 11) (k0 := 23) rfl iX11 (by decide) k_1026 hf (fun x30 hf => ?_)
        refine J_aload_n (pc := 189) C dX11_takes_189 rfl 0 rfl ?_
        refine J_getI (pc := 190) C dX11_takes_190 (ci := 11) (k0 := 25) rfl iX11 (by decide) k_1028 hf (fun x31 hf => ?_)
        refine J_isub (pc := 193) C dX11_takes_193 ?_
        refine J_iconst (pc := 194) C dX11_takes_194 (v := 4) (by decide) ?_
        refine J_icmp_ge (pc := 195) C dX11_takes_195 (tgt := 223) (by decide) hf (fun _ hf => ?_) (fun _ hf => ?_)
        · refine J_aload_n (pc := 223) C dX11_takes_223 rfl 0 rfl ?_
          refine J_getJ (pc := 224) C dX11_takes_224 (ci := 11) (k0 := 26) rfl iX11 (by decide) k_1029 hf (fun x32 hf => ?_)
          refine J_sub [0] (L1 := [(0, .ref v0)]) rfl ?_
          exact B227 (f_X11_takes_170 fu n) ih w v0 v0 x32 hf
        · refine J_ldc2 (pc := 198) C dX11_takes_198 (v := 10) k_1398 ?_
          refine J_aload_n (pc := 201) C dX11_takes_201 rfl 0 rfl ?_
          refine J_getJ (pc := 202) C dX11_takes_202 (ci := 11) (k0 := 26) rfl iX11 (by decide) k_1029 hf (fun x36 hf => ?_)
          refine J_lmul (pc := 205) C dX11_takes_205 ?_
          refine J_aload_n (pc := 206) C dX11_takes_206 rfl 0 rfl ?_
          refine J_aload_n (pc := 207) C dX11_takes_207 rfl 0 rfl ?_
          refine J_getI (pc := 208) C dX11_takes_208 (ci := 11) (k0 := 23) rfl iX11 (by decide) k_1026 hf (fun x37 hf => ?_)
          obtain ⟨q38, h39, hf⟩ := bind_ok hf
          obtain ⟨_, g40, h39⟩ := cl_spec h39
          refine J_cV (S := [.long ((10 : Int64) * x36), .ref v0]) (pc := 211) C dX11_takes_211 (c_X11_byteAt _ _ _ h39) k_1385 ys_X11_byteAt ⟨Nat.le_of_ble_eq_true rfl, Nat.le_of_ble_eq_true rfl⟩ ⟨Nat.le_of_ble_eq_true rfl, Nat.le_of_ble_eq_true rfl⟩ g40 rfl rfl (fun _ => Nat.le_of_ble_eq_true rfl) ?_
          refine J_i2l (pc := 214) C dX11_takes_214 ?_
          refine J_ladd (pc := 215) C dX11_takes_215 ?_
          refine J_ldc2 (pc := 216) C dX11_takes_216 (v := 48) k_1399 ?_
          refine J_lsub (pc := 219) C dX11_takes_219 ?_
          refine J_goto (pc := 220) C dX11_takes_220 (tgt := 227) (by decide) ?_
          refine J_sub [0] (L1 := [(0, .ref v0)]) rfl ?_
          exact B227 (f_X11_takes_170 fu n) ih w v0 v0 ((((10 : Int64) * x36) + q38.toInt64) - (48 : Int64)) hf
  have B139 : ∀ (lr80 : MW → Nat → Option MW) (lh80 : ∀ (w : MW) (v0 : Nat), lr80 w v0 = some w' → JW p l e rmX11_takes s m args below meth c 2 D dA A E (MQ below (Qr D dA E none w' A) args s 0 0 A) 0 0 80 [(0, .ref v0)] [] w) (w : MW) (v0 : Nat) (s0 : Nat) (s1 : Int64), f_X11_takes_139 fu lr80 w v0 s0 s1 = some w' → JW p l e rmX11_takes s m args below meth c 2 D dA A E (MQ below (Qr D dA E none w' A) args s 0 0 A) 0 0 139 [(0, .ref v0)] [.long s1, .ref s0] w := by
    intro lr80 lh80 w v0 s0 s1 hf
    rw [f_X11_takes_139] at hf
    refine J_put (pc := 139) C dX11_takes_139 (ci := 11) (k0 := 26) rfl iX11 tyX11 tyX11_ok nmX11 (by decide) k_1029 rfl (ty := .long) (by decide +kernel) (fun _ => rfl) (fun _ => rfl) hf (fun w48 hf => ?_)
    refine J_aload_n (pc := 142) C dX11_takes_142 rfl 0 rfl ?_
    refine J_dup (pc := 143) C dX11_takes_143 rfl ?_
    refine J_getI (pc := 144) C dX11_takes_144 (ci := 11) (k0 := 23) rfl iX11 (by decide) k_1026 hf (fun x49 hf => ?_)
    refine J_iconst (pc := 147) C dX11_takes_147 (v := 1) (by decide) ?_
    refine J_iadd (pc := 148) C dX11_takes_148 ?_
    refine J_put (pc := 149) C dX11_takes_149 (ci := 11) (k0 := 23) rfl iX11 tyX11 tyX11_ok nmX11 (by decide) k_1026 rfl (ty := .int) (by decide +kernel) (fun _ => rfl) (fun _ => rfl) hf (fun w50 hf => ?_)
    refine J_goto (pc := 152) C dX11_takes_152 (tgt := 80) (by decide) ?_
    refine J_sub [0] (L1 := [(0, .ref v0)]) rfl ?_
    exact lh80 w50 v0 hf
  have B80 : ∀ (n : Nat) (w : MW) (v0 : Nat), f_X11_takes_80 fu n w v0 = some w' → JW p l e rmX11_takes s m args below meth c 2 D dA A E (MQ below (Qr D dA E none w' A) args s 0 0 A) 0 0 80 [(0, .ref v0)] [] w := by
    intro n
    induction n with
    | zero => intro w v0 hf; rw [f_X11_takes_80] at hf; cases hf
    | succ n ih =>
      intro w v0 hf
      rw [f_X11_takes_80] at hf
      refine J_aload_n (pc := 80) C dX11_takes_80 rfl 0 rfl ?_
      refine J_aload_n (pc := 81) C dX11_takes_81 rfl 0 rfl ?_
      refine J_getI (pc := 82) C dX11_takes_82 (ci := 11) (k0 := 23) rfl iX11 (by decide) k_1026 hf (fun x41 hf => ?_)
      obtain ⟨q42, h43, hf⟩ := bind_ok hf
      obtain ⟨_, g44, h43⟩ := cl_spec h43
      refine J_cV (S := []) (pc := 85) C dX11_takes_85 (c_X11_byteAt _ _ _ h43) k_1385 ys_X11_byteAt ⟨Nat.le_of_ble_eq_true rfl, Nat.le_of_ble_eq_true rfl⟩ ⟨Nat.le_of_ble_eq_true rfl, Nat.le_of_ble_eq_true rfl⟩ g44 rfl rfl (fun _ => Nat.le_of_ble_eq_true rfl) ?_
      refine J_cS (S := []) (pc := 88) C dX11_takes_88 (c_X11_isLetter _ _ rfl) k_1389 ys_X11_isLetter ⟨Nat.le_of_ble_eq_true rfl, Nat.le_of_ble_eq_true rfl⟩ ⟨Nat.le_of_ble_eq_true rfl, Nat.le_of_ble_eq_true rfl⟩ rfl rfl (fun _ => Nat.le_of_ble_eq_true rfl) ?_
      refine J_if_eq (pc := 91) C dX11_takes_91 (tgt := 155) (by decide) hf (fun _ hf => ?_) (fun _ hf => ?_)
      · refine J_aload_n (pc := 155) C dX11_takes_155 rfl 0 rfl ?_
        refine J_iconst (pc := 156) C dX11_takes_156 (v := 1) (by decide) ?_
        refine J_put (pc := 157) C dX11_takes_157 (ci := 11) (k0 := 24) rfl iX11 tyX11 tyX11_ok nmX11 (by decide) k_1027 rfl (ty := .int) (by decide +kernel) (fun _ => rfl) (fun _ => rfl) hf (fun w45 hf => ?_)
        refine J_goto (pc := 160) C dX11_takes_160 (tgt := 305) (by decide) ?_
        exact J_vret (pc := 305) C rfl dX11_takes_305 hf
      · refine J_aload_n (pc := 94) C dX11_takes_94 rfl 0 rfl ?_
        refine J_aload_n (pc := 95) C dX11_takes_95 rfl 0 rfl ?_
        refine J_getI (pc := 96) C dX11_takes_96 (ci := 11) (k0 := 23) rfl iX11 (by decide) k_1026 hf (fun x46 hf => ?_)
        refine J_aload_n (pc := 99) C dX11_takes_99 rfl 0 rfl ?_
        refine J_getI (pc := 100) C dX11_takes_100 (ci := 11) (k0 := 25) rfl iX11 (by decide) k_1028 hf (fun x47 hf => ?_)
        refine J_isub (pc := 103) C dX11_takes_103 ?_
        refine J_bipush (pc := 104) C dX11_takes_104 (v := 9) (by decide) ?_
        refine J_icmp_ge (pc := 106) C dX11_takes_106 (tgt := 136) (by decide) hf (fun _ hf => ?_) (fun _ hf => ?_)
        · refine J_ldc2 (pc := 136) C dX11_takes_136 (v := -1) k_1394 ?_
          refine J_sub [0] (L1 := [(0, .ref v0)]) rfl ?_
          exact B139 (f_X11_takes_80 fu n) ih w v0 v0 (-1 : Int64) hf
        · refine J_ldc2 (pc := 109) C dX11_takes_109 (v := 27) k_1392 ?_
          refine J_aload_n (pc := 112) C dX11_takes_112 rfl 0 rfl ?_
          refine J_getJ (pc := 113) C dX11_takes_113 (ci := 11) (k0 := 26) rfl iX11 (by decide) k_1029 hf (fun x51 hf => ?_)
          refine J_lmul (pc := 116) C dX11_takes_116 ?_
          refine J_aload_n (pc := 117) C dX11_takes_117 rfl 0 rfl ?_
          refine J_aload_n (pc := 118) C dX11_takes_118 rfl 0 rfl ?_
          refine J_getI (pc := 119) C dX11_takes_119 (ci := 11) (k0 := 23) rfl iX11 (by decide) k_1026 hf (fun x52 hf => ?_)
          obtain ⟨q53, h54, hf⟩ := bind_ok hf
          obtain ⟨_, g55, h54⟩ := cl_spec h54
          refine J_cV (S := [.long ((27 : Int64) * x51), .ref v0]) (pc := 122) C dX11_takes_122 (c_X11_byteAt _ _ _ h54) k_1385 ys_X11_byteAt ⟨Nat.le_of_ble_eq_true rfl, Nat.le_of_ble_eq_true rfl⟩ ⟨Nat.le_of_ble_eq_true rfl, Nat.le_of_ble_eq_true rfl⟩ g55 rfl rfl (fun _ => Nat.le_of_ble_eq_true rfl) ?_
          refine J_i2l (pc := 125) C dX11_takes_125 ?_
          refine J_ladd (pc := 126) C dX11_takes_126 ?_
          refine J_ldc2 (pc := 127) C dX11_takes_127 (v := 97) k_1393 ?_
          refine J_lsub (pc := 130) C dX11_takes_130 ?_
          refine J_lconst (pc := 131) C dX11_takes_131 (v := 1) (by decide) ?_
          refine J_ladd (pc := 132) C dX11_takes_132 ?_
          refine J_goto (pc := 133) C dX11_takes_133 (tgt := 139) (by decide) ?_
          refine J_sub [0] (L1 := [(0, .ref v0)]) rfl ?_
          exact B139 (f_X11_takes_80 fu n) ih w v0 v0 (((((27 : Int64) * x51) + q53.toInt64) - (97 : Int64)) + (1 : Int64)) hf
  have B0 : ∀ (n : Nat) (w : MW) (v0 : Nat), f_X11_takes_0 fu n w v0 = some w' → JW p l e rmX11_takes s m args below meth c 2 D dA A E (MQ below (Qr D dA E none w' A) args s 0 0 A) 0 0 0 [(0, .ref v0)] [] w := by
    intro n
    induction n with
    | zero => intro w v0 hf; rw [f_X11_takes_0] at hf; cases hf
    | succ n ih =>
      intro w v0 hf
      rw [f_X11_takes_0] at hf
      refine J_aload_n (pc := 0) C dX11_takes_0 rfl 0 rfl ?_
      refine J_aload_n (pc := 1) C dX11_takes_1 rfl 0 rfl ?_
      refine J_getI (pc := 2) C dX11_takes_2 (ci := 11) (k0 := 23) rfl iX11 (by decide) k_1026 hf (fun x1 hf => ?_)
      obtain ⟨q2, h3, hf⟩ := bind_ok hf
      obtain ⟨_, g4, h3⟩ := cl_spec h3
      refine J_cV (S := []) (pc := 5) C dX11_takes_5 (c_X11_byteAt _ _ _ h3) k_1385 ys_X11_byteAt ⟨Nat.le_of_ble_eq_true rfl, Nat.le_of_ble_eq_true rfl⟩ ⟨Nat.le_of_ble_eq_true rfl, Nat.le_of_ble_eq_true rfl⟩ g4 rfl rfl (fun _ => Nat.le_of_ble_eq_true rfl) ?_
      refine J_bipush (pc := 8) C dX11_takes_8 (v := 32) (by decide) ?_
      refine J_icmp_eq (pc := 10) C dX11_takes_10 (tgt := 26) (by decide) hf (fun _ hf => ?_) (fun _ hf => ?_)
      · refine J_sub [0] (L1 := [(0, .ref v0)]) rfl ?_
        exact B26 (f_X11_takes_0 fu n) ih w v0 hf
      · refine J_aload_n (pc := 13) C dX11_takes_13 rfl 0 rfl ?_
        refine J_aload_n (pc := 14) C dX11_takes_14 rfl 0 rfl ?_
        refine J_getI (pc := 15) C dX11_takes_15 (ci := 11) (k0 := 23) rfl iX11 (by decide) k_1026 hf (fun x7 hf => ?_)
        obtain ⟨q8, h9, hf⟩ := bind_ok hf
        obtain ⟨_, g10, h9⟩ := cl_spec h9
        refine J_cV (S := []) (pc := 18) C dX11_takes_18 (c_X11_byteAt _ _ _ h9) k_1385 ys_X11_byteAt ⟨Nat.le_of_ble_eq_true rfl, Nat.le_of_ble_eq_true rfl⟩ ⟨Nat.le_of_ble_eq_true rfl, Nat.le_of_ble_eq_true rfl⟩ g10 rfl rfl (fun _ => Nat.le_of_ble_eq_true rfl) ?_
        refine J_bipush (pc := 21) C dX11_takes_21 (v := 10) (by decide) ?_
        refine J_icmp_ne (pc := 23) C dX11_takes_23 (tgt := 39) (by decide) hf (fun _ hf => ?_) (fun _ hf => ?_)
        · refine J_aload_n (pc := 39) C dX11_takes_39 rfl 0 rfl ?_
          refine J_aload_n (pc := 40) C dX11_takes_40 rfl 0 rfl ?_
          refine J_getI (pc := 41) C dX11_takes_41 (ci := 11) (k0 := 23) rfl iX11 (by decide) k_1026 hf (fun x11 hf => ?_)
          refine J_put (pc := 44) C dX11_takes_44 (ci := 11) (k0 := 25) rfl iX11 tyX11 tyX11_ok nmX11 (by decide) k_1028 rfl (ty := .int) (by decide +kernel) (fun _ => rfl) (fun _ => rfl) hf (fun w12 hf => ?_)
          refine J_aload_n (pc := 47) C dX11_takes_47 rfl 0 rfl ?_
          refine J_aload_n (pc := 48) C dX11_takes_48 rfl 0 rfl ?_
          refine J_getI (pc := 49) C dX11_takes_49 (ci := 11) (k0 := 23) rfl iX11 (by decide) k_1026 hf (fun x13 hf => ?_)
          obtain ⟨q14, h15, hf⟩ := bind_ok hf
          obtain ⟨_, g16, h15⟩ := cl_spec h15
          refine J_cV (S := []) (pc := 52) C dX11_takes_52 (c_X11_byteAt _ _ _ h15) k_1385 ys_X11_byteAt ⟨Nat.le_of_ble_eq_true rfl, Nat.le_of_ble_eq_true rfl⟩ ⟨Nat.le_of_ble_eq_true rfl, Nat.le_of_ble_eq_true rfl⟩ g16 rfl rfl (fun _ => Nat.le_of_ble_eq_true rfl) ?_
          refine J_istore_n (pc := 55) C dX11_takes_55 rfl (by decide) hf (fun q => [(1, .int q), (0, .ref v0)]) (fun _ => rfl) (fun x17 hf => ?_)
          refine J_aload_n (pc := 56) C dX11_takes_56 rfl 1 rfl ?_
          refine J_lconst (pc := 57) C dX11_takes_57 (v := 0) (by decide) ?_
          refine J_put (pc := 58) C dX11_takes_58 (ci := 11) (k0 := 26) rfl iX11 tyX11 tyX11_ok nmX11 (by decide) k_1029 rfl (ty := .long) (by decide +kernel) (fun _ => rfl) (fun _ => rfl) hf (fun w18 hf => ?_)
          refine J_iload_n (pc := 61) C dX11_takes_61 rfl 0 rfl ?_
          refine J_if_ge (pc := 62) C dX11_takes_62 (tgt := 73) (by decide) hf (fun _ hf => ?_) (fun _ hf => ?_)
          · refine J_iload_n (pc := 73) C dX11_takes_73 rfl 0 rfl ?_
            refine J_cS (S := []) (pc := 74) C dX11_takes_74 (c_X11_isLetter _ _ rfl) k_1389 ys_X11_isLetter ⟨Nat.le_of_ble_eq_true rfl, Nat.le_of_ble_eq_true rfl⟩ ⟨Nat.le_of_ble_eq_true rfl, Nat.le_of_ble_eq_true rfl⟩ rfl rfl (fun _ => Nat.le_of_ble_eq_true rfl) ?_
            refine J_if_eq (pc := 77) C dX11_takes_77 (tgt := 163) (by decide) hf (fun _ hf => ?_) (fun _ hf => ?_)
            · refine J_iload_n (pc := 163) C dX11_takes_163 rfl 0 rfl ?_
              refine J_cS (S := []) (pc := 164) C dX11_takes_164 (c_X11_isDigit _ _ rfl) k_1395 ys_X11_isDigit ⟨Nat.le_of_ble_eq_true rfl, Nat.le_of_ble_eq_true rfl⟩ ⟨Nat.le_of_ble_eq_true rfl, Nat.le_of_ble_eq_true rfl⟩ rfl rfl (fun _ => Nat.le_of_ble_eq_true rfl) ?_
              refine J_if_eq (pc := 167) C dX11_takes_167 (tgt := 268) (by decide) hf (fun _ hf => ?_) (fun _ hf => ?_)
              · refine J_aload_n (pc := 268) C dX11_takes_268 rfl 1 rfl ?_
                refine J_dup (pc := 269) C dX11_takes_269 rfl ?_
                refine J_getI (pc := 270) C dX11_takes_270 (ci := 11) (k0 := 23) rfl iX11 (by decide) k_1026 hf (fun x19 hf => ?_)
                refine J_iconst (pc := 273) C dX11_takes_273 (v := 1) (by decide) ?_
                refine J_iadd (pc := 274) C dX11_takes_274 ?_
                refine J_put (pc := 275) C dX11_takes_275 (ci := 11) (k0 := 23) rfl iX11 tyX11 tyX11_ok nmX11 (by decide) k_1026 rfl (ty := .int) (by decide +kernel) (fun _ => rfl) (fun _ => rfl) hf (fun w20 hf => ?_)
                refine J_aload_n (pc := 278) C dX11_takes_278 rfl 1 rfl ?_
                refine J_iload_n (pc := 279) C dX11_takes_279 rfl 0 rfl ?_
                refine J_i2l (pc := 280) C dX11_takes_280 ?_
                refine J_put (pc := 281) C dX11_takes_281 (ci := 11) (k0 := 26) rfl iX11 tyX11 tyX11_ok nmX11 (by decide) k_1029 rfl (ty := .long) (by decide +kernel) (fun _ => rfl) (fun _ => rfl) hf (fun w21 hf => ?_)
                refine J_aload_n (pc := 284) C dX11_takes_284 rfl 1 rfl ?_
                refine J_iload_n (pc := 285) C dX11_takes_285 rfl 0 rfl ?_
                refine J_bipush (pc := 286) C dX11_takes_286 (v := 59) (by decide) ?_
                refine J_icmp_eq (pc := 288) C dX11_takes_288 (tgt := 297) (by decide) hf (fun _ hf => ?_) (fun _ hf => ?_)
                · refine J_iconst (pc := 297) C dX11_takes_297 (v := 3) (by decide) ?_
                  refine J_goto (pc := 298) C dX11_takes_298 (tgt := 302) (by decide) ?_
                  refine J_sub [] (L1 := []) rfl ?_
                  exact B302 w21 v0 (3 : Int32) hf
                · refine J_iload_n (pc := 291) C dX11_takes_291 rfl 0 rfl ?_
                  refine J_bipush (pc := 292) C dX11_takes_292 (v := 45) (by decide) ?_
                  refine J_icmp_ne (pc := 294) C dX11_takes_294 (tgt := 301) (by decide) hf (fun _ hf => ?_) (fun _ hf => ?_)
                  · refine J_iconst (pc := 301) C dX11_takes_301 (v := 4) (by decide) ?_
                    refine J_sub [] (L1 := []) rfl ?_
                    exact B302 w21 v0 (4 : Int32) hf
                  · refine J_iconst (pc := 297) C dX11_takes_297 (v := 3) (by decide) ?_
                    refine J_goto (pc := 298) C dX11_takes_298 (tgt := 302) (by decide) ?_
                    refine J_sub [] (L1 := []) rfl ?_
                    exact B302 w21 v0 (3 : Int32) hf
              · refine J_sub [1] (L1 := [(0, .ref v0)]) rfl ?_
                exact B170 fu w18 v0 hf
            · refine J_sub [1] (L1 := [(0, .ref v0)]) rfl ?_
              exact B80 fu w18 v0 hf
          · refine J_aload_n (pc := 65) C dX11_takes_65 rfl 1 rfl ?_
            refine J_iconst (pc := 66) C dX11_takes_66 (v := 0) (by decide) ?_
            refine J_put (pc := 67) C dX11_takes_67 (ci := 11) (k0 := 24) rfl iX11 tyX11 tyX11_ok nmX11 (by decide) k_1027 rfl (ty := .int) (by decide +kernel) (fun _ => rfl) (fun _ => rfl) hf (fun w56 hf => ?_)
            refine J_goto (pc := 70) C dX11_takes_70 (tgt := 305) (by decide) ?_
            exact J_vret (pc := 305) C rfl dX11_takes_305 hf
        · refine J_sub [0] (L1 := [(0, .ref v0)]) rfl ?_
          exact B26 (f_X11_takes_0 fu n) ih w v0 hf
  rw [f_X11_takes] at hf
  refine J_sub [0] (L1 := [(0, .ref v0)]) rfl ?_
  refine J_sub [0] (L1 := [(0, .ref v0)]) rfl ?_
  exact B0 fu w v0 hf
set_option maxRecDepth 100000 in
set_option maxHeartbeats 4000000 in
theorem c_X11_fails {l : Launch} {D : va_G} {dA : FieldType → ClassId} (w : MW) (v0 : Nat) (v1 : Int32) (v2 : Int32) {w' : MW} (hf : f_X11_fails w v0 v1 v2 = some w') : CT l D dA yX11_fails cX11_fails 3 none rmX11_fails [.ref v0, .int v1, .int v2] w none w' := by
  refine J_met (by decide) rfl (Nat.le_of_ble_eq_true rfl) (fun p e s m args below meth c A E C => ?_)
  rw [f_X11_fails] at hf
  refine J_sub [0, 1, 2] (L1 := [(0, .ref v0), (1, .int v1), (2, .int v2)]) rfl ?_
  refine J_aload_n (pc := 0) C dX11_fails_0 rfl 0 rfl ?_
  refine J_getI (pc := 1) C dX11_fails_1 (ci := 11) (k0 := 6) rfl iX11 (by decide) k_1009 hf (fun x1 hf => ?_)
  refine J_if_le (pc := 4) C dX11_fails_4 (tgt := 8) (by decide) hf (fun _ hf => ?_) (fun _ hf => ?_)
  · refine J_aload_n (pc := 8) C dX11_fails_8 rfl 0 rfl ?_
    refine J_iload_n (pc := 9) C dX11_fails_9 rfl 1 rfl ?_
    refine J_put (pc := 10) C dX11_fails_10 (ci := 11) (k0 := 6) rfl iX11 tyX11 tyX11_ok nmX11 (by decide) k_1009 rfl (ty := .int) (by decide +kernel) (fun _ => rfl) (fun _ => rfl) hf (fun w2 hf => ?_)
    refine J_aload_n (pc := 13) C dX11_fails_13 rfl 0 rfl ?_
    refine J_iload_n (pc := 14) C dX11_fails_14 rfl 2 rfl ?_
    refine J_put (pc := 15) C dX11_fails_15 (ci := 11) (k0 := 7) rfl iX11 tyX11 tyX11_ok nmX11 (by decide) k_1010 rfl (ty := .int) (by decide +kernel) (fun _ => rfl) (fun _ => rfl) hf (fun w3 hf => ?_)
    exact J_vret (pc := 18) C rfl dX11_fails_18 hf
  · exact J_vret (pc := 7) C rfl dX11_fails_7 hf
set_option maxRecDepth 100000 in
set_option maxHeartbeats 4000000 in
theorem c_X11_isGood {l : Launch} {D : va_G} {dA : FieldType → ClassId} (w : MW) (v0 : Nat) {rr : Int32} (hf : f_X11_isGood w v0 = some rr) : CT l D dA yX11_isGood cX11_isGood 1 (some .boolean) rmX11_isGood [.ref v0] w (some (.int rr)) w := by
  refine J_met (by decide) rfl (Nat.le_of_ble_eq_true rfl) (fun p e s m args below meth c A E C => ?_)
  rw [f_X11_isGood] at hf
  refine J_sub [0] (L1 := [(0, .ref v0)]) rfl ?_
  refine J_aload_n (pc := 0) C dX11_isGood_0 rfl 0 rfl ?_
  refine J_getI (pc := 1) C dX11_isGood_1 (ci := 11) (k0 := 6) rfl iX11 (by decide) k_1009 hf (fun x1 hf => ?_)
  refine J_if_ne (pc := 4) C dX11_isGood_4 (tgt := 11) (by decide) hf (fun _ hf => ?_) (fun _ hf => ?_)
  · refine J_iconst (pc := 11) C dX11_isGood_11 (v := 0) (by decide) ?_
    exact J_iretP (pc := 12) C  rfl (by decide) dX11_isGood_12 hf
  · refine J_iconst (pc := 7) C dX11_isGood_7 (v := 1) (by decide) ?_
    refine J_goto (pc := 8) C dX11_isGood_8 (tgt := 12) (by decide) ?_
    exact J_iretP (pc := 12) C  rfl (by decide) dX11_isGood_12 hf
set_option maxRecDepth 100000 in
set_option maxHeartbeats 4000000 in
theorem c_X11_hasWord {l : Launch} {D : va_G} {dA : FieldType → ClassId} (fu : Nat) (w : MW) (v0 : Nat) (v1 : Int64) {rr : Int32} {w' : MW} (hf : f_X11_hasWord fu w v0 v1 = some (rr, w')) : CT l D dA yX11_hasWord cX11_hasWord 4 (some .boolean) rmX11_hasWord [.ref v0, .long v1] w (some (.int rr)) w' := by
  refine J_met (by decide) rfl (Nat.le_of_ble_eq_true rfl) (fun p e s m args below meth c A E C => ?_)
  have B29 : ∀ (w : MW) (v0 : Nat) (s0 : Int32), f_X11_hasWord_29 fu w v0 s0 = some (rr, w') → JW p l e rmX11_hasWord s m args below meth c 4 D dA A E (MQ below (Qr D dA E (some (.int rr)) w' A) args s 0 0 A) 0 0 29 [(0, .ref v0)] [.int s0] w := by
    intro w v0 s0 hf
    rw [f_X11_hasWord_29] at hf
    refine J_istore_n (pc := 29) C dX11_hasWord_29 rfl (by decide) hf (fun q => [(3, .int q), (0, .ref v0)]) (fun _ => rfl) (fun x4 hf => ?_)
    refine J_iload_n (pc := 30) C dX11_hasWord_30 rfl 0 rfl ?_
    refine J_if_eq (pc := 31) C dX11_hasWord_31 (tgt := 38) (by decide) hf (fun _ hf => ?_) (fun _ hf => ?_)
    · refine J_iload_n (pc := 38) C dX11_hasWord_38 rfl 0 rfl ?_
      obtain ⟨x5, hx5, hf2⟩ := bind_ok hf
      obtain ⟨hx5, ex5⟩ := zr_spec hx5
      rw [ex5] at hf2
      exact J_iret (pc := 39) C  rfl hx5 dX11_hasWord_39 hf2
    · refine J_aload_n (pc := 34) C dX11_hasWord_34 rfl 1 rfl ?_
      obtain ⟨q6, h7, hf⟩ := bind_ok hf
      obtain ⟨_, g8, h7⟩ := cl_spec h7
      refine J_cV (S := []) (pc := 35) C dX11_hasWord_35 (c_X11_takes _ _ _ h7) k_1381 ys_X11_takes ⟨Nat.le_of_ble_eq_true rfl, Nat.le_of_ble_eq_true rfl⟩ ⟨Nat.le_of_ble_eq_true rfl, Nat.le_of_ble_eq_true rfl⟩ g8 rfl rfl (fun _ => Nat.le_of_ble_eq_true rfl) ?_
      refine J_iload_n (pc := 38) C dX11_hasWord_38 rfl 0 rfl ?_
      obtain ⟨x9, hx9, hf2⟩ := bind_ok hf
      obtain ⟨hx9, ex9⟩ := zr_spec hx9
      rw [ex9] at hf2
      exact J_iret (pc := 39) C  rfl hx9 dX11_hasWord_39 hf2
  rw [f_X11_hasWord] at hf
  refine J_sub [0, 1] (L1 := [(0, .ref v0), (1, .long v1)]) rfl ?_
  refine J_aload_n (pc := 0) C dX11_hasWord_0 rfl 0 rfl ?_
  obtain ⟨q1, h2, hf⟩ := bind_ok hf
  obtain ⟨_, g3, h2⟩ := cl_spec h2
  refine J_cV (S := []) (pc := 1) C dX11_hasWord_1 (c_X11_isGood _ _ h2) k_1400 ys_X11_isGood ⟨Nat.le_of_ble_eq_true rfl, Nat.le_of_ble_eq_true rfl⟩ ⟨Nat.le_of_ble_eq_true rfl, Nat.le_of_ble_eq_true rfl⟩ g3 rfl rfl (fun _ => Nat.le_of_ble_eq_true rfl) ?_
  refine J_if_eq (pc := 4) C dX11_hasWord_4 (tgt := 28) (by decide) hf (fun _ hf => ?_) (fun _ hf => ?_)
  · refine J_iconst (pc := 28) C dX11_hasWord_28 (v := 0) (by decide) ?_
    refine J_sub [0] (L1 := [(0, .ref v0)]) rfl ?_
    exact B29 w v0 (0 : Int32) hf
  · refine J_aload_n (pc := 7) C dX11_hasWord_7 rfl 0 rfl ?_
    refine J_getI (pc := 8) C dX11_hasWord_8 (ci := 11) (k0 := 24) rfl iX11 (by decide) k_1027 hf (fun x10 hf => ?_)
    refine J_iconst (pc := 11) C dX11_hasWord_11 (v := 1) (by decide) ?_
    refine J_icmp_ne (pc := 12) C dX11_hasWord_12 (tgt := 28) (by decide) hf (fun _ hf => ?_) (fun _ hf => ?_)
    · refine J_iconst (pc := 28) C dX11_hasWord_28 (v := 0) (by decide) ?_
      refine J_sub [0] (L1 := [(0, .ref v0)]) rfl ?_
      exact B29 w v0 (0 : Int32) hf
    · refine J_aload_n (pc := 15) C dX11_hasWord_15 rfl 0 rfl ?_
      refine J_getJ (pc := 16) C dX11_hasWord_16 (ci := 11) (k0 := 26) rfl iX11 (by decide) k_1029 hf (fun x11 hf => ?_)
      refine J_lload_n (pc := 19) C dX11_hasWord_19 rfl 1 rfl ?_
      refine J_lcmp (pc := 20) C dX11_hasWord_20 ?_
      refine J_if_ne (pc := 21) C dX11_hasWord_21 (tgt := 28) (by decide) hf (fun _ hf => ?_) (fun _ hf => ?_)
      · refine J_iconst (pc := 28) C dX11_hasWord_28 (v := 0) (by decide) ?_
        refine J_sub [0] (L1 := [(0, .ref v0)]) rfl ?_
        exact B29 w v0 (0 : Int32) hf
      · refine J_iconst (pc := 24) C dX11_hasWord_24 (v := 1) (by decide) ?_
        refine J_goto (pc := 25) C dX11_hasWord_25 (tgt := 29) (by decide) ?_
        refine J_sub [0] (L1 := [(0, .ref v0)]) rfl ?_
        exact B29 w v0 (1 : Int32) hf
set_option maxRecDepth 100000 in
set_option maxHeartbeats 4000000 in
theorem c_X11_hasSign {l : Launch} {D : va_G} {dA : FieldType → ClassId} (fu : Nat) (w : MW) (v0 : Nat) (v1 : Int32) {rr : Int32} {w' : MW} (hf : f_X11_hasSign fu w v0 v1 = some (rr, w')) : CT l D dA yX11_hasSign cX11_hasSign 3 (some .boolean) rmX11_hasSign [.ref v0, .int v1] w (some (.int rr)) w' := by
  refine J_met (by decide) rfl (Nat.le_of_ble_eq_true rfl) (fun p e s m args below meth c A E C => ?_)
  have B30 : ∀ (w : MW) (v0 : Nat) (s0 : Int32), f_X11_hasSign_30 fu w v0 s0 = some (rr, w') → JW p l e rmX11_hasSign s m args below meth c 3 D dA A E (MQ below (Qr D dA E (some (.int rr)) w' A) args s 0 0 A) 0 0 30 [(0, .ref v0)] [.int s0] w := by
    intro w v0 s0 hf
    rw [f_X11_hasSign_30] at hf
    refine J_istore_n (pc := 30) C dX11_hasSign_30 rfl (by decide) hf (fun q => [(2, .int q), (0, .ref v0)]) (fun _ => rfl) (fun x4 hf => ?_)
    refine J_iload_n (pc := 31) C dX11_hasSign_31 rfl 0 rfl ?_
    refine J_if_eq (pc := 32) C dX11_hasSign_32 (tgt := 39) (by decide) hf (fun _ hf => ?_) (fun _ hf => ?_)
    · refine J_iload_n (pc := 39) C dX11_hasSign_39 rfl 0 rfl ?_
      obtain ⟨x5, hx5, hf2⟩ := bind_ok hf
      obtain ⟨hx5, ex5⟩ := zr_spec hx5
      rw [ex5] at hf2
      exact J_iret (pc := 40) C  rfl hx5 dX11_hasSign_40 hf2
    · refine J_aload_n (pc := 35) C dX11_hasSign_35 rfl 1 rfl ?_
      obtain ⟨q6, h7, hf⟩ := bind_ok hf
      obtain ⟨_, g8, h7⟩ := cl_spec h7
      refine J_cV (S := []) (pc := 36) C dX11_hasSign_36 (c_X11_takes _ _ _ h7) k_1381 ys_X11_takes ⟨Nat.le_of_ble_eq_true rfl, Nat.le_of_ble_eq_true rfl⟩ ⟨Nat.le_of_ble_eq_true rfl, Nat.le_of_ble_eq_true rfl⟩ g8 rfl rfl (fun _ => Nat.le_of_ble_eq_true rfl) ?_
      refine J_iload_n (pc := 39) C dX11_hasSign_39 rfl 0 rfl ?_
      obtain ⟨x9, hx9, hf2⟩ := bind_ok hf
      obtain ⟨hx9, ex9⟩ := zr_spec hx9
      rw [ex9] at hf2
      exact J_iret (pc := 40) C  rfl hx9 dX11_hasSign_40 hf2
  rw [f_X11_hasSign] at hf
  refine J_sub [0, 1] (L1 := [(0, .ref v0), (1, .int v1)]) rfl ?_
  refine J_aload_n (pc := 0) C dX11_hasSign_0 rfl 0 rfl ?_
  obtain ⟨q1, h2, hf⟩ := bind_ok hf
  obtain ⟨_, g3, h2⟩ := cl_spec h2
  refine J_cV (S := []) (pc := 1) C dX11_hasSign_1 (c_X11_isGood _ _ h2) k_1400 ys_X11_isGood ⟨Nat.le_of_ble_eq_true rfl, Nat.le_of_ble_eq_true rfl⟩ ⟨Nat.le_of_ble_eq_true rfl, Nat.le_of_ble_eq_true rfl⟩ g3 rfl rfl (fun _ => Nat.le_of_ble_eq_true rfl) ?_
  refine J_if_eq (pc := 4) C dX11_hasSign_4 (tgt := 29) (by decide) hf (fun _ hf => ?_) (fun _ hf => ?_)
  · refine J_iconst (pc := 29) C dX11_hasSign_29 (v := 0) (by decide) ?_
    refine J_sub [0] (L1 := [(0, .ref v0)]) rfl ?_
    exact B30 w v0 (0 : Int32) hf
  · refine J_aload_n (pc := 7) C dX11_hasSign_7 rfl 0 rfl ?_
    refine J_getI (pc := 8) C dX11_hasSign_8 (ci := 11) (k0 := 24) rfl iX11 (by decide) k_1027 hf (fun x10 hf => ?_)
    refine J_iconst (pc := 11) C dX11_hasSign_11 (v := 3) (by decide) ?_
    refine J_icmp_ne (pc := 12) C dX11_hasSign_12 (tgt := 29) (by decide) hf (fun _ hf => ?_) (fun _ hf => ?_)
    · refine J_iconst (pc := 29) C dX11_hasSign_29 (v := 0) (by decide) ?_
      refine J_sub [0] (L1 := [(0, .ref v0)]) rfl ?_
      exact B30 w v0 (0 : Int32) hf
    · refine J_aload_n (pc := 15) C dX11_hasSign_15 rfl 0 rfl ?_
      refine J_getJ (pc := 16) C dX11_hasSign_16 (ci := 11) (k0 := 26) rfl iX11 (by decide) k_1029 hf (fun x11 hf => ?_)
      refine J_iload_n (pc := 19) C dX11_hasSign_19 rfl 1 rfl ?_
      refine J_i2l (pc := 20) C dX11_hasSign_20 ?_
      refine J_lcmp (pc := 21) C dX11_hasSign_21 ?_
      refine J_if_ne (pc := 22) C dX11_hasSign_22 (tgt := 29) (by decide) hf (fun _ hf => ?_) (fun _ hf => ?_)
      · refine J_iconst (pc := 29) C dX11_hasSign_29 (v := 0) (by decide) ?_
        refine J_sub [0] (L1 := [(0, .ref v0)]) rfl ?_
        exact B30 w v0 (0 : Int32) hf
      · refine J_iconst (pc := 25) C dX11_hasSign_25 (v := 1) (by decide) ?_
        refine J_goto (pc := 26) C dX11_hasSign_26 (tgt := 30) (by decide) ?_
        refine J_sub [0] (L1 := [(0, .ref v0)]) rfl ?_
        exact B30 w v0 (1 : Int32) hf
set_option maxRecDepth 100000 in
set_option maxHeartbeats 4000000 in
theorem c_X11_numeral {l : Launch} {D : va_G} {dA : FieldType → ClassId} (fu : Nat) (w : MW) (v0 : Nat) {rr : Int32} {w' : MW} (hf : f_X11_numeral fu w v0 = some (rr, w')) : CT l D dA yX11_numeral cX11_numeral 2 (some .int) rmX11_numeral [.ref v0] w (some (.int rr)) w' := by
  refine J_met (by decide) rfl (Nat.le_of_ble_eq_true rfl) (fun p e s m args below meth c A E C => ?_)
  have B24 : ∀ (w : MW) (v0 : Nat), f_X11_numeral_24 fu w v0 = some (rr, w') → JW p l e rmX11_numeral s m args below meth c 2 D dA A E (MQ below (Qr D dA E (some (.int rr)) w' A) args s 0 0 A) 0 0 24 [(0, .ref v0)] [] w := by
    intro w v0 hf
    rw [f_X11_numeral_24] at hf
    refine J_aload_n (pc := 24) C dX11_numeral_24 rfl 0 rfl ?_
    obtain ⟨q4, h5, hf⟩ := bind_ok hf
    obtain ⟨_, g6, h5⟩ := cl_spec h5
    refine J_cV (S := []) (pc := 25) C dX11_numeral_25 (c_X11_isGood _ _ h5) k_1400 ys_X11_isGood ⟨Nat.le_of_ble_eq_true rfl, Nat.le_of_ble_eq_true rfl⟩ ⟨Nat.le_of_ble_eq_true rfl, Nat.le_of_ble_eq_true rfl⟩ g6 rfl rfl (fun _ => Nat.le_of_ble_eq_true rfl) ?_
    refine J_if_ne (pc := 28) C dX11_numeral_28 (tgt := 33) (by decide) hf (fun _ hf => ?_) (fun _ hf => ?_)
    · refine J_aload_n (pc := 33) C dX11_numeral_33 rfl 0 rfl ?_
      refine J_getJ (pc := 34) C dX11_numeral_34 (ci := 11) (k0 := 26) rfl iX11 (by decide) k_1029 hf (fun x7 hf => ?_)
      refine J_l2i (pc := 37) C dX11_numeral_37 ?_
      refine J_istore_n (pc := 38) C dX11_numeral_38 rfl (by decide) hf (fun q => [(1, .int q), (0, .ref v0)]) (fun _ => rfl) (fun x8 hf => ?_)
      refine J_aload_n (pc := 39) C dX11_numeral_39 rfl 1 rfl ?_
      obtain ⟨q9, h10, hf⟩ := bind_ok hf
      obtain ⟨_, g11, h10⟩ := cl_spec h10
      refine J_cV (S := []) (pc := 40) C dX11_numeral_40 (c_X11_takes _ _ _ h10) k_1381 ys_X11_takes ⟨Nat.le_of_ble_eq_true rfl, Nat.le_of_ble_eq_true rfl⟩ ⟨Nat.le_of_ble_eq_true rfl, Nat.le_of_ble_eq_true rfl⟩ g11 rfl rfl (fun _ => Nat.le_of_ble_eq_true rfl) ?_
      refine J_iload_n (pc := 43) C dX11_numeral_43 rfl 0 rfl ?_
      exact J_iret (pc := 44) C  rfl rfl dX11_numeral_44 hf
    · refine J_iconst (pc := 31) C dX11_numeral_31 (v := 0) (by decide) ?_
      exact J_iret (pc := 32) C  rfl rfl dX11_numeral_32 hf
  rw [f_X11_numeral] at hf
  refine J_sub [0] (L1 := [(0, .ref v0)]) rfl ?_
  refine J_aload_n (pc := 0) C dX11_numeral_0 rfl 0 rfl ?_
  obtain ⟨q1, h2, hf⟩ := bind_ok hf
  obtain ⟨_, g3, h2⟩ := cl_spec h2
  refine J_cV (S := []) (pc := 1) C dX11_numeral_1 (c_X11_isGood _ _ h2) k_1400 ys_X11_isGood ⟨Nat.le_of_ble_eq_true rfl, Nat.le_of_ble_eq_true rfl⟩ ⟨Nat.le_of_ble_eq_true rfl, Nat.le_of_ble_eq_true rfl⟩ g3 rfl rfl (fun _ => Nat.le_of_ble_eq_true rfl) ?_
  refine J_if_eq (pc := 4) C dX11_numeral_4 (tgt := 24) (by decide) hf (fun _ hf => ?_) (fun _ hf => ?_)
  · refine J_sub [0] (L1 := [(0, .ref v0)]) rfl ?_
    exact B24 w v0 hf
  · refine J_aload_n (pc := 7) C dX11_numeral_7 rfl 0 rfl ?_
    refine J_getI (pc := 8) C dX11_numeral_8 (ci := 11) (k0 := 24) rfl iX11 (by decide) k_1027 hf (fun x12 hf => ?_)
    refine J_iconst (pc := 11) C dX11_numeral_11 (v := 2) (by decide) ?_
    refine J_icmp_eq (pc := 12) C dX11_numeral_12 (tgt := 24) (by decide) hf (fun _ hf => ?_) (fun _ hf => ?_)
    · refine J_sub [0] (L1 := [(0, .ref v0)]) rfl ?_
      exact B24 w v0 hf
    · refine J_aload_n (pc := 15) C dX11_numeral_15 rfl 0 rfl ?_
      refine J_iconst (pc := 16) C dX11_numeral_16 (v := 1) (by decide) ?_
      refine J_aload_n (pc := 17) C dX11_numeral_17 rfl 0 rfl ?_
      refine J_getI (pc := 18) C dX11_numeral_18 (ci := 11) (k0 := 25) rfl iX11 (by decide) k_1028 hf (fun x13 hf => ?_)
      obtain ⟨q14, h15, hf⟩ := bind_ok hf
      obtain ⟨_, g16, h15⟩ := cl_spec h15
      refine J_cV (S := []) (pc := 21) C dX11_numeral_21 (c_X11_fails _ _ _ _ h15) k_1425 ys_X11_fails ⟨Nat.le_of_ble_eq_true rfl, Nat.le_of_ble_eq_true rfl⟩ ⟨Nat.le_of_ble_eq_true rfl, Nat.le_of_ble_eq_true rfl⟩ g16 rfl rfl (fun _ => Nat.le_of_ble_eq_true rfl) ?_
      refine J_sub [0] (L1 := [(0, .ref v0)]) rfl ?_
      exact B24 q14 v0 hf
set_option maxRecDepth 100000 in
set_option maxHeartbeats 4000000 in
theorem c_X11_setNumber {l : Launch} {D : va_G} {dA : FieldType → ClassId} (fu : Nat) (w : MW) (v0 : Nat) {rr : Int32} {w' : MW} (hf : f_X11_setNumber fu w v0 = some (rr, w')) : CT l D dA yX11_setNumber cX11_setNumber 3 (some .int) rmX11_setNumber [.ref v0] w (some (.int rr)) w' := by
  refine J_met (by decide) rfl (Nat.le_of_ble_eq_true rfl) (fun p e s m args below meth c A E C => ?_)
  have B30 : ∀ (w : MW) (v0 : Nat) (v2 : Int32), f_X11_setNumber_30 fu w v0 v2 = some (rr, w') → JW p l e rmX11_setNumber s m args below meth c 3 D dA A E (MQ below (Qr D dA E (some (.int rr)) w' A) args s 0 0 A) 0 0 30 [(0, .ref v0), (2, .int v2)] [] w := by
    intro w v0 v2 hf
    rw [f_X11_setNumber_30] at hf
    refine J_aload_n (pc := 30) C dX11_setNumber_30 rfl 0 rfl ?_
    obtain ⟨q10, h11, hf⟩ := bind_ok hf
    obtain ⟨_, g12, h11⟩ := cl_spec h11
    refine J_cV (S := []) (pc := 31) C dX11_setNumber_31 (c_X11_isGood _ _ h11) k_1400 ys_X11_isGood ⟨Nat.le_of_ble_eq_true rfl, Nat.le_of_ble_eq_true rfl⟩ ⟨Nat.le_of_ble_eq_true rfl, Nat.le_of_ble_eq_true rfl⟩ g12 rfl rfl (fun _ => Nat.le_of_ble_eq_true rfl) ?_
    refine J_if_eq (pc := 34) C dX11_setNumber_34 (tgt := 41) (by decide) hf (fun _ hf => ?_) (fun _ hf => ?_)
    · refine J_iconst (pc := 41) C dX11_setNumber_41 (v := 0) (by decide) ?_
      exact J_iret (pc := 42) C  rfl rfl dX11_setNumber_42 hf
    · refine J_iload_n (pc := 37) C dX11_setNumber_37 rfl 1 rfl ?_
      refine J_goto (pc := 38) C dX11_setNumber_38 (tgt := 42) (by decide) ?_
      exact J_iret (pc := 42) C  rfl rfl dX11_setNumber_42 hf
  rw [f_X11_setNumber] at hf
  refine J_sub [0] (L1 := [(0, .ref v0)]) rfl ?_
  refine J_aload_n (pc := 0) C dX11_setNumber_0 rfl 0 rfl ?_
  refine J_getI (pc := 1) C dX11_setNumber_1 (ci := 11) (k0 := 25) rfl iX11 (by decide) k_1028 hf (fun x1 hf => ?_)
  refine J_istore_n (pc := 4) C dX11_setNumber_4 rfl (by decide) hf (fun q => [(1, .int q), (0, .ref v0)]) (fun _ => rfl) (fun x2 hf => ?_)
  refine J_aload_n (pc := 5) C dX11_setNumber_5 rfl 1 rfl ?_
  obtain ⟨q3, h4, hf⟩ := bind_ok hf
  obtain ⟨_, g5, h4⟩ := cl_spec h4
  refine J_cV (S := []) (pc := 6) C dX11_setNumber_6 (c_X11_numeral _ _ _ h4) k_1421 ys_X11_numeral ⟨Nat.le_of_ble_eq_true rfl, Nat.le_of_ble_eq_true rfl⟩ ⟨Nat.le_of_ble_eq_true rfl, Nat.le_of_ble_eq_true rfl⟩ g5 rfl rfl (fun _ => Nat.le_of_ble_eq_true rfl) ?_
  refine J_istore_n (pc := 9) C dX11_setNumber_9 rfl (by decide) hf (fun q => [(2, .int q), (1, .int x2), (0, .ref v0)]) (fun _ => rfl) (fun x6 hf => ?_)
  refine J_aload_n (pc := 10) C dX11_setNumber_10 rfl 2 rfl ?_
  obtain ⟨q7, h8, hf⟩ := bind_ok hf
  obtain ⟨_, g9, h8⟩ := cl_spec h8
  refine J_cV (S := []) (pc := 11) C dX11_setNumber_11 (c_X11_isGood _ _ h8) k_1400 ys_X11_isGood ⟨Nat.le_of_ble_eq_true rfl, Nat.le_of_ble_eq_true rfl⟩ ⟨Nat.le_of_ble_eq_true rfl, Nat.le_of_ble_eq_true rfl⟩ g9 rfl rfl (fun _ => Nat.le_of_ble_eq_true rfl) ?_
  refine J_if_eq (pc := 14) C dX11_setNumber_14 (tgt := 30) (by decide) hf (fun _ hf => ?_) (fun _ hf => ?_)
  · refine J_sub [2, 0] (L1 := [(0, .ref v0), (2, .int x6)]) rfl ?_
    exact B30 q3.2 v0 x6 hf
  · refine J_iload_n (pc := 17) C dX11_setNumber_17 rfl 0 rfl ?_
    refine J_cS (S := []) (pc := 18) C dX11_setNumber_18 (c_X11_isSet _ _ rfl) k_1094 ys_X11_isSet ⟨Nat.le_of_ble_eq_true rfl, Nat.le_of_ble_eq_true rfl⟩ ⟨Nat.le_of_ble_eq_true rfl, Nat.le_of_ble_eq_true rfl⟩ rfl rfl (fun _ => Nat.le_of_ble_eq_true rfl) ?_
    refine J_if_ne (pc := 21) C dX11_setNumber_21 (tgt := 30) (by decide) hf (fun _ hf => ?_) (fun _ hf => ?_)
    · refine J_sub [2, 0] (L1 := [(0, .ref v0), (2, .int x6)]) rfl ?_
      exact B30 q3.2 v0 x6 hf
    · refine J_aload_n (pc := 24) C dX11_setNumber_24 rfl 2 rfl ?_
      refine J_iconst (pc := 25) C dX11_setNumber_25 (v := 2) (by decide) ?_
      refine J_iload_n (pc := 26) C dX11_setNumber_26 rfl 1 rfl ?_
      obtain ⟨q13, h14, hf⟩ := bind_ok hf
      obtain ⟨_, g15, h14⟩ := cl_spec h14
      refine J_cV (S := []) (pc := 27) C dX11_setNumber_27 (c_X11_fails _ _ _ _ h14) k_1425 ys_X11_fails ⟨Nat.le_of_ble_eq_true rfl, Nat.le_of_ble_eq_true rfl⟩ ⟨Nat.le_of_ble_eq_true rfl, Nat.le_of_ble_eq_true rfl⟩ g15 rfl rfl (fun _ => Nat.le_of_ble_eq_true rfl) ?_
      refine J_sub [2, 0] (L1 := [(0, .ref v0), (2, .int x6)]) rfl ?_
      exact B30 q13 v0 x6 hf
set_option maxRecDepth 100000 in
set_option maxHeartbeats 4000000 in
theorem c_X11_readsKeys {l : Launch} {D : va_G} {dA : FieldType → ClassId} (fu : Nat) (w : MW) (v0 : Nat) (v1 : Int32) {w' : MW} (hf : f_X11_readsKeys fu w v0 v1 = some w') : CT l D dA yX11_readsKeys cX11_readsKeys 7 none rmX11_readsKeys [.ref v0, .int v1] w none w' := by
  refine J_met (by decide) rfl (Nat.le_of_ble_eq_true rfl) (fun p e s m args below meth c A E C => ?_)
  have B105 : ∀ (lr57 : MW → Nat → Int32 → Int32 → Int32 → Int32 → Option MW) (lh57 : ∀ (w : MW) (v0 : Nat) (v1 : Int32) (v2 : Int32) (v4 : Int32) (v5 : Int32), lr57 w v0 v1 v2 v4 v5 = some w' → JW p l e rmX11_readsKeys s m args below meth c 7 D dA A E (MQ below (Qr D dA E none w' A) args s 0 0 A) 0 0 57 [(0, .ref v0), (1, .int v1), (2, .int v2), (4, .int v4), (5, .int v5)] [] w) (w : MW) (v0 : Nat) (v1 : Int32) (v2 : Int32) (v4 : Int32) (v5 : Int32), f_X11_readsKeys_105 fu lr57 w v0 v1 v2 v4 v5 = some w' → JW p l e rmX11_readsKeys s m args below meth c 7 D dA A E (MQ below (Qr D dA E none w' A) args s 0 0 A) 0 0 105 [(0, .ref v0), (1, .int v1), (2, .int v2), (4, .int v4), (5, .int v5)] [] w := by
    intro lr57 lh57 w v0 v1 v2 v4 v5 hf
    rw [f_X11_readsKeys_105] at hf
    refine J_iinc (pc := 105) C dX11_readsKeys_105 4 rfl (y := v5 + 1) rfl (by decide) hf (fun q => [(5, .int q), (0, .ref v0), (1, .int v1), (2, .int v2), (4, .int v4)]) (fun _ => rfl) (fun x19 hf => ?_)
    refine J_goto (pc := 108) C dX11_readsKeys_108 (tgt := 57) (by decide) ?_
    refine J_sub [1, 2, 3, 4, 0] (L1 := [(0, .ref v0), (1, .int v1), (2, .int v2), (4, .int v4), (5, .int x19)]) rfl ?_
    exact lh57 w v0 v1 v2 v4 x19 hf
  have B92 : ∀ (lr57 : MW → Nat → Int32 → Int32 → Int32 → Int32 → Option MW) (lh57 : ∀ (w : MW) (v0 : Nat) (v1 : Int32) (v2 : Int32) (v4 : Int32) (v5 : Int32), lr57 w v0 v1 v2 v4 v5 = some w' → JW p l e rmX11_readsKeys s m args below meth c 7 D dA A E (MQ below (Qr D dA E none w' A) args s 0 0 A) 0 0 57 [(0, .ref v0), (1, .int v1), (2, .int v2), (4, .int v4), (5, .int v5)] [] w) (w : MW) (v0 : Nat) (v1 : Int32) (v2 : Int32) (v4 : Int32) (v5 : Int32) (v6 : Int32), f_X11_readsKeys_92 fu lr57 w v0 v1 v2 v4 v5 v6 = some w' → JW p l e rmX11_readsKeys s m args below meth c 7 D dA A E (MQ below (Qr D dA E none w' A) args s 0 0 A) 0 0 92 [(0, .ref v0), (1, .int v1), (2, .int v2), (4, .int v4), (5, .int v5), (6, .int v6)] [] w := by
    intro lr57 lh57 w v0 v1 v2 v4 v5 v6 hf
    rw [f_X11_readsKeys_92] at hf
    refine J_iload (pc := 92) C dX11_readsKeys_92 5 rfl ?_
    refine J_if_ne (pc := 94) C dX11_readsKeys_94 (tgt := 105) (by decide) hf (fun _ hf => ?_) (fun _ hf => ?_)
    · refine J_sub [0, 1, 2, 3, 4] (L1 := [(0, .ref v0), (1, .int v1), (2, .int v2), (4, .int v4), (5, .int v5)]) rfl ?_
      exact B105 lr57 lh57 w v0 v1 v2 v4 v5 hf
    · refine J_aload_n (pc := 97) C dX11_readsKeys_97 rfl 0 rfl ?_
      refine J_iload_n (pc := 98) C dX11_readsKeys_98 rfl 1 rfl ?_
      refine J_iload (pc := 99) C dX11_readsKeys_99 4 rfl ?_
      refine J_iconst (pc := 101) C dX11_readsKeys_101 (v := 0) (by decide) ?_
      obtain ⟨q20, h21, hf⟩ := bind_ok hf
      obtain ⟨_, g22, h21⟩ := cl_spec h21
      refine J_cV (S := []) (pc := 102) C dX11_readsKeys_102 (c_X11_puts _ _ _ _ _ _ h21) k_1135 ys_X11_puts ⟨Nat.le_of_ble_eq_true rfl, Nat.le_of_ble_eq_true rfl⟩ ⟨Nat.le_of_ble_eq_true rfl, Nat.le_of_ble_eq_true rfl⟩ g22 rfl rfl (fun _ => Nat.le_of_ble_eq_true rfl) ?_
      refine J_sub [0, 1, 2, 3, 4] (L1 := [(0, .ref v0), (1, .int v1), (2, .int v2), (4, .int v4), (5, .int v5)]) rfl ?_
      exact B105 lr57 lh57 q20 v0 v1 v2 v4 v5 hf
  have B57 : ∀ (n : Nat) (w : MW) (v0 : Nat) (v1 : Int32) (v2 : Int32) (v4 : Int32) (v5 : Int32), f_X11_readsKeys_57 fu n w v0 v1 v2 v4 v5 = some w' → JW p l e rmX11_readsKeys s m args below meth c 7 D dA A E (MQ below (Qr D dA E none w' A) args s 0 0 A) 0 0 57 [(0, .ref v0), (1, .int v1), (2, .int v2), (4, .int v4), (5, .int v5)] [] w := by
    intro n
    induction n with
    | zero => intro w v0 v1 v2 v4 v5 hf; rw [f_X11_readsKeys_57] at hf; cases hf
    | succ n ih =>
      intro w v0 v1 v2 v4 v5 hf
      rw [f_X11_readsKeys_57] at hf
      refine J_iload (pc := 57) C dX11_readsKeys_57 4 rfl ?_
      refine J_iload (pc := 59) C dX11_readsKeys_59 3 rfl ?_
      refine J_icmp_gt (pc := 61) C dX11_readsKeys_61 (tgt := 111) (by decide) hf (fun _ hf => ?_) (fun _ hf => ?_)
      · exact J_vret (pc := 111) C rfl dX11_readsKeys_111 hf
      · refine J_aload_n (pc := 64) C dX11_readsKeys_64 rfl 0 rfl ?_
        obtain ⟨q12, h13, hf⟩ := bind_ok hf
        obtain ⟨_, g14, h13⟩ := cl_spec h13
        refine J_cV (S := []) (pc := 65) C dX11_readsKeys_65 (c_X11_isGood _ _ h13) k_1400 ys_X11_isGood ⟨Nat.le_of_ble_eq_true rfl, Nat.le_of_ble_eq_true rfl⟩ ⟨Nat.le_of_ble_eq_true rfl, Nat.le_of_ble_eq_true rfl⟩ g14 rfl rfl (fun _ => Nat.le_of_ble_eq_true rfl) ?_
        refine J_if_eq (pc := 68) C dX11_readsKeys_68 (tgt := 111) (by decide) hf (fun _ hf => ?_) (fun _ hf => ?_)
        · exact J_vret (pc := 111) C rfl dX11_readsKeys_111 hf
        · refine J_aload_n (pc := 71) C dX11_readsKeys_71 rfl 0 rfl ?_
          refine J_iload_n (pc := 72) C dX11_readsKeys_72 rfl 1 rfl ?_
          refine J_iload (pc := 73) C dX11_readsKeys_73 4 rfl ?_
          obtain ⟨q15, h16, hf⟩ := bind_ok hf
          obtain ⟨_, g17, h16⟩ := cl_spec h16
          refine J_cV (S := []) (pc := 75) C dX11_readsKeys_75 (c_X11_refusesPut _ _ _ _ _ h16) k_1090 ys_X11_refusesPut ⟨Nat.le_of_ble_eq_true rfl, Nat.le_of_ble_eq_true rfl⟩ ⟨Nat.le_of_ble_eq_true rfl, Nat.le_of_ble_eq_true rfl⟩ g17 rfl rfl (fun _ => Nat.le_of_ble_eq_true rfl) ?_
          refine J_istore (pc := 78) C dX11_readsKeys_78 (by decide) hf (fun q => [(6, .int q), (0, .ref v0), (1, .int v1), (2, .int v2), (4, .int v4), (5, .int v5)]) (fun _ => rfl) (fun x18 hf => ?_)
          refine J_iload (pc := 80) C dX11_readsKeys_80 0 rfl ?_
          refine J_iconst (pc := 82) C dX11_readsKeys_82 (v := 4) (by decide) ?_
          refine J_icmp_ne (pc := 83) C dX11_readsKeys_83 (tgt := 92) (by decide) hf (fun _ hf => ?_) (fun _ hf => ?_)
          · refine J_sub [1, 2, 3, 4, 5, 0] (L1 := [(0, .ref v0), (1, .int v1), (2, .int v2), (4, .int v4), (5, .int v5), (6, .int x18)]) rfl ?_
            exact B92 (f_X11_readsKeys_57 fu n) ih w v0 v1 v2 v4 v5 x18 hf
          · refine J_aload_n (pc := 86) C dX11_readsKeys_86 rfl 1 rfl ?_
            refine J_iconst (pc := 87) C dX11_readsKeys_87 (v := 3) (by decide) ?_
            refine J_iload_n (pc := 88) C dX11_readsKeys_88 rfl 3 rfl ?_
            obtain ⟨q23, h24, hf⟩ := bind_ok hf
            obtain ⟨_, g25, h24⟩ := cl_spec h24
            refine J_cV (S := []) (pc := 89) C dX11_readsKeys_89 (c_X11_fails _ _ _ _ h24) k_1425 ys_X11_fails ⟨Nat.le_of_ble_eq_true rfl, Nat.le_of_ble_eq_true rfl⟩ ⟨Nat.le_of_ble_eq_true rfl, Nat.le_of_ble_eq_true rfl⟩ g25 rfl rfl (fun _ => Nat.le_of_ble_eq_true rfl) ?_
            refine J_sub [1, 2, 3, 4, 5, 0] (L1 := [(0, .ref v0), (1, .int v1), (2, .int v2), (4, .int v4), (5, .int v5), (6, .int x18)]) rfl ?_
            exact B92 (f_X11_readsKeys_57 fu n) ih q23 v0 v1 v2 v4 v5 x18 hf
  rw [f_X11_readsKeys] at hf
  refine J_sub [0, 1] (L1 := [(0, .ref v0), (1, .int v1)]) rfl ?_
  refine J_aload_n (pc := 0) C dX11_readsKeys_0 rfl 0 rfl ?_
  refine J_getI (pc := 1) C dX11_readsKeys_1 (ci := 11) (k0 := 25) rfl iX11 (by decide) k_1028 hf (fun x1 hf => ?_)
  refine J_istore_n (pc := 4) C dX11_readsKeys_4 rfl (by decide) hf (fun q => [(2, .int q), (0, .ref v0), (1, .int v1)]) (fun _ => rfl) (fun x2 hf => ?_)
  refine J_aload_n (pc := 5) C dX11_readsKeys_5 rfl 1 rfl ?_
  obtain ⟨q3, h4, hf⟩ := bind_ok hf
  obtain ⟨_, g5, h4⟩ := cl_spec h4
  refine J_cV (S := []) (pc := 6) C dX11_readsKeys_6 (c_X11_numeral _ _ _ h4) k_1421 ys_X11_numeral ⟨Nat.le_of_ble_eq_true rfl, Nat.le_of_ble_eq_true rfl⟩ ⟨Nat.le_of_ble_eq_true rfl, Nat.le_of_ble_eq_true rfl⟩ g5 rfl rfl (fun _ => Nat.le_of_ble_eq_true rfl) ?_
  refine J_istore_n (pc := 9) C dX11_readsKeys_9 rfl (by decide) hf (fun q => [(3, .int q), (2, .int x2), (0, .ref v0), (1, .int v1)]) (fun _ => rfl) (fun x6 hf => ?_)
  refine J_iload_n (pc := 10) C dX11_readsKeys_10 rfl 0 rfl ?_
  refine J_istore (pc := 11) C dX11_readsKeys_11 (by decide) hf (fun q => [(4, .int q), (3, .int x6), (2, .int x2), (0, .ref v0), (1, .int v1)]) (fun _ => rfl) (fun x7 hf => ?_)
  refine J_aload_n (pc := 13) C dX11_readsKeys_13 rfl 3 rfl ?_
  refine J_bipush (pc := 14) C dX11_readsKeys_14 (v := 45) (by decide) ?_
  obtain ⟨q8, h9, hf⟩ := bind_ok hf
  obtain ⟨_, g10, h9⟩ := cl_spec h9
  refine J_cV (S := []) (pc := 16) C dX11_readsKeys_16 (c_X11_hasSign _ _ _ _ h9) k_1433 ys_X11_hasSign ⟨Nat.le_of_ble_eq_true rfl, Nat.le_of_ble_eq_true rfl⟩ ⟨Nat.le_of_ble_eq_true rfl, Nat.le_of_ble_eq_true rfl⟩ g10 rfl rfl (fun _ => Nat.le_of_ble_eq_true rfl) ?_
  refine J_if_eq (pc := 19) C dX11_readsKeys_19 (tgt := 54) (by decide) hf (fun _ hf => ?_) (fun _ hf => ?_)
  · refine J_iload_n (pc := 54) C dX11_readsKeys_54 rfl 1 rfl ?_
    refine J_istore (pc := 55) C dX11_readsKeys_55 (by decide) hf (fun q => [(5, .int q), (4, .int x7), (3, .int x6), (2, .int x2), (0, .ref v0), (1, .int v1)]) (fun _ => rfl) (fun x11 hf => ?_)
    refine J_sub [4, 5, 3, 1, 0] (L1 := [(0, .ref v0), (1, .int v1), (2, .int x2), (4, .int x7), (5, .int x11)]) rfl ?_
    exact B57 fu q8.2 v0 v1 x2 x7 x11 hf
  · refine J_aload_n (pc := 22) C dX11_readsKeys_22 rfl 3 rfl ?_
    refine J_getI (pc := 23) C dX11_readsKeys_23 (ci := 11) (k0 := 25) rfl iX11 (by decide) k_1028 hf (fun x26 hf => ?_)
    refine J_istore (pc := 26) C dX11_readsKeys_26 (by decide) hf (fun q => [(5, .int q), (4, .int x7), (3, .int x6), (2, .int x2), (0, .ref v0), (1, .int v1)]) (fun _ => rfl) (fun x27 hf => ?_)
    refine J_aload_n (pc := 28) C dX11_readsKeys_28 rfl 4 rfl ?_
    obtain ⟨q28, h29, hf⟩ := bind_ok hf
    obtain ⟨_, g30, h29⟩ := cl_spec h29
    refine J_cV (S := []) (pc := 29) C dX11_readsKeys_29 (c_X11_numeral _ _ _ h29) k_1421 ys_X11_numeral ⟨Nat.le_of_ble_eq_true rfl, Nat.le_of_ble_eq_true rfl⟩ ⟨Nat.le_of_ble_eq_true rfl, Nat.le_of_ble_eq_true rfl⟩ g30 rfl rfl (fun _ => Nat.le_of_ble_eq_true rfl) ?_
    refine J_istore (pc := 32) C dX11_readsKeys_32 (by decide) hf (fun q => [(4, .int q), (5, .int x27), (3, .int x6), (2, .int x2), (0, .ref v0), (1, .int v1)]) (fun _ => rfl) (fun x31 hf => ?_)
    refine J_aload_n (pc := 34) C dX11_readsKeys_34 rfl 4 rfl ?_
    obtain ⟨q32, h33, hf⟩ := bind_ok hf
    obtain ⟨_, g34, h33⟩ := cl_spec h33
    refine J_cV (S := []) (pc := 35) C dX11_readsKeys_35 (c_X11_isGood _ _ h33) k_1400 ys_X11_isGood ⟨Nat.le_of_ble_eq_true rfl, Nat.le_of_ble_eq_true rfl⟩ ⟨Nat.le_of_ble_eq_true rfl, Nat.le_of_ble_eq_true rfl⟩ g34 rfl rfl (fun _ => Nat.le_of_ble_eq_true rfl) ?_
    refine J_if_eq (pc := 38) C dX11_readsKeys_38 (tgt := 54) (by decide) hf (fun _ hf => ?_) (fun _ hf => ?_)
    · refine J_iload_n (pc := 54) C dX11_readsKeys_54 rfl 2 rfl ?_
      refine J_istore (pc := 55) C dX11_readsKeys_55 (by decide) hf (fun q => [(5, .int q), (4, .int x31), (3, .int x6), (2, .int x2), (0, .ref v0), (1, .int v1)]) (fun _ => rfl) (fun x35 hf => ?_)
      refine J_sub [4, 5, 3, 1, 0] (L1 := [(0, .ref v0), (1, .int v1), (2, .int x2), (4, .int x31), (5, .int x35)]) rfl ?_
      exact B57 fu q28.2 v0 v1 x2 x31 x35 hf
    · refine J_iload (pc := 41) C dX11_readsKeys_41 0 rfl ?_
      refine J_iload_n (pc := 43) C dX11_readsKeys_43 rfl 2 rfl ?_
      refine J_icmp_ge (pc := 44) C dX11_readsKeys_44 (tgt := 54) (by decide) hf (fun _ hf => ?_) (fun _ hf => ?_)
      · refine J_iload_n (pc := 54) C dX11_readsKeys_54 rfl 2 rfl ?_
        refine J_istore (pc := 55) C dX11_readsKeys_55 (by decide) hf (fun q => [(5, .int q), (4, .int x31), (3, .int x6), (2, .int x2), (0, .ref v0), (1, .int v1)]) (fun _ => rfl) (fun x36 hf => ?_)
        refine J_sub [4, 5, 3, 1, 0] (L1 := [(0, .ref v0), (1, .int v1), (2, .int x2), (4, .int x31), (5, .int x36)]) rfl ?_
        exact B57 fu q28.2 v0 v1 x2 x31 x36 hf
      · refine J_aload_n (pc := 47) C dX11_readsKeys_47 rfl 4 rfl ?_
        refine J_iconst (pc := 48) C dX11_readsKeys_48 (v := 2) (by decide) ?_
        refine J_iload (pc := 49) C dX11_readsKeys_49 1 rfl ?_
        obtain ⟨q37, h38, hf⟩ := bind_ok hf
        obtain ⟨_, g39, h38⟩ := cl_spec h38
        refine J_cV (S := []) (pc := 51) C dX11_readsKeys_51 (c_X11_fails _ _ _ _ h38) k_1425 ys_X11_fails ⟨Nat.le_of_ble_eq_true rfl, Nat.le_of_ble_eq_true rfl⟩ ⟨Nat.le_of_ble_eq_true rfl, Nat.le_of_ble_eq_true rfl⟩ g39 rfl rfl (fun _ => Nat.le_of_ble_eq_true rfl) ?_
        refine J_iload_n (pc := 54) C dX11_readsKeys_54 rfl 2 rfl ?_
        refine J_istore (pc := 55) C dX11_readsKeys_55 (by decide) hf (fun q => [(5, .int q), (4, .int x31), (3, .int x6), (2, .int x2), (0, .ref v0), (1, .int v1)]) (fun _ => rfl) (fun x40 hf => ?_)
        refine J_sub [4, 5, 3, 1, 0] (L1 := [(0, .ref v0), (1, .int v1), (2, .int x2), (4, .int x31), (5, .int x40)]) rfl ?_
        exact B57 fu q37 v0 v1 x2 x31 x40 hf
set_option maxRecDepth 100000 in
set_option maxHeartbeats 4000000 in
theorem c_X11_ends {l : Launch} {D : va_G} {dA : FieldType → ClassId} (fu : Nat) (w : MW) (v0 : Nat) {w' : MW} (hf : f_X11_ends fu w v0 = some w') : CT l D dA yX11_ends cX11_ends 1 none rmX11_ends [.ref v0] w none w' := by
  refine J_met (by decide) rfl (Nat.le_of_ble_eq_true rfl) (fun p e s m args below meth c A E C => ?_)
  rw [f_X11_ends] at hf
  refine J_sub [0] (L1 := [(0, .ref v0)]) rfl ?_
  refine J_aload_n (pc := 0) C dX11_ends_0 rfl 0 rfl ?_
  obtain ⟨q1, h2, hf⟩ := bind_ok hf
  obtain ⟨_, g3, h2⟩ := cl_spec h2
  refine J_cV (S := []) (pc := 1) C dX11_ends_1 (c_X11_isGood _ _ h2) k_1400 ys_X11_isGood ⟨Nat.le_of_ble_eq_true rfl, Nat.le_of_ble_eq_true rfl⟩ ⟨Nat.le_of_ble_eq_true rfl, Nat.le_of_ble_eq_true rfl⟩ g3 rfl rfl (fun _ => Nat.le_of_ble_eq_true rfl) ?_
  refine J_if_eq (pc := 4) C dX11_ends_4 (tgt := 25) (by decide) hf (fun _ hf => ?_) (fun _ hf => ?_)
  · exact J_vret (pc := 25) C rfl dX11_ends_25 hf
  · refine J_aload_n (pc := 7) C dX11_ends_7 rfl 0 rfl ?_
    refine J_bipush (pc := 8) C dX11_ends_8 (v := 59) (by decide) ?_
    obtain ⟨q4, h5, hf⟩ := bind_ok hf
    obtain ⟨_, g6, h5⟩ := cl_spec h5
    refine J_cV (S := []) (pc := 10) C dX11_ends_10 (c_X11_hasSign _ _ _ _ h5) k_1433 ys_X11_hasSign ⟨Nat.le_of_ble_eq_true rfl, Nat.le_of_ble_eq_true rfl⟩ ⟨Nat.le_of_ble_eq_true rfl, Nat.le_of_ble_eq_true rfl⟩ g6 rfl rfl (fun _ => Nat.le_of_ble_eq_true rfl) ?_
    refine J_if_ne (pc := 13) C dX11_ends_13 (tgt := 25) (by decide) hf (fun _ hf => ?_) (fun _ hf => ?_)
    · exact J_vret (pc := 25) C rfl dX11_ends_25 hf
    · refine J_aload_n (pc := 16) C dX11_ends_16 rfl 0 rfl ?_
      refine J_iconst (pc := 17) C dX11_ends_17 (v := 1) (by decide) ?_
      refine J_aload_n (pc := 18) C dX11_ends_18 rfl 0 rfl ?_
      refine J_getI (pc := 19) C dX11_ends_19 (ci := 11) (k0 := 25) rfl iX11 (by decide) k_1028 hf (fun x7 hf => ?_)
      obtain ⟨q8, h9, hf⟩ := bind_ok hf
      obtain ⟨_, g10, h9⟩ := cl_spec h9
      refine J_cV (S := []) (pc := 22) C dX11_ends_22 (c_X11_fails _ _ _ _ h9) k_1425 ys_X11_fails ⟨Nat.le_of_ble_eq_true rfl, Nat.le_of_ble_eq_true rfl⟩ ⟨Nat.le_of_ble_eq_true rfl, Nat.le_of_ble_eq_true rfl⟩ g10 rfl rfl (fun _ => Nat.le_of_ble_eq_true rfl) ?_
      exact J_vret (pc := 25) C rfl dX11_ends_25 hf
set_option maxRecDepth 100000 in
set_option maxHeartbeats 4000000 in
theorem c_X11_readsSet {l : Launch} {D : va_G} {dA : FieldType → ClassId} (fu : Nat) (w : MW) (v0 : Nat) {w' : MW} (hf : f_X11_readsSet fu w v0 = some w') : CT l D dA yX11_readsSet cX11_readsSet 2 none rmX11_readsSet [.ref v0] w none w' := by
  refine J_met (by decide) rfl (Nat.le_of_ble_eq_true rfl) (fun p e s m args below meth c A E C => ?_)
  have B28 : ∀ (w : MW) (v0 : Nat), f_X11_readsSet_28 fu w v0 = some w' → JW p l e rmX11_readsSet s m args below meth c 2 D dA A E (MQ below (Qr D dA E none w' A) args s 0 0 A) 0 0 28 [(0, .ref v0)] [] w := by
    intro w v0 hf
    rw [f_X11_readsSet_28] at hf
    refine J_aload_n (pc := 28) C dX11_readsSet_28 rfl 0 rfl ?_
    obtain ⟨q8, h9, hf⟩ := bind_ok hf
    obtain ⟨_, g10, h9⟩ := cl_spec h9
    refine J_cV (S := []) (pc := 29) C dX11_readsSet_29 (c_X11_ends _ _ _ h9) k_1437 ys_X11_ends ⟨Nat.le_of_ble_eq_true rfl, Nat.le_of_ble_eq_true rfl⟩ ⟨Nat.le_of_ble_eq_true rfl, Nat.le_of_ble_eq_true rfl⟩ g10 rfl rfl (fun _ => Nat.le_of_ble_eq_true rfl) ?_
    exact J_vret (pc := 32) C rfl dX11_readsSet_32 hf
  have B5 : ∀ (n : Nat) (w : MW) (v0 : Nat) (v1 : Int32), f_X11_readsSet_5 fu n w v0 v1 = some w' → JW p l e rmX11_readsSet s m args below meth c 2 D dA A E (MQ below (Qr D dA E none w' A) args s 0 0 A) 0 0 5 [(0, .ref v0), (1, .int v1)] [] w := by
    intro n
    induction n with
    | zero => intro w v0 v1 hf; rw [f_X11_readsSet_5] at hf; cases hf
    | succ n ih =>
      intro w v0 v1 hf
      rw [f_X11_readsSet_5] at hf
      refine J_aload_n (pc := 5) C dX11_readsSet_5 rfl 0 rfl ?_
      obtain ⟨q5, h6, hf⟩ := bind_ok hf
      obtain ⟨_, g7, h6⟩ := cl_spec h6
      refine J_cV (S := []) (pc := 6) C dX11_readsSet_6 (c_X11_isGood _ _ h6) k_1400 ys_X11_isGood ⟨Nat.le_of_ble_eq_true rfl, Nat.le_of_ble_eq_true rfl⟩ ⟨Nat.le_of_ble_eq_true rfl, Nat.le_of_ble_eq_true rfl⟩ g7 rfl rfl (fun _ => Nat.le_of_ble_eq_true rfl) ?_
      refine J_if_eq (pc := 9) C dX11_readsSet_9 (tgt := 28) (by decide) hf (fun _ hf => ?_) (fun _ hf => ?_)
      · refine J_sub [0] (L1 := [(0, .ref v0)]) rfl ?_
        exact B28 w v0 hf
      · refine J_aload_n (pc := 12) C dX11_readsSet_12 rfl 0 rfl ?_
        refine J_getI (pc := 13) C dX11_readsSet_13 (ci := 11) (k0 := 24) rfl iX11 (by decide) k_1027 hf (fun x11 hf => ?_)
        refine J_iconst (pc := 16) C dX11_readsSet_16 (v := 2) (by decide) ?_
        refine J_icmp_ne (pc := 17) C dX11_readsSet_17 (tgt := 28) (by decide) hf (fun _ hf => ?_) (fun _ hf => ?_)
        · refine J_sub [0] (L1 := [(0, .ref v0)]) rfl ?_
          exact B28 w v0 hf
        · refine J_aload_n (pc := 20) C dX11_readsSet_20 rfl 0 rfl ?_
          refine J_iload_n (pc := 21) C dX11_readsSet_21 rfl 1 rfl ?_
          obtain ⟨q12, h13, hf⟩ := bind_ok hf
          obtain ⟨_, g14, h13⟩ := cl_spec h13
          refine J_cV (S := []) (pc := 22) C dX11_readsSet_22 (c_X11_readsKeys _ _ _ _ h13) k_1429 ys_X11_readsKeys ⟨Nat.le_of_ble_eq_true rfl, Nat.le_of_ble_eq_true rfl⟩ ⟨Nat.le_of_ble_eq_true rfl, Nat.le_of_ble_eq_true rfl⟩ g14 rfl rfl (fun _ => Nat.le_of_ble_eq_true rfl) ?_
          refine J_goto (pc := 25) C dX11_readsSet_25 (tgt := 5) (by decide) ?_
          refine J_sub [0, 1] (L1 := [(0, .ref v0), (1, .int v1)]) rfl ?_
          exact ih q12 v0 v1 hf
  rw [f_X11_readsSet] at hf
  refine J_sub [0] (L1 := [(0, .ref v0)]) rfl ?_
  refine J_aload_n (pc := 0) C dX11_readsSet_0 rfl 0 rfl ?_
  obtain ⟨q1, h2, hf⟩ := bind_ok hf
  obtain ⟨_, g3, h2⟩ := cl_spec h2
  refine J_cV (S := []) (pc := 1) C dX11_readsSet_1 (c_X11_setNumber _ _ _ h2) k_1417 ys_X11_setNumber ⟨Nat.le_of_ble_eq_true rfl, Nat.le_of_ble_eq_true rfl⟩ ⟨Nat.le_of_ble_eq_true rfl, Nat.le_of_ble_eq_true rfl⟩ g3 rfl rfl (fun _ => Nat.le_of_ble_eq_true rfl) ?_
  refine J_istore_n (pc := 4) C dX11_readsSet_4 rfl (by decide) hf (fun q => [(1, .int q), (0, .ref v0)]) (fun _ => rfl) (fun x4 hf => ?_)
  refine J_sub [1, 0] (L1 := [(0, .ref v0), (1, .int x4)]) rfl ?_
  exact B5 fu q1.2 v0 x4 hf
set_option maxRecDepth 100000 in
set_option maxHeartbeats 4000000 in
theorem c_X11_readsAct {l : Launch} {D : va_G} {dA : FieldType → ClassId} (fu : Nat) (w : MW) (v0 : Nat) (v1 : Int64) {rr : Int32} {w' : MW} (hf : f_X11_readsAct fu w v0 v1 = some (rr, w')) : CT l D dA yX11_readsAct cX11_readsAct 10 (some .int) rmX11_readsAct [.ref v0, .long v1] w (some (.int rr)) w' := by
  refine J_met (by decide) rfl (Nat.le_of_ble_eq_true rfl) (fun p e s m args below meth c A E C => ?_)
  have B383 : ∀ (w : MW) (s0 : Int32), f_X11_readsAct_383 fu w s0 = some (rr, w') → JW p l e rmX11_readsAct s m args below meth c 10 D dA A E (MQ below (Qr D dA E (some (.int rr)) w' A) args s 0 0 A) 0 0 383 [] [.int s0] w := by
    intro w s0 hf
    rw [f_X11_readsAct_383] at hf
    refine J_istore (pc := 383) C dX11_readsAct_383 (by decide) hf (fun q => [(9, .int q)]) (fun _ => rfl) (fun x28 hf => ?_)
    refine J_iload (pc := 385) C dX11_readsAct_385 0 rfl ?_
    refine J_if_le (pc := 387) C dX11_readsAct_387 (tgt := 394) (by decide) hf (fun _ hf => ?_) (fun _ hf => ?_)
    · refine J_iconst (pc := 394) C dX11_readsAct_394 (v := 1) (by decide) ?_
      exact J_iret (pc := 395) C  rfl rfl dX11_readsAct_395 hf
    · refine J_iconst (pc := 390) C dX11_readsAct_390 (v := 0) (by decide) ?_
      refine J_goto (pc := 391) C dX11_readsAct_391 (tgt := 395) (by decide) ?_
      exact J_iret (pc := 395) C  rfl rfl dX11_readsAct_395 hf
  have B346 : ∀ (w : MW) (v0 : Nat) (v3 : Int32) (v5 : Int32), f_X11_readsAct_346 fu w v0 v3 v5 = some (rr, w') → JW p l e rmX11_readsAct s m args below meth c 10 D dA A E (MQ below (Qr D dA E (some (.int rr)) w' A) args s 0 0 A) 0 0 346 [(0, .ref v0), (3, .int v3), (5, .int v5)] [] w := by
    intro w v0 v3 v5 hf
    rw [f_X11_readsAct_346] at hf
    refine J_aload_n (pc := 346) C dX11_readsAct_346 rfl 0 rfl ?_
    refine J_iload (pc := 347) C dX11_readsAct_347 2 rfl ?_
    refine J_iconst (pc := 349) C dX11_readsAct_349 (v := 0) (by decide) ?_
    refine J_sipush (pc := 350) C dX11_readsAct_350 (v := 9999) (by decide) ?_
    refine J_iload_n (pc := 353) C dX11_readsAct_353 rfl 1 rfl ?_
    obtain ⟨q25, h26, hf⟩ := bind_ok hf
    obtain ⟨_, g27, h26⟩ := cl_spec h26
    refine J_cV (S := []) (pc := 354) C dX11_readsAct_354 (c_X11_goOver _ _ _ _ _ _ _ h26) k_1167 ys_X11_goOver ⟨Nat.le_of_ble_eq_true rfl, Nat.le_of_ble_eq_true rfl⟩ ⟨Nat.le_of_ble_eq_true rfl, Nat.le_of_ble_eq_true rfl⟩ g27 rfl rfl (fun _ => Nat.le_of_ble_eq_true rfl) ?_
    refine J_goto (pc := 357) C dX11_readsAct_357 (tgt := 383) (by decide) ?_
    refine J_sub [] (L1 := []) rfl ?_
    exact B383 q25.2 q25.1 hf
  have B283 : ∀ (w : MW) (v0 : Nat) (v1 : Int64) (v3 : Int32) (v5 : Int32) (v6 : Int32) (v7 : Int32), f_X11_readsAct_283 fu w v0 v1 v3 v5 v6 v7 = some (rr, w') → JW p l e rmX11_readsAct s m args below meth c 10 D dA A E (MQ below (Qr D dA E (some (.int rr)) w' A) args s 0 0 A) 0 0 283 [(0, .ref v0), (1, .long v1), (3, .int v3), (5, .int v5), (6, .int v6), (7, .int v7)] [] w := by
    intro w v0 v1 v3 v5 v6 v7 hf
    rw [f_X11_readsAct_283] at hf
    refine J_lload_n (pc := 283) C dX11_readsAct_283 rfl 1 rfl ?_
    refine J_ldc2 (pc := 284) C dX11_readsAct_284 (v := 257105) k_1441 ?_
    refine J_lcmp (pc := 287) C dX11_readsAct_287 ?_
    refine J_if_ne (pc := 288) C dX11_readsAct_288 (tgt := 305) (by decide) hf (fun _ hf => ?_) (fun _ hf => ?_)
    · refine J_lload_n (pc := 305) C dX11_readsAct_305 rfl 1 rfl ?_
      refine J_ldc2 (pc := 306) C dX11_readsAct_306 (v := 2774) k_1442 ?_
      refine J_lcmp (pc := 309) C dX11_readsAct_309 ?_
      refine J_if_ne (pc := 310) C dX11_readsAct_310 (tgt := 330) (by decide) hf (fun _ hf => ?_) (fun _ hf => ?_)
      · refine J_lload_n (pc := 330) C dX11_readsAct_330 rfl 1 rfl ?_
        refine J_ldc2 (pc := 331) C dX11_readsAct_331 (v := 208022) k_1443 ?_
        refine J_lcmp (pc := 334) C dX11_readsAct_334 ?_
        refine J_if_eq (pc := 335) C dX11_readsAct_335 (tgt := 346) (by decide) hf (fun _ hf => ?_) (fun _ hf => ?_)
        · refine J_sub [0, 2, 3] (L1 := [(0, .ref v0), (3, .int v3), (5, .int v5)]) rfl ?_
          exact B346 w v0 v3 v5 hf
        · refine J_lload_n (pc := 338) C dX11_readsAct_338 rfl 1 rfl ?_
          refine J_ldc2 (pc := 339) C dX11_readsAct_339 (v := 259868) k_1444 ?_
          refine J_lcmp (pc := 342) C dX11_readsAct_342 ?_
          refine J_if_ne (pc := 343) C dX11_readsAct_343 (tgt := 360) (by decide) hf (fun _ hf => ?_) (fun _ hf => ?_)
          · refine J_lload_n (pc := 360) C dX11_readsAct_360 rfl 1 rfl ?_
            refine J_ldc2 (pc := 361) C dX11_readsAct_361 (v := 267413) k_1446 ?_
            refine J_lcmp (pc := 364) C dX11_readsAct_364 ?_
            refine J_if_ne (pc := 365) C dX11_readsAct_365 (tgt := 382) (by decide) hf (fun _ hf => ?_) (fun _ hf => ?_)
            · refine J_iconst (pc := 382) C dX11_readsAct_382 (v := 1) (by decide) ?_
              refine J_sub [] (L1 := []) rfl ?_
              exact B383 w (1 : Int32) hf
            · refine J_aload_n (pc := 368) C dX11_readsAct_368 rfl 0 rfl ?_
              refine J_iload_n (pc := 369) C dX11_readsAct_369 rfl 2 rfl ?_
              refine J_iload (pc := 370) C dX11_readsAct_370 3 rfl ?_
              refine J_iload (pc := 372) C dX11_readsAct_372 4 rfl ?_
              refine J_iload (pc := 374) C dX11_readsAct_374 5 rfl ?_
              obtain ⟨q29, h30, hf⟩ := bind_ok hf
              obtain ⟨_, g31, h30⟩ := cl_spec h30
              refine J_cV (S := []) (pc := 376) C dX11_readsAct_376 (c_X11_goOver _ _ _ _ _ _ _ h30) k_1167 ys_X11_goOver ⟨Nat.le_of_ble_eq_true rfl, Nat.le_of_ble_eq_true rfl⟩ ⟨Nat.le_of_ble_eq_true rfl, Nat.le_of_ble_eq_true rfl⟩ g31 rfl rfl (fun _ => Nat.le_of_ble_eq_true rfl) ?_
              refine J_goto (pc := 379) C dX11_readsAct_379 (tgt := 383) (by decide) ?_
              refine J_sub [] (L1 := []) rfl ?_
              exact B383 q29.2 q29.1 hf
          · refine J_sub [0, 2, 3] (L1 := [(0, .ref v0), (3, .int v3), (5, .int v5)]) rfl ?_
            exact B346 w v0 v3 v5 hf
      · refine J_aload_n (pc := 313) C dX11_readsAct_313 rfl 0 rfl ?_
        refine J_iload_n (pc := 314) C dX11_readsAct_314 rfl 2 rfl ?_
        refine J_iload (pc := 315) C dX11_readsAct_315 3 rfl ?_
        refine J_iconst (pc := 317) C dX11_readsAct_317 (v := 1) (by decide) ?_
        refine J_iadd (pc := 318) C dX11_readsAct_318 ?_
        refine J_sipush (pc := 319) C dX11_readsAct_319 (v := 9999) (by decide) ?_
        refine J_iload (pc := 322) C dX11_readsAct_322 4 rfl ?_
        obtain ⟨q32, h33, hf⟩ := bind_ok hf
        obtain ⟨_, g34, h33⟩ := cl_spec h33
        refine J_cV (S := []) (pc := 324) C dX11_readsAct_324 (c_X11_goOver _ _ _ _ _ _ _ h33) k_1167 ys_X11_goOver ⟨Nat.le_of_ble_eq_true rfl, Nat.le_of_ble_eq_true rfl⟩ ⟨Nat.le_of_ble_eq_true rfl, Nat.le_of_ble_eq_true rfl⟩ g34 rfl rfl (fun _ => Nat.le_of_ble_eq_true rfl) ?_
        refine J_goto (pc := 327) C dX11_readsAct_327 (tgt := 383) (by decide) ?_
        refine J_sub [] (L1 := []) rfl ?_
        exact B383 q32.2 q32.1 hf
    · refine J_aload_n (pc := 291) C dX11_readsAct_291 rfl 0 rfl ?_
      refine J_iload_n (pc := 292) C dX11_readsAct_292 rfl 2 rfl ?_
      refine J_iload (pc := 293) C dX11_readsAct_293 3 rfl ?_
      refine J_iload (pc := 295) C dX11_readsAct_295 4 rfl ?_
      refine J_iconst (pc := 297) C dX11_readsAct_297 (v := 1) (by decide) ?_
      refine J_iconst (pc := 298) C dX11_readsAct_298 (v := 1) (by decide) ?_
      obtain ⟨q35, h36, hf⟩ := bind_ok hf
      obtain ⟨_, g37, h36⟩ := cl_spec h36
      refine J_cV (S := []) (pc := 299) C dX11_readsAct_299 (c_X11_marked _ _ _ _ _ _ _ _ h36) k_1239 ys_X11_marked ⟨Nat.le_of_ble_eq_true rfl, Nat.le_of_ble_eq_true rfl⟩ ⟨Nat.le_of_ble_eq_true rfl, Nat.le_of_ble_eq_true rfl⟩ g37 rfl rfl (fun _ => Nat.le_of_ble_eq_true rfl) ?_
      refine J_goto (pc := 302) C dX11_readsAct_302 (tgt := 383) (by decide) ?_
      refine J_sub [] (L1 := []) rfl ?_
      exact B383 q35.2 q35.1 hf
  have B280 : ∀ (w : MW) (v0 : Nat) (v1 : Int64) (v3 : Int32) (v5 : Int32) (v6 : Int32) (v7 : Int32) (s0 : Nat) (s1 : Int32) (s2 : Int32), f_X11_readsAct_280 fu w v0 v1 v3 v5 v6 v7 s0 s1 s2 = some (rr, w') → JW p l e rmX11_readsAct s m args below meth c 10 D dA A E (MQ below (Qr D dA E (some (.int rr)) w' A) args s 0 0 A) 0 0 280 [(0, .ref v0), (1, .long v1), (3, .int v3), (5, .int v5), (6, .int v6), (7, .int v7)] [.int s2, .int s1, .ref s0] w := by
    intro w v0 v1 v3 v5 v6 v7 s0 s1 s2 hf
    rw [f_X11_readsAct_280] at hf
    obtain ⟨q38, h39, hf⟩ := bind_ok hf
    obtain ⟨_, g40, h39⟩ := cl_spec h39
    refine J_cV (S := []) (pc := 280) C dX11_readsAct_280 (c_X11_shifts _ _ _ _ _ h39) k_1215 ys_X11_shifts ⟨Nat.le_of_ble_eq_true rfl, Nat.le_of_ble_eq_true rfl⟩ ⟨Nat.le_of_ble_eq_true rfl, Nat.le_of_ble_eq_true rfl⟩ g40 rfl rfl (fun _ => Nat.le_of_ble_eq_true rfl) ?_
    refine J_sub [0, 1, 2, 3, 4, 5] (L1 := [(0, .ref v0), (1, .long v1), (3, .int v3), (5, .int v5), (6, .int v6), (7, .int v7)]) rfl ?_
    exact B283 q38 v0 v1 v3 v5 v6 v7 hf
  have B247 : ∀ (w : MW) (v0 : Nat) (v1 : Int64) (v3 : Int32) (v4 : Int32) (v5 : Int32) (v6 : Int32) (v7 : Int32) (s0 : Int32), f_X11_readsAct_247 fu w v0 v1 v3 v4 v5 v6 v7 s0 = some (rr, w') → JW p l e rmX11_readsAct s m args below meth c 10 D dA A E (MQ below (Qr D dA E (some (.int rr)) w' A) args s 0 0 A) 0 0 247 [(0, .ref v0), (1, .long v1), (3, .int v3), (4, .int v4), (5, .int v5), (6, .int v6), (7, .int v7)] [.int s0] w := by
    intro w v0 v1 v3 v4 v5 v6 v7 s0 hf
    rw [f_X11_readsAct_247] at hf
    refine J_istore (pc := 247) C dX11_readsAct_247 (by decide) hf (fun q => [(8, .int q), (0, .ref v0), (1, .long v1), (3, .int v3), (4, .int v4), (5, .int v5), (6, .int v6), (7, .int v7)]) (fun _ => rfl) (fun x24 hf => ?_)
    refine J_iload (pc := 249) C dX11_readsAct_249 0 rfl ?_
    refine J_if_le (pc := 251) C dX11_readsAct_251 (tgt := 257) (by decide) hf (fun _ hf => ?_) (fun _ hf => ?_)
    · refine J_lload_n (pc := 257) C dX11_readsAct_257 rfl 2 rfl ?_
      refine J_ldc2 (pc := 258) C dX11_readsAct_258 (v := 10261586) k_1445 ?_
      refine J_lcmp (pc := 261) C dX11_readsAct_261 ?_
      refine J_if_ne (pc := 262) C dX11_readsAct_262 (tgt := 283) (by decide) hf (fun _ hf => ?_) (fun _ hf => ?_)
      · refine J_sub [1, 2, 3, 5, 6, 7] (L1 := [(0, .ref v0), (1, .long v1), (3, .int v3), (5, .int v5), (6, .int v6), (7, .int v7)]) rfl ?_
        exact B283 w v0 v1 v3 v5 v6 v7 hf
      · refine J_aload_n (pc := 265) C dX11_readsAct_265 rfl 1 rfl ?_
        refine J_iload_n (pc := 266) C dX11_readsAct_266 rfl 3 rfl ?_
        refine J_iload (pc := 267) C dX11_readsAct_267 4 rfl ?_
        refine J_if_eq (pc := 269) C dX11_readsAct_269 (tgt := 278) (by decide) hf (fun _ hf => ?_) (fun _ hf => ?_)
        · refine J_iload (pc := 278) C dX11_readsAct_278 5 rfl ?_
          refine J_sub [1, 2, 3, 5, 6, 7] (L1 := [(0, .ref v0), (1, .long v1), (3, .int v3), (5, .int v5), (6, .int v6), (7, .int v7)]) rfl ?_
          exact B280 w v0 v1 v3 v5 v6 v7 v0 v3 v5 hf
        · refine J_iload (pc := 272) C dX11_readsAct_272 5 rfl ?_
          refine J_ineg (pc := 274) C dX11_readsAct_274 ?_
          refine J_goto (pc := 275) C dX11_readsAct_275 (tgt := 280) (by decide) ?_
          refine J_sub [1, 2, 3, 5, 6, 7] (L1 := [(0, .ref v0), (1, .long v1), (3, .int v3), (5, .int v5), (6, .int v6), (7, .int v7)]) rfl ?_
          exact B280 w v0 v1 v3 v5 v6 v7 v0 v3 (-v5) hf
    · refine J_iload (pc := 254) C dX11_readsAct_254 0 rfl ?_
      exact J_iret (pc := 256) C  rfl rfl dX11_readsAct_256 hf
  have B230 : ∀ (w : MW) (v0 : Nat) (v1 : Int64) (v3 : Int32) (v4 : Int32) (v5 : Int32) (v6 : Int32) (v7 : Int32) (s0 : Nat) (s1 : Int32) (s2 : Int32), f_X11_readsAct_230 fu w v0 v1 v3 v4 v5 v6 v7 s0 s1 s2 = some (rr, w') → JW p l e rmX11_readsAct s m args below meth c 10 D dA A E (MQ below (Qr D dA E (some (.int rr)) w' A) args s 0 0 A) 0 0 230 [(0, .ref v0), (1, .long v1), (3, .int v3), (4, .int v4), (5, .int v5), (6, .int v6), (7, .int v7)] [.int s2, .int s1, .ref s0] w := by
    intro w v0 v1 v3 v4 v5 v6 v7 s0 s1 s2 hf
    rw [f_X11_readsAct_230] at hf
    obtain ⟨q41, h42, hf⟩ := bind_ok hf
    obtain ⟨_, g43, h42⟩ := cl_spec h42
    refine J_cV (S := []) (pc := 230) C dX11_readsAct_230 (c_X11_refusesShift _ _ _ _ h42) k_1211 ys_X11_refusesShift ⟨Nat.le_of_ble_eq_true rfl, Nat.le_of_ble_eq_true rfl⟩ ⟨Nat.le_of_ble_eq_true rfl, Nat.le_of_ble_eq_true rfl⟩ g43 rfl rfl (fun _ => Nat.le_of_ble_eq_true rfl) ?_
    refine J_goto (pc := 233) C dX11_readsAct_233 (tgt := 247) (by decide) ?_
    refine J_sub [0, 1, 2, 3, 4, 5, 6] (L1 := [(0, .ref v0), (1, .long v1), (3, .int v3), (4, .int v4), (5, .int v5), (6, .int v6), (7, .int v7)]) rfl ?_
    exact B247 w v0 v1 v3 v4 v5 v6 v7 q41 hf
  have B115 : ∀ (w : MW) (v0 : Nat) (v1 : Int64) (v3 : Int32) (v4 : Int32) (v5 : Int32) (v6 : Int32) (s0 : Int32), f_X11_readsAct_115 fu w v0 v1 v3 v4 v5 v6 s0 = some (rr, w') → JW p l e rmX11_readsAct s m args below meth c 10 D dA A E (MQ below (Qr D dA E (some (.int rr)) w' A) args s 0 0 A) 0 0 115 [(0, .ref v0), (1, .long v1), (3, .int v3), (4, .int v4), (5, .int v5), (6, .int v6)] [.int s0] w := by
    intro w v0 v1 v3 v4 v5 v6 s0 hf
    rw [f_X11_readsAct_115] at hf
    refine J_istore (pc := 115) C dX11_readsAct_115 (by decide) hf (fun q => [(7, .int q), (0, .ref v0), (1, .long v1), (3, .int v3), (4, .int v4), (5, .int v5), (6, .int v6)]) (fun _ => rfl) (fun x14 hf => ?_)
    refine J_aload_n (pc := 117) C dX11_readsAct_117 rfl 1 rfl ?_
    obtain ⟨q15, h16, hf⟩ := bind_ok hf
    obtain ⟨_, g17, h16⟩ := cl_spec h16
    refine J_cV (S := []) (pc := 118) C dX11_readsAct_118 (c_X11_ends _ _ _ h16) k_1437 ys_X11_ends ⟨Nat.le_of_ble_eq_true rfl, Nat.le_of_ble_eq_true rfl⟩ ⟨Nat.le_of_ble_eq_true rfl, Nat.le_of_ble_eq_true rfl⟩ g17 rfl rfl (fun _ => Nat.le_of_ble_eq_true rfl) ?_
    refine J_aload_n (pc := 121) C dX11_readsAct_121 rfl 1 rfl ?_
    obtain ⟨q18, h19, hf⟩ := bind_ok hf
    obtain ⟨_, g20, h19⟩ := cl_spec h19
    refine J_cV (S := []) (pc := 122) C dX11_readsAct_122 (c_X11_isGood _ _ h19) k_1400 ys_X11_isGood ⟨Nat.le_of_ble_eq_true rfl, Nat.le_of_ble_eq_true rfl⟩ ⟨Nat.le_of_ble_eq_true rfl, Nat.le_of_ble_eq_true rfl⟩ g20 rfl rfl (fun _ => Nat.le_of_ble_eq_true rfl) ?_
    refine J_if_ne (pc := 125) C dX11_readsAct_125 (tgt := 130) (by decide) hf (fun _ hf => ?_) (fun _ hf => ?_)
    · refine J_lload_n (pc := 130) C dX11_readsAct_130 rfl 2 rfl ?_
      refine J_ldc2 (pc := 131) C dX11_readsAct_131 (v := 257105) k_1441 ?_
      refine J_lcmp (pc := 134) C dX11_readsAct_134 ?_
      refine J_if_ne (pc := 135) C dX11_readsAct_135 (tgt := 151) (by decide) hf (fun _ hf => ?_) (fun _ hf => ?_)
      · refine J_lload_n (pc := 151) C dX11_readsAct_151 rfl 2 rfl ?_
        refine J_ldc2 (pc := 152) C dX11_readsAct_152 (v := 2774) k_1442 ?_
        refine J_lcmp (pc := 155) C dX11_readsAct_155 ?_
        refine J_if_ne (pc := 156) C dX11_readsAct_156 (tgt := 171) (by decide) hf (fun _ hf => ?_) (fun _ hf => ?_)
        · refine J_lload_n (pc := 171) C dX11_readsAct_171 rfl 2 rfl ?_
          refine J_ldc2 (pc := 172) C dX11_readsAct_172 (v := 208022) k_1443 ?_
          refine J_lcmp (pc := 175) C dX11_readsAct_175 ?_
          refine J_if_ne (pc := 176) C dX11_readsAct_176 (tgt := 189) (by decide) hf (fun _ hf => ?_) (fun _ hf => ?_)
          · refine J_lload_n (pc := 189) C dX11_readsAct_189 rfl 2 rfl ?_
            refine J_ldc2 (pc := 190) C dX11_readsAct_190 (v := 259868) k_1444 ?_
            refine J_lcmp (pc := 193) C dX11_readsAct_193 ?_
            refine J_if_ne (pc := 194) C dX11_readsAct_194 (tgt := 207) (by decide) hf (fun _ hf => ?_) (fun _ hf => ?_)
            · refine J_lload_n (pc := 207) C dX11_readsAct_207 rfl 2 rfl ?_
              refine J_ldc2 (pc := 208) C dX11_readsAct_208 (v := 10261586) k_1445 ?_
              refine J_lcmp (pc := 211) C dX11_readsAct_211 ?_
              refine J_if_ne (pc := 212) C dX11_readsAct_212 (tgt := 236) (by decide) hf (fun _ hf => ?_) (fun _ hf => ?_)
              · refine J_aload_n (pc := 236) C dX11_readsAct_236 rfl 1 rfl ?_
                refine J_iload_n (pc := 237) C dX11_readsAct_237 rfl 3 rfl ?_
                refine J_iload (pc := 238) C dX11_readsAct_238 5 rfl ?_
                refine J_iload (pc := 240) C dX11_readsAct_240 6 rfl ?_
                refine J_iload (pc := 242) C dX11_readsAct_242 0 rfl ?_
                obtain ⟨q21, h22, hf⟩ := bind_ok hf
                obtain ⟨_, g23, h22⟩ := cl_spec h22
                refine J_cV (S := []) (pc := 244) C dX11_readsAct_244 (c_X11_refusesMove _ _ _ _ _ _ _ h22) k_1227 ys_X11_refusesMove ⟨Nat.le_of_ble_eq_true rfl, Nat.le_of_ble_eq_true rfl⟩ ⟨Nat.le_of_ble_eq_true rfl, Nat.le_of_ble_eq_true rfl⟩ g23 rfl rfl (fun _ => Nat.le_of_ble_eq_true rfl) ?_
                refine J_sub [1, 2, 3, 4, 5, 6, 0] (L1 := [(0, .ref v0), (1, .long v1), (3, .int v3), (4, .int v4), (5, .int v5), (6, .int v6), (7, .int x14)]) rfl ?_
                exact B247 q15 v0 v1 v3 v4 v5 v6 x14 q21 hf
              · refine J_aload_n (pc := 215) C dX11_readsAct_215 rfl 1 rfl ?_
                refine J_iload_n (pc := 216) C dX11_readsAct_216 rfl 3 rfl ?_
                refine J_iload (pc := 217) C dX11_readsAct_217 4 rfl ?_
                refine J_if_eq (pc := 219) C dX11_readsAct_219 (tgt := 228) (by decide) hf (fun _ hf => ?_) (fun _ hf => ?_)
                · refine J_iload (pc := 228) C dX11_readsAct_228 5 rfl ?_
                  refine J_sub [1, 2, 3, 4, 5, 6, 0] (L1 := [(0, .ref v0), (1, .long v1), (3, .int v3), (4, .int v4), (5, .int v5), (6, .int v6), (7, .int x14)]) rfl ?_
                  exact B230 q15 v0 v1 v3 v4 v5 v6 x14 v0 v3 v5 hf
                · refine J_iload (pc := 222) C dX11_readsAct_222 5 rfl ?_
                  refine J_ineg (pc := 224) C dX11_readsAct_224 ?_
                  refine J_goto (pc := 225) C dX11_readsAct_225 (tgt := 230) (by decide) ?_
                  refine J_sub [1, 2, 3, 4, 5, 6, 0] (L1 := [(0, .ref v0), (1, .long v1), (3, .int v3), (4, .int v4), (5, .int v5), (6, .int v6), (7, .int x14)]) rfl ?_
                  exact B230 q15 v0 v1 v3 v4 v5 v6 x14 v0 v3 (-v5) hf
            · refine J_aload_n (pc := 197) C dX11_readsAct_197 rfl 1 rfl ?_
              refine J_iload_n (pc := 198) C dX11_readsAct_198 rfl 3 rfl ?_
              refine J_iload (pc := 199) C dX11_readsAct_199 5 rfl ?_
              obtain ⟨q44, h45, hf⟩ := bind_ok hf
              obtain ⟨_, g46, h45⟩ := cl_spec h45
              refine J_cV (S := []) (pc := 201) C dX11_readsAct_201 (c_X11_refusesMelt _ _ _ _ _ h45) k_1187 ys_X11_refusesMelt ⟨Nat.le_of_ble_eq_true rfl, Nat.le_of_ble_eq_true rfl⟩ ⟨Nat.le_of_ble_eq_true rfl, Nat.le_of_ble_eq_true rfl⟩ g46 rfl rfl (fun _ => Nat.le_of_ble_eq_true rfl) ?_
              refine J_goto (pc := 204) C dX11_readsAct_204 (tgt := 247) (by decide) ?_
              refine J_sub [1, 2, 3, 4, 5, 6, 0] (L1 := [(0, .ref v0), (1, .long v1), (3, .int v3), (4, .int v4), (5, .int v5), (6, .int v6), (7, .int x14)]) rfl ?_
              exact B247 q15 v0 v1 v3 v4 v5 v6 x14 q44 hf
          · refine J_aload_n (pc := 179) C dX11_readsAct_179 rfl 1 rfl ?_
            refine J_iload_n (pc := 180) C dX11_readsAct_180 rfl 3 rfl ?_
            refine J_iload (pc := 181) C dX11_readsAct_181 5 rfl ?_
            obtain ⟨q47, h48, hf⟩ := bind_ok hf
            obtain ⟨_, g49, h48⟩ := cl_spec h48
            refine J_cV (S := []) (pc := 183) C dX11_readsAct_183 (c_X11_refusesJoin _ _ _ _ h48) k_1179 ys_X11_refusesJoin ⟨Nat.le_of_ble_eq_true rfl, Nat.le_of_ble_eq_true rfl⟩ ⟨Nat.le_of_ble_eq_true rfl, Nat.le_of_ble_eq_true rfl⟩ g49 rfl rfl (fun _ => Nat.le_of_ble_eq_true rfl) ?_
            refine J_goto (pc := 186) C dX11_readsAct_186 (tgt := 247) (by decide) ?_
            refine J_sub [1, 2, 3, 4, 5, 6, 0] (L1 := [(0, .ref v0), (1, .long v1), (3, .int v3), (4, .int v4), (5, .int v5), (6, .int v6), (7, .int x14)]) rfl ?_
            exact B247 q15 v0 v1 v3 v4 v5 v6 x14 q47 hf
        · refine J_aload_n (pc := 159) C dX11_readsAct_159 rfl 1 rfl ?_
          refine J_iload_n (pc := 160) C dX11_readsAct_160 rfl 3 rfl ?_
          refine J_iload (pc := 161) C dX11_readsAct_161 5 rfl ?_
          refine J_iload (pc := 163) C dX11_readsAct_163 6 rfl ?_
          obtain ⟨q50, h51, hf⟩ := bind_ok hf
          obtain ⟨_, g52, h51⟩ := cl_spec h51
          refine J_cV (S := []) (pc := 165) C dX11_readsAct_165 (c_X11_refusesCut _ _ _ _ _ _ h51) k_1155 ys_X11_refusesCut ⟨Nat.le_of_ble_eq_true rfl, Nat.le_of_ble_eq_true rfl⟩ ⟨Nat.le_of_ble_eq_true rfl, Nat.le_of_ble_eq_true rfl⟩ g52 rfl rfl (fun _ => Nat.le_of_ble_eq_true rfl) ?_
          refine J_goto (pc := 168) C dX11_readsAct_168 (tgt := 247) (by decide) ?_
          refine J_sub [1, 2, 3, 4, 5, 6, 0] (L1 := [(0, .ref v0), (1, .long v1), (3, .int v3), (4, .int v4), (5, .int v5), (6, .int v6), (7, .int x14)]) rfl ?_
          exact B247 q15 v0 v1 v3 v4 v5 v6 x14 q50 hf
      · refine J_aload_n (pc := 138) C dX11_readsAct_138 rfl 1 rfl ?_
        refine J_iload_n (pc := 139) C dX11_readsAct_139 rfl 3 rfl ?_
        refine J_iload (pc := 140) C dX11_readsAct_140 5 rfl ?_
        refine J_iload (pc := 142) C dX11_readsAct_142 6 rfl ?_
        refine J_iconst (pc := 144) C dX11_readsAct_144 (v := 1) (by decide) ?_
        obtain ⟨q53, h54, hf⟩ := bind_ok hf
        obtain ⟨_, g55, h54⟩ := cl_spec h54
        refine J_cV (S := []) (pc := 145) C dX11_readsAct_145 (c_X11_refusesMark _ _ _ _ _ _ _ h54) k_1235 ys_X11_refusesMark ⟨Nat.le_of_ble_eq_true rfl, Nat.le_of_ble_eq_true rfl⟩ ⟨Nat.le_of_ble_eq_true rfl, Nat.le_of_ble_eq_true rfl⟩ g55 rfl rfl (fun _ => Nat.le_of_ble_eq_true rfl) ?_
        refine J_goto (pc := 148) C dX11_readsAct_148 (tgt := 247) (by decide) ?_
        refine J_sub [1, 2, 3, 4, 5, 6, 0] (L1 := [(0, .ref v0), (1, .long v1), (3, .int v3), (4, .int v4), (5, .int v5), (6, .int v6), (7, .int x14)]) rfl ?_
        exact B247 q53.2 v0 v1 v3 v4 v5 v6 x14 q53.1 hf
    · refine J_iconst (pc := 128) C dX11_readsAct_128 (v := 0) (by decide) ?_
      exact J_iret (pc := 129) C  rfl rfl dX11_readsAct_129 hf
  have B97 : ∀ (w : MW) (v0 : Nat) (v1 : Int64) (v3 : Int32) (v4 : Int32) (v5 : Int32) (s0 : Int32), f_X11_readsAct_97 fu w v0 v1 v3 v4 v5 s0 = some (rr, w') → JW p l e rmX11_readsAct s m args below meth c 10 D dA A E (MQ below (Qr D dA E (some (.int rr)) w' A) args s 0 0 A) 0 0 97 [(0, .ref v0), (1, .long v1), (3, .int v3), (4, .int v4), (5, .int v5)] [.int s0] w := by
    intro w v0 v1 v3 v4 v5 s0 hf
    rw [f_X11_readsAct_97] at hf
    refine J_istore (pc := 97) C dX11_readsAct_97 (by decide) hf (fun q => [(6, .int q), (0, .ref v0), (1, .long v1), (3, .int v3), (4, .int v4), (5, .int v5)]) (fun _ => rfl) (fun x13 hf => ?_)
    refine J_lload_n (pc := 99) C dX11_readsAct_99 rfl 2 rfl ?_
    refine J_ldc2 (pc := 100) C dX11_readsAct_100 (v := 267413) k_1446 ?_
    refine J_lcmp (pc := 103) C dX11_readsAct_103 ?_
    refine J_if_ne (pc := 104) C dX11_readsAct_104 (tgt := 114) (by decide) hf (fun _ hf => ?_) (fun _ hf => ?_)
    · refine J_iconst (pc := 114) C dX11_readsAct_114 (v := 0) (by decide) ?_
      refine J_sub [1, 2, 3, 4, 5, 0] (L1 := [(0, .ref v0), (1, .long v1), (3, .int v3), (4, .int v4), (5, .int v5), (6, .int x13)]) rfl ?_
      exact B115 w v0 v1 v3 v4 v5 x13 (0 : Int32) hf
    · refine J_aload_n (pc := 107) C dX11_readsAct_107 rfl 1 rfl ?_
      obtain ⟨q56, h57, hf⟩ := bind_ok hf
      obtain ⟨_, g58, h57⟩ := cl_spec h57
      refine J_cV (S := []) (pc := 108) C dX11_readsAct_108 (c_X11_setNumber _ _ _ h57) k_1417 ys_X11_setNumber ⟨Nat.le_of_ble_eq_true rfl, Nat.le_of_ble_eq_true rfl⟩ ⟨Nat.le_of_ble_eq_true rfl, Nat.le_of_ble_eq_true rfl⟩ g58 rfl rfl (fun _ => Nat.le_of_ble_eq_true rfl) ?_
      refine J_goto (pc := 111) C dX11_readsAct_111 (tgt := 115) (by decide) ?_
      refine J_sub [1, 2, 3, 4, 5, 0] (L1 := [(0, .ref v0), (1, .long v1), (3, .int v3), (4, .int v4), (5, .int v5), (6, .int x13)]) rfl ?_
      exact B115 q56.2 v0 v1 v3 v4 v5 x13 q56.1 hf
  have B89 : ∀ (w : MW) (v0 : Nat) (v1 : Int64) (v3 : Int32) (v4 : Int32) (v5 : Int32), f_X11_readsAct_89 fu w v0 v1 v3 v4 v5 = some (rr, w') → JW p l e rmX11_readsAct s m args below meth c 10 D dA A E (MQ below (Qr D dA E (some (.int rr)) w' A) args s 0 0 A) 0 0 89 [(0, .ref v0), (1, .long v1), (3, .int v3), (4, .int v4), (5, .int v5)] [] w := by
    intro w v0 v1 v3 v4 v5 hf
    rw [f_X11_readsAct_89] at hf
    refine J_aload_n (pc := 89) C dX11_readsAct_89 rfl 0 rfl ?_
    obtain ⟨q10, h11, hf⟩ := bind_ok hf
    obtain ⟨_, g12, h11⟩ := cl_spec h11
    refine J_cV (S := []) (pc := 90) C dX11_readsAct_90 (c_X11_numeral _ _ _ h11) k_1421 ys_X11_numeral ⟨Nat.le_of_ble_eq_true rfl, Nat.le_of_ble_eq_true rfl⟩ ⟨Nat.le_of_ble_eq_true rfl, Nat.le_of_ble_eq_true rfl⟩ g12 rfl rfl (fun _ => Nat.le_of_ble_eq_true rfl) ?_
    refine J_goto (pc := 93) C dX11_readsAct_93 (tgt := 97) (by decide) ?_
    refine J_sub [0, 1, 2, 3, 4] (L1 := [(0, .ref v0), (1, .long v1), (3, .int v3), (4, .int v4), (5, .int v5)]) rfl ?_
    exact B97 q10.2 v0 v1 v3 v4 v5 q10.1 hf
  have B56 : ∀ (w : MW) (v0 : Nat) (v1 : Int64) (v3 : Int32) (v4 : Int32) (s0 : Int32), f_X11_readsAct_56 fu w v0 v1 v3 v4 s0 = some (rr, w') → JW p l e rmX11_readsAct s m args below meth c 10 D dA A E (MQ below (Qr D dA E (some (.int rr)) w' A) args s 0 0 A) 0 0 56 [(0, .ref v0), (1, .long v1), (3, .int v3), (4, .int v4)] [.int s0] w := by
    intro w v0 v1 v3 v4 s0 hf
    rw [f_X11_readsAct_56] at hf
    refine J_istore (pc := 56) C dX11_readsAct_56 (by decide) hf (fun q => [(5, .int q), (0, .ref v0), (1, .long v1), (3, .int v3), (4, .int v4)]) (fun _ => rfl) (fun x9 hf => ?_)
    refine J_lload_n (pc := 58) C dX11_readsAct_58 rfl 2 rfl ?_
    refine J_ldc2 (pc := 59) C dX11_readsAct_59 (v := 2774) k_1442 ?_
    refine J_lcmp (pc := 62) C dX11_readsAct_62 ?_
    refine J_if_ne (pc := 63) C dX11_readsAct_63 (tgt := 73) (by decide) hf (fun _ hf => ?_) (fun _ hf => ?_)
    · refine J_lload_n (pc := 73) C dX11_readsAct_73 rfl 2 rfl ?_
      refine J_ldc2 (pc := 74) C dX11_readsAct_74 (v := 257105) k_1441 ?_
      refine J_lcmp (pc := 77) C dX11_readsAct_77 ?_
      refine J_if_eq (pc := 78) C dX11_readsAct_78 (tgt := 89) (by decide) hf (fun _ hf => ?_) (fun _ hf => ?_)
      · refine J_sub [1, 2, 3, 4, 0] (L1 := [(0, .ref v0), (1, .long v1), (3, .int v3), (4, .int v4), (5, .int x9)]) rfl ?_
        exact B89 w v0 v1 v3 v4 x9 hf
      · refine J_lload_n (pc := 81) C dX11_readsAct_81 rfl 2 rfl ?_
        refine J_ldc2 (pc := 82) C dX11_readsAct_82 (v := 267413) k_1446 ?_
        refine J_lcmp (pc := 85) C dX11_readsAct_85 ?_
        refine J_if_ne (pc := 86) C dX11_readsAct_86 (tgt := 96) (by decide) hf (fun _ hf => ?_) (fun _ hf => ?_)
        · refine J_iconst (pc := 96) C dX11_readsAct_96 (v := 0) (by decide) ?_
          refine J_sub [1, 2, 3, 4, 0] (L1 := [(0, .ref v0), (1, .long v1), (3, .int v3), (4, .int v4), (5, .int x9)]) rfl ?_
          exact B97 w v0 v1 v3 v4 x9 (0 : Int32) hf
        · refine J_sub [1, 2, 3, 4, 0] (L1 := [(0, .ref v0), (1, .long v1), (3, .int v3), (4, .int v4), (5, .int x9)]) rfl ?_
          exact B89 w v0 v1 v3 v4 x9 hf
    · refine J_aload_n (pc := 66) C dX11_readsAct_66 rfl 1 rfl ?_
      obtain ⟨q59, h60, hf⟩ := bind_ok hf
      obtain ⟨_, g61, h60⟩ := cl_spec h60
      refine J_cV (S := []) (pc := 67) C dX11_readsAct_67 (c_X11_setNumber _ _ _ h60) k_1417 ys_X11_setNumber ⟨Nat.le_of_ble_eq_true rfl, Nat.le_of_ble_eq_true rfl⟩ ⟨Nat.le_of_ble_eq_true rfl, Nat.le_of_ble_eq_true rfl⟩ g61 rfl rfl (fun _ => Nat.le_of_ble_eq_true rfl) ?_
      refine J_goto (pc := 70) C dX11_readsAct_70 (tgt := 97) (by decide) ?_
      refine J_sub [1, 2, 3, 4, 0] (L1 := [(0, .ref v0), (1, .long v1), (3, .int v3), (4, .int v4), (5, .int x9)]) rfl ?_
      exact B97 q59.2 v0 v1 v3 v4 x9 q59.1 hf
  have B45 : ∀ (w : MW) (v0 : Nat) (v1 : Int64) (v3 : Int32) (v4 : Int32), f_X11_readsAct_45 fu w v0 v1 v3 v4 = some (rr, w') → JW p l e rmX11_readsAct s m args below meth c 10 D dA A E (MQ below (Qr D dA E (some (.int rr)) w' A) args s 0 0 A) 0 0 45 [(0, .ref v0), (1, .long v1), (3, .int v3), (4, .int v4)] [] w := by
    intro w v0 v1 v3 v4 hf
    rw [f_X11_readsAct_45] at hf
    refine J_aload_n (pc := 45) C dX11_readsAct_45 rfl 0 rfl ?_
    obtain ⟨q6, h7, hf⟩ := bind_ok hf
    obtain ⟨_, g8, h7⟩ := cl_spec h7
    refine J_cV (S := []) (pc := 46) C dX11_readsAct_46 (c_X11_setNumber _ _ _ h7) k_1417 ys_X11_setNumber ⟨Nat.le_of_ble_eq_true rfl, Nat.le_of_ble_eq_true rfl⟩ ⟨Nat.le_of_ble_eq_true rfl, Nat.le_of_ble_eq_true rfl⟩ g8 rfl rfl (fun _ => Nat.le_of_ble_eq_true rfl) ?_
    refine J_goto (pc := 49) C dX11_readsAct_49 (tgt := 56) (by decide) ?_
    refine J_sub [0, 1, 2, 3] (L1 := [(0, .ref v0), (1, .long v1), (3, .int v3), (4, .int v4)]) rfl ?_
    exact B56 q6.2 v0 v1 v3 v4 q6.1 hf
  have B27 : ∀ (w : MW) (v0 : Nat) (v1 : Int64) (v3 : Int32) (s0 : Int32), f_X11_readsAct_27 fu w v0 v1 v3 s0 = some (rr, w') → JW p l e rmX11_readsAct s m args below meth c 10 D dA A E (MQ below (Qr D dA E (some (.int rr)) w' A) args s 0 0 A) 0 0 27 [(0, .ref v0), (1, .long v1), (3, .int v3)] [.int s0] w := by
    intro w v0 v1 v3 s0 hf
    rw [f_X11_readsAct_27] at hf
    refine J_istore (pc := 27) C dX11_readsAct_27 (by decide) hf (fun q => [(4, .int q), (0, .ref v0), (1, .long v1), (3, .int v3)]) (fun _ => rfl) (fun x5 hf => ?_)
    refine J_lload_n (pc := 29) C dX11_readsAct_29 rfl 2 rfl ?_
    refine J_ldc2 (pc := 30) C dX11_readsAct_30 (v := 208022) k_1443 ?_
    refine J_lcmp (pc := 33) C dX11_readsAct_33 ?_
    refine J_if_eq (pc := 34) C dX11_readsAct_34 (tgt := 45) (by decide) hf (fun _ hf => ?_) (fun _ hf => ?_)
    · refine J_sub [1, 2, 3, 0] (L1 := [(0, .ref v0), (1, .long v1), (3, .int v3), (4, .int x5)]) rfl ?_
      exact B45 w v0 v1 v3 x5 hf
    · refine J_lload_n (pc := 37) C dX11_readsAct_37 rfl 2 rfl ?_
      refine J_ldc2 (pc := 38) C dX11_readsAct_38 (v := 259868) k_1444 ?_
      refine J_lcmp (pc := 41) C dX11_readsAct_41 ?_
      refine J_if_ne (pc := 42) C dX11_readsAct_42 (tgt := 52) (by decide) hf (fun _ hf => ?_) (fun _ hf => ?_)
      · refine J_aload_n (pc := 52) C dX11_readsAct_52 rfl 1 rfl ?_
        obtain ⟨q62, h63, hf⟩ := bind_ok hf
        obtain ⟨_, g64, h63⟩ := cl_spec h63
        refine J_cV (S := []) (pc := 53) C dX11_readsAct_53 (c_X11_numeral _ _ _ h63) k_1421 ys_X11_numeral ⟨Nat.le_of_ble_eq_true rfl, Nat.le_of_ble_eq_true rfl⟩ ⟨Nat.le_of_ble_eq_true rfl, Nat.le_of_ble_eq_true rfl⟩ g64 rfl rfl (fun _ => Nat.le_of_ble_eq_true rfl) ?_
        refine J_sub [1, 2, 3, 0] (L1 := [(0, .ref v0), (1, .long v1), (3, .int v3), (4, .int x5)]) rfl ?_
        exact B56 q62.2 v0 v1 v3 x5 q62.1 hf
      · refine J_sub [1, 2, 3, 0] (L1 := [(0, .ref v0), (1, .long v1), (3, .int v3), (4, .int x5)]) rfl ?_
        exact B45 w v0 v1 v3 x5 hf
  rw [f_X11_readsAct] at hf
  refine J_sub [0, 1] (L1 := [(0, .ref v0), (1, .long v1)]) rfl ?_
  refine J_aload_n (pc := 0) C dX11_readsAct_0 rfl 0 rfl ?_
  obtain ⟨q1, h2, hf⟩ := bind_ok hf
  obtain ⟨_, g3, h2⟩ := cl_spec h2
  refine J_cV (S := []) (pc := 1) C dX11_readsAct_1 (c_X11_setNumber _ _ _ h2) k_1417 ys_X11_setNumber ⟨Nat.le_of_ble_eq_true rfl, Nat.le_of_ble_eq_true rfl⟩ ⟨Nat.le_of_ble_eq_true rfl, Nat.le_of_ble_eq_true rfl⟩ g3 rfl rfl (fun _ => Nat.le_of_ble_eq_true rfl) ?_
  refine J_istore_n (pc := 4) C dX11_readsAct_4 rfl (by decide) hf (fun q => [(3, .int q), (0, .ref v0), (1, .long v1)]) (fun _ => rfl) (fun x4 hf => ?_)
  refine J_lload_n (pc := 5) C dX11_readsAct_5 rfl 2 rfl ?_
  refine J_ldc2 (pc := 6) C dX11_readsAct_6 (v := 10261586) k_1445 ?_
  refine J_lcmp (pc := 9) C dX11_readsAct_9 ?_
  refine J_if_ne (pc := 10) C dX11_readsAct_10 (tgt := 26) (by decide) hf (fun _ hf => ?_) (fun _ hf => ?_)
  · refine J_iconst (pc := 26) C dX11_readsAct_26 (v := 0) (by decide) ?_
    refine J_sub [1, 2, 0] (L1 := [(0, .ref v0), (1, .long v1), (3, .int x4)]) rfl ?_
    exact B27 q1.2 v0 v1 x4 (0 : Int32) hf
  · refine J_aload_n (pc := 13) C dX11_readsAct_13 rfl 1 rfl ?_
    refine J_bipush (pc := 14) C dX11_readsAct_14 (v := 45) (by decide) ?_
    obtain ⟨q65, h66, hf⟩ := bind_ok hf
    obtain ⟨_, g67, h66⟩ := cl_spec h66
    refine J_cV (S := []) (pc := 16) C dX11_readsAct_16 (c_X11_hasSign _ _ _ _ h66) k_1433 ys_X11_hasSign ⟨Nat.le_of_ble_eq_true rfl, Nat.le_of_ble_eq_true rfl⟩ ⟨Nat.le_of_ble_eq_true rfl, Nat.le_of_ble_eq_true rfl⟩ g67 rfl rfl (fun _ => Nat.le_of_ble_eq_true rfl) ?_
    refine J_if_eq (pc := 19) C dX11_readsAct_19 (tgt := 26) (by decide) hf (fun _ hf => ?_) (fun _ hf => ?_)
    · refine J_iconst (pc := 26) C dX11_readsAct_26 (v := 0) (by decide) ?_
      refine J_sub [1, 2, 0] (L1 := [(0, .ref v0), (1, .long v1), (3, .int x4)]) rfl ?_
      exact B27 q65.2 v0 v1 x4 (0 : Int32) hf
    · refine J_iconst (pc := 22) C dX11_readsAct_22 (v := 1) (by decide) ?_
      refine J_goto (pc := 23) C dX11_readsAct_23 (tgt := 27) (by decide) ?_
      refine J_sub [1, 2, 0] (L1 := [(0, .ref v0), (1, .long v1), (3, .int x4)]) rfl ?_
      exact B27 q65.2 v0 v1 x4 (1 : Int32) hf
