/-! COUNT -/
section Q
variable {C : MW} {F : Nat → Int32} {v : Int64} {ar : Nat → Nat → Int32} {s : AS} {V : List AS} {n : Nat} {fu : Nat}
def neW (hs : Nat → List Nat) (t : Nat) : Nat := if (hs t).length = 0 then 0 else 1
theorem cne_loop {w : MW} (h : CS w s.1 s.2) (O : ∀ q, q < 8 → SOK (s.1 q)) : ∀ N t acc, t ≤ 8 → 8 - t < N → f_X7_notEmpty_4 fu w N 1 (nI acc) (nI t) = some (nI (acc + smF (neW s.1) t 8)) := by
  intro N
  induction N with
  | zero => intro t acc _ hN; omega
  | succ N ih =>
    intro t acc ht hN
    rw [f_X7_notEmpty_4]
    by_cases c : 8 ≤ t
    · rw [if_pos (show (8 : Int32) ≤ nI t from nI_le (a := 8) c (by omega)), smF_end _ c]; rfl
    · have ht8 : t < 8 := by omega
      have l1 := (O t ht8).len
      have nx : ∀ z, z = neW s.1 t → f_X7_notEmpty_28 fu w (f_X7_notEmpty_4 fu w N) 1 (nI t) (nI acc) (nI z) = some (nI (acc + smF (neW s.1) t 8)) := fun z hz => by
        rw [f_X7_notEmpty_28, bnd_eq, bnd_eq, nI_add, nI_1, ih (t + 1) _ (by omega) (by omega), smF_cons _ ht8, hz, Nat.add_assoc]
      rw [if_neg (show ¬ (8 : Int32) ≤ nI t from nI_ge (b := 8) ht8 (by omega)), h.arr, some_bind', h.heap ht8, some_bind', gI_ob (h.ha ht8).2.1 rfl, some_bind']
      by_cases q : (s.1 t).length = 0
      · rw [if_pos ((nI_le0 (by omega)).mpr q)]
        exact nx 0 (by unfold neW; rw [if_pos q])
      · rw [if_neg (fun z => q ((nI_le0 (by omega)).mp z))]
        exact nx 1 (by unfold neW; rw [if_neg q])
theorem cne_ok {w : MW} (h : CS w s.1 s.2) (O : ∀ q, q < 8 → SOK (s.1 q)) (hfu : 100 ≤ fu) : f_X7_notEmpty fu w 1 = some (nI (smF (neW s.1) 0 8)) := by
  have := cne_loop (fu := fu) h O fu 0 0 (by omega) (by omega)
  rw [Nat.zero_add] at this
  rw [f_X7_notEmpty, bnd_eq, bnd_eq]
  exact this
def mkW (hs : Nat → List Nat) (t : Nat) : Nat := smF (fun j => nth (hs t) j % 2) 0 (hs t).length
theorem mkb_all {L : List Nat} (S : SOK L) : mkb L 0 9999 = smF (fun j => nth L j % 2) 0 L.length := by
  unfold mkb
  rw [show (0 : Int32) = nI 0 from rfl, show (9999 : Int32) = nI 9999 from rfl, bel_zero S, nab_all S]
theorem cam_loop {w : MW} (h : CS w s.1 s.2) (O : ∀ q, q < 8 → SOK (s.1 q)) (hfu : 100 ≤ fu) : ∀ N t acc, t ≤ 8 → 8 - t < N → f_X7_allMarked_4 fu w N 1 (nI acc) (nI t) = some (nI (acc + smF (mkW s.1) t 8)) := by
  intro N
  induction N with
  | zero => intro t acc _ hN; omega
  | succ N ih =>
    intro t acc ht hN
    rw [f_X7_allMarked_4]
    by_cases c : 8 ≤ t
    · rw [if_pos (show (8 : Int32) ≤ nI t from nI_le (a := 8) c (by omega)), smF_end _ c]; rfl
    · have ht8 : t < 8 := by omega
      rw [if_neg (show ¬ (8 : Int32) ≤ nI t from nI_ge (b := 8) ht8 (by omega)), h.arr, some_bind', h.heap ht8, some_bind', (h.ha ht8).cl, marked_ok (h.ha ht8) (O t ht8) hfu, some_bind', bnd_eq, bnd_eq, nI_add, nI_1, ih (t + 1) _ (by omega) (by omega), smF_cons _ ht8, mkb_all (O t ht8), Nat.add_assoc]
      rfl
/-- WHERE as a sum of powers -/
def whB (hs : Nat → List Nat) (k : Int32) (t : Nat) : Nat := if plc (hs t) k = -1 then 0 else 2 ^ t
theorem whB_lt (hs : Nat → List Nat) (k : Int32) : ∀ t, smF (whB hs k) 0 t < 2 ^ t
  | 0 => by rw [smF_end _ (Nat.le_refl 0)]; decide
  | t + 1 => by
    have := whB_lt hs k t
    rw [smF_snoc _ _ _ (Nat.zero_le _), Nat.pow_succ]
    unfold whB at this ⊢
    split <;> omega
theorem or_pow {a i : Nat} (hi : i < 8) (ha : a < 2 ^ i) : nI a ||| ((1 : Int32) <<< (nI i &&& 31)) = nI (a + 2 ^ i) := by
  have e1 : ∀ i, i < 8 → ((1 : Int32) <<< (nI i &&& 31)) = nI (2 ^ i) := by decide
  have h8 : 2 ^ i ≤ 128 := by
    have := Nat.pow_le_pow_right (show 0 < 2 by omega) (show i ≤ 7 by omega)
    omega
  rw [e1 i hi]
  apply Int32.toBitVec_inj.mp
  apply BitVec.eq_of_toNat_eq
  show (BitVec.ofNat 32 a ||| BitVec.ofNat 32 (2 ^ i)).toNat = (BitVec.ofNat 32 (a + 2 ^ i)).toNat
  rw [BitVec.toNat_or, BitVec.toNat_ofNat, BitVec.toNat_ofNat, BitVec.toNat_ofNat, Nat.mod_eq_of_lt (show a < 2 ^ 32 by omega), Nat.mod_eq_of_lt (show 2 ^ i < 2 ^ 32 by omega), Nat.mod_eq_of_lt (show a + 2 ^ i < 2 ^ 32 by omega)]
  rw [Nat.or_comm, Nat.add_comm]
  have := Nat.two_pow_add_eq_or_of_lt (i := i) ha 1
  rw [Nat.mul_one] at this
  exact this.symm
theorem wh_eq {hs : Nat → List Nat} {k : Int32} : ∀ n t, t + n ≤ 8 → whF hs k t (nI (smF (whB hs k) 0 t)) n = nI (smF (whB hs k) 0 (t + n))
  | 0, t, _ => rfl
  | n + 1, t, h => by
    have hb := whB_lt hs k t
    rw [whF, show t + (n + 1) = (t + 1) + n by omega, ← wh_eq n (t + 1) (by omega), smF_snoc _ _ _ (Nat.zero_le _)]
    congr 1
    unfold whB at hb ⊢
    by_cases c : plc (hs t) k = -1
    · rw [if_pos c, if_pos c]; rfl
    · rw [if_neg c, if_neg c, or_pow (by omega) hb]
theorem wh_8 (hs : Nat → List Nat) (k : Int32) : whF hs k 0 0 8 = nI (smF (whB hs k) 0 8) := by
  have := wh_eq (hs := hs) (k := k) 8 0 (by omega)
  rw [smF_end _ (Nat.le_refl 0)] at this
  exact this
theorem wh_mod (hs : Nat → List Nat) (k : Int32) {t : Nat} : ∀ m, t ≤ m → smF (whB hs k) 0 m % 2 ^ t = smF (whB hs k) 0 t
  | 0, h => by
    rw [show t = 0 by omega, smF_end _ (Nat.le_refl 0)]
  | m + 1, h => by
    rcases Nat.lt_or_ge m t with c | c
    · rw [show t = m + 1 by omega]
      exact Nat.mod_eq_of_lt (whB_lt hs k (m + 1))
    · rw [smF_snoc _ _ _ (Nat.zero_le _), Nat.add_mod, wh_mod hs k m c]
      have e : whB hs k m % 2 ^ t = 0 := by
        unfold whB
        split
        · exact Nat.zero_mod _
        · exact Nat.mod_eq_zero_of_dvd (Nat.pow_dvd_pow 2 c)
      rw [e, Nat.add_zero, Nat.mod_eq_of_lt (whB_lt hs k t)]
theorem wh_and {x t : Nat} (hx : x < 2 ^ 31) (ht : t < 8) : nI x &&& (((1 : Int32) <<< (nI t &&& 31)) - (1 : Int32)) = nI (x % 2 ^ t) := by
  have e1 : ∀ i, i < 8 → ((1 : Int32) <<< (nI i &&& 31)) - (1 : Int32) = nI (2 ^ i - 1) := by decide
  have h8 : 2 ^ t ≤ 128 := by
    have := Nat.pow_le_pow_right (show 0 < 2 by omega) (show t ≤ 7 by omega)
    omega
  have hp : 0 < 2 ^ t := Nat.two_pow_pos t
  have hm := Nat.mod_lt x hp
  rw [e1 t ht]
  apply Int32.toBitVec_inj.mp
  apply BitVec.eq_of_toNat_eq
  show (BitVec.ofNat 32 x &&& BitVec.ofNat 32 (2 ^ t - 1)).toNat = (BitVec.ofNat 32 (x % 2 ^ t)).toNat
  rw [BitVec.toNat_and, BitVec.toNat_ofNat, BitVec.toNat_ofNat, BitVec.toNat_ofNat, Nat.mod_eq_of_lt (show x < 2 ^ 32 by omega), Nat.mod_eq_of_lt (show 2 ^ t - 1 < 2 ^ 32 by omega), Nat.mod_eq_of_lt (show x % 2 ^ t < 2 ^ 32 by omega)]
  exact Nat.and_two_pow_sub_one_eq_mod x t
theorem smF_0 {f : Nat → Nat} {m : Nat} : smF f 0 m = 0 ↔ ∀ t, t < m → f t = 0 := by
  constructor
  · intro h t ht
    rw [smF_split f (Nat.zero_le t) m (by omega), smF_cons f ht] at h
    omega
  · intro h; exact smF_zero f (fun j _ hj => h j hj)
theorem munl_in {b : Nat} (B : MB C F ar b s) (hfu : 100 ≤ fu) {lr4 : Nat → Int32 → Int32 → Option Int32} {t : Nat} (ht : t < 8) : ∀ N j acc, j ≤ (s.1 t).length → (s.1 t).length - j < N → f_X11_unlike_12 fu (mW C F v ar) lr4 N 123 (nI acc) (nI t) (nI j) = lr4 123 (nI (acc + smF (fsG s.1 t) j (s.1 t).length)) (nI (t + 1)) := by
  have S := B.2.2.2.2 t ht
  have l1 := S.len
  intro N
  induction N with
  | zero => intro j acc _ hN; omega
  | succ N ih =>
    intro j acc hj hN
    rw [f_X11_unlike_12, B.cl, B.many ht, some_bind']
    by_cases c : (s.1 t).length ≤ j
    · rw [if_pos (nI_le c (by omega)), bnd_eq, nI_1, smF_end _ c]; rfl
    · have hj' : j < (s.1 t).length := by omega
      have hb := whB_lt s.1 (nI (nth (s.1 t) j / 2)) 8
      have nx : ∀ z, z = fsG s.1 t j → f_X11_unlike_46 fu (mW C F v ar) lr4 (f_X11_unlike_12 fu (mW C F v ar) lr4 N) 123 (nI t) (nI j) (nI acc) (nI z) = lr4 123 (nI (acc + smF (fsG s.1 t) j (s.1 t).length)) (nI (t + 1)) := fun z hz => by
        rw [f_X11_unlike_46, bnd_eq, bnd_eq, nI_add, nI_1, ih (j + 1) _ (by omega) (by omega), smF_cons _ hj', hz, Nat.add_assoc]
      rw [if_neg (nI_ge hj' (by omega)), B.cl, B.key ht hj', some_bind', B.cl, mwhere_ok B hfu, some_bind', wh_8, wh_and (by omega) ht, wh_mod _ _ 8 (by omega)]
      have hm := whB_lt s.1 (nI (nth (s.1 t) j / 2)) t
      have h8 : 2 ^ t ≤ 128 := by
        have := Nat.pow_le_pow_right (show 0 < 2 by omega) (show t ≤ 7 by omega)
        omega
      have hiff : smF (whB s.1 (nI (nth (s.1 t) j / 2))) 0 t = 0 ↔ ∀ u, u < t → plc (s.1 u) (nI (kk s.1 t j)) = -1 := by
        rw [smF_0]
        constructor
        · intro h u hu
          have h1 := h u hu
          unfold whB at h1
          refine Decidable.byContradiction fun q => ?_
          rw [if_neg (show ¬ plc (s.1 u) (nI (nth (s.1 t) j / 2)) = -1 from q)] at h1
          have := Nat.two_pow_pos u
          omega
        · intro h u hu
          unfold whB
          rw [if_pos (show plc (s.1 u) (nI (nth (s.1 t) j / 2)) = -1 from h u hu)]
      by_cases q : smF (whB s.1 (nI (nth (s.1 t) j / 2))) 0 t = 0
      · rw [if_pos ((nI_eq0 (by omega)).mpr q)]
        exact nx 1 (by unfold fsG; rw [if_pos (fsG_1.mpr (hiff.mp q))])
      · rw [if_neg (fun z => q ((nI_eq0 (by omega)).mp z))]
        exact nx 0 (by unfold fsG; rw [if_neg (fun z => q (hiff.mpr (fsG_1.mp z)))])
theorem munl_out {b : Nat} (B : MB C F ar b s) (hfu : 100 ≤ fu) : ∀ N t acc, t ≤ 8 → 8 - t < N → f_X11_unlike_4 fu (mW C F v ar) N 123 (nI acc) (nI t) = some (nI (acc + smF (fun t => smF (fsG s.1 t) 0 (s.1 t).length) t 8)) := by
  intro N
  induction N with
  | zero => intro t acc _ hN; omega
  | succ N ih =>
    intro t acc ht hN
    rw [f_X11_unlike_4]
    by_cases c : 8 ≤ t
    · rw [if_pos (show (8 : Int32) ≤ nI t from nI_le (a := 8) c (by omega)), smF_end _ c]; rfl
    · have l1 := (B.2.2.2.2 t (by omega)).len
      rw [if_neg (show ¬ (8 : Int32) ≤ nI t from nI_ge (b := 8) (by omega) (by omega)), bnd_eq, show (0 : Int32) = nI 0 from rfl, munl_in B hfu (by omega) fu 0 acc (by omega) (by omega), ih (t + 1) _ (by omega) (by omega), smF_cons _ (show t < 8 by omega), Nat.add_assoc]
theorem chuf_init {hs : Nat → List Nat} {fg : Nat → Int32} (O : ∀ q, q < 8 → SOK (hs q)) : ∀ N t w f, CS w hs fg → w[12]? = some (.inl (.int, 8, .inl f)) → (∀ u, u < t → f u = nI (hs u).length) → t ≤ 8 → 8 - t < N → ∃ w', f_X7_huffman_2 fu N w 1 (nI t) = (bnd (0 : Int32) fun x2 => (cl w' 7 1 (f_X7_notEmpty fu w' 1)).bind fun q3 => bnd q3 fun x6 => f_X7_huffman_36 fu fu w' 1 x2 x6) ∧ H12 w' (fun t => (hs t).length) ∧ CS w' hs fg ∧ Chg [12] w w' := by
  intro N
  induction N with
  | zero => intro t w f _ _ _ _ hN; omega
  | succ N ih =>
    intro t w f h h12 hf ht hN
    rw [f_X7_huffman_2]
    by_cases c : 8 ≤ t
    · rw [if_pos (show (8 : Int32) ≤ nI t from nI_le (a := 8) c (by omega))]
      exact ⟨w, rfl, ⟨f, h12, fun u hu => hf u (by omega)⟩, h, Chg.rf _ _⟩
    · have ht8 : t < 8 := by omega
      have c1 := Chg.st (ks := [12]) w (a := 12) (.inl (.int, 8, .inl (upd f t (nI (hs t).length)))) (by simp)
      obtain ⟨w', k1, k2, k3, k4⟩ := ih (t + 1) _ _ (h.chg c1 (fun k hk => by simp at hk; omega)) (get_set_eq h12) (fun u hu => by
        by_cases q : u = t
        · subst q; rw [upd_eq]
        · rw [upd_ne _ _ q]; exact hf u (by omega)) (by omega) (by omega)
      rw [if_neg (show ¬ (8 : Int32) ≤ nI t from nI_ge (b := 8) ht8 (by omega)), h.wt, some_bind', h.arr, some_bind', h.heap ht8, some_bind', gI_ob (h.ha ht8).2.1 rfl, some_bind', sI_ar h12 ht8 (by omega), some_bind', bnd_eq, nI_1, k1]
      exact ⟨w', rfl, k2, k3, c1.tr k4⟩
theorem k12_31 : ∀ k, k ∈ [12] → 1 ≤ k ∧ k < 31 := by decide
def hufL (hs : Nat → List Nat) : Nat := hufV (smF (neW hs) 0 8 - 1) (fun t => (hs t).length) 0
theorem ne_pc (hs : Nat → List Nat) : smF (neW hs) 0 8 = pcW (fun t => (hs t).length) := rfl
theorem chuf_ok (G : Good C F v ar s V n) (hfu : 100 ≤ fu) : ∃ C1, f_X7_huffman fu (mW C F v ar) 1 = some (nI (hufL s.1), mW C1 F v ar) ∧ Good C1 F v ar s V n ∧ ∀ k, k ∉ actKs → C1[k]? = C[k]? := by
  have h := G.1.2.2.1
  have O := G.1.2.2.2.1
  have ht := O.2
  obtain ⟨f, h12⟩ := G.2.1.2.2.1
  obtain ⟨w1, g1, g2, g3, g4⟩ := chuf_init (fu := fu) O.1 fu 0 _ f h h12 (fun u hu => by omega) (by omega) (by omega)
  obtain ⟨w2, k1, k2, ⟨W2, f2, k3, _⟩, k4⟩ := chuf_loop (fu := fu) hfu fu (smF (neW s.1) 0 8 - 1) (fun t => (s.1 t).length) 0 w1 g3 g2 ht (by rw [ne_pc]; omega) (by rw [ne_pc]; omega) (by
    have : pcW (fun t => (s.1 t).length) ≤ 8 := by
      have := sum8_le (f := fun t => if (s.1 t).length = 0 then 0 else 1) (g := fun _ => 1) (fun t _ => by split <;> omega)
      rw [smF8 (fun _ => 1)] at this
      exact this
    rw [ne_pc]; omega)
  have ch := g4.tr k4
  have Z2 : Sc w2 := by
    obtain ⟨z1, ⟨a, b, c, d, e, z2⟩, _, z4, ⟨f', z5⟩⟩ := G.2.1
    exact ⟨z1.chg ch (fun k hk => by simp at hk; omega), ⟨a, b, c, d, e, ch.at (by simp) z2⟩, ⟨f2, k3⟩, ch.at (by simp) z4, ⟨f', ch.at (by simp) z5⟩⟩
  obtain ⟨C1, e1, e2, G1, e4⟩ := good_q G ch k12_31 k2 Z2
  subst e1
  refine ⟨C1, ?_, G1, e4⟩
  rw [f_X7_huffman, bnd_eq, show (0 : Int32) = nI 0 from rfl, g1, bnd_eq, g3.cl, cne_ok g3 O.1 hfu, some_bind', bnd_eq, ne_pc]
  exact k1
theorem mhuf_init {b : Nat} : ∀ N t ar, MB C F ar b s → (∀ u, u < t → ar 5 u = nI (s.1 u).length) → t ≤ 8 → 8 - t < N → ∃ g, f_X11_huffman_2 fu N (mW C F v ar) 123 (nI t) = (bnd (0 : Int32) fun x2 => (cl (mW C F v (ua ar 5 g)) 11 123 (f_X11_fewest fu (mW C F v (ua ar 5 g)) 123 (-1 : Int32))).bind fun q3 => bnd q3 fun x6 => (cl (mW C F v (ua ar 5 g)) 11 123 (f_X11_fewest fu (mW C F v (ua ar 5 g)) 123 x6)).bind fun q7 => bnd q7 fun x10 => f_X11_huffman_39 fu fu (mW C F v (ua ar 5 g)) 123 x2 x6 x10) ∧ MH (ua ar 5 g) (fun t => (s.1 t).length) := by
  intro N
  induction N with
  | zero => intro t ar _ _ _ hN; omega
  | succ N ih =>
    intro t ar B hf ht hN
    rw [f_X11_huffman_2]
    by_cases c : 8 ≤ t
    · rw [if_pos (show (8 : Int32) ≤ nI t from nI_le (a := 8) c (by omega))]
      exact ⟨ar 5, by rw [ua_self], fun u hu => by rw [ua_eq]; exact hf u (by omega)⟩
    · have ht8 : t < 8 := by omega
      obtain ⟨g, k1, k2⟩ := ih (t + 1) (ua ar 5 (upd (ar 5) t (nI (s.1 t).length))) (B.F B.1 rfl (by rw [ua_ne _ _ (by omega)]; exact B.2.2.2.1) B.2.2.2.2) (fun u hu => by
        rw [ua_eq]
        by_cases q : u = t
        · subst q; rw [upd_eq]
        · rw [upd_ne _ _ q]; exact hf u (by omega)) (by omega) (by omega)
      rw [ua_ua] at k1 k2
      rw [if_neg (show ¬ (8 : Int32) ≤ nI t from nI_ge (b := 8) ht8 (by omega)), m_gR B.1 F v ar 21 rfl, some_bind', B.cl, B.many ht8, some_bind', m_s5 B.1 F v ar _ ht8, some_bind', bnd_eq, nI_1, k1]
      exact ⟨g, rfl, k2⟩
theorem mhuf_ok {b : Nat} (B : MB C F ar b s) (O : AOK s.1) (hfu : 100 ≤ fu) : ∃ g, f_X11_huffman fu (mW C F v ar) 123 = some (nI (hufL s.1), mW C F v (ua ar 5 g)) := by
  have ht := O.2
  obtain ⟨g, k1, k2⟩ := mhuf_init (v := v) (fu := fu) fu 0 ar B (fun u hu => by omega) (by omega) (by omega)
  have hW : ∀ t, t < 8 → (fun t => (s.1 t).length) t ≤ 1000 := fun t ht8 => by have := (O.1 t ht8).len; show (s.1 t).length ≤ 1000; omega
  obtain ⟨g2, m1⟩ := mhuf_loop (v := v) (F := F) (fu := fu) B.1 hfu fu (smF (neW s.1) 0 8 - 1) (fun t => (s.1 t).length) 0 (ua ar 5 g) k2 ht (by rw [ne_pc]; omega) (by rw [ne_pc]; omega) (by
    have : pcW (fun t => (s.1 t).length) ≤ 8 := by
      have := sum8_le (f := fun t => if (s.1 t).length = 0 then 0 else 1) (g := fun _ => 1) (fun t _ => by split <;> omega)
      rw [smF8 (fun _ => 1)] at this
      exact this
    rw [ne_pc]; omega)
  refine ⟨g2, ?_⟩
  rw [f_X11_huffman, bnd_eq, show (0 : Int32) = nI 0 from rfl, k1, bnd_eq, m_cl B.1, mlight_ok B.1 k2 hW hfu, some_bind', bnd_eq, m_cl B.1, mlight_ok B.1 k2 hW hfu, some_bind', bnd_eq]
  refine m1.trans ?_
  rw [ua_ua]
  rfl
end Q
