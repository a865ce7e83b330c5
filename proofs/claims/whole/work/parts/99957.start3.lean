def Fz : Nat → Int32 := fun k => if k = 7 then -1 else 0
def arz : Nat → Nat → Int32 := fun _ _ => 0
theorem start_M {w2 : MW} {g : Nat → MC} (d0 : WD w2 123 g) {fu : Nat} (hfu : 2000 ≤ fu) : ∃ w3, nwC 0 w2 [.ref 0, .ref 40000] (.inr (11, [.null, .null, .null, .null, .int 0, .int 0, .int 0, .int 0, .int 0, .int 0, .null, .int 0, .int 0, .int 0, .int 0, .int 0, .int 0, .int 0, .int 0, .int 0, .int 0, .null, .int 0, .int 0, .int 0, .int 0, .long 0])) = some w3 ∧ (∀ x : Option MW, clA 0 w3 11 123 [.ref 0, .ref 40000, .ref 123] x = x) ∧ ∃ al, f_X11_init fu w3 123 = some (mW w2 Fz 0 (ua arz 0 al)) ∧ M8 al 0 asE := by
  obtain ⟨w3, e3, d3⟩ := nwD (n0 := 0) (vs := [.ref 0, .ref 40000]) (c := (.inr (11, [.null, .null, .null, .null, .int 0, .int 0, .int 0, .int 0, .int 0, .int 0, .null, .int 0, .int 0, .int 0, .int 0, .int 0, .int 0, .int 0, .int 0, .int 0, .int 0, .null, .int 0, .int 0, .int 0, .int 0, .long 0]))) d0 (by omega) (by decide) (by omega) (by exact rfl)
  have d3' : WD w3 124 _ := d3
  obtain ⟨q1, e1a, a1a⟩ := nwD (n0 := 124) (vs := [.ref 123, .ref 123]) (c := (.inl (.int, 20204, .inl (fun _ => 0)))) d3' (by omega) (by decide) (by omega) trivial
  have a1 : WD q1 125 _ := a1a
  obtain ⟨p1, f1, b1⟩ := pVD (h := 123) (k := 0) (v := .ref 124) a1 (by omega) (by rw [uM_ne _ _ (by omega)]; exact uM_eq _ _ _) (by decide) (by decide)
  obtain ⟨q2, e2a, a2a⟩ := nwD (n0 := 124) (vs := [.ref 123, .ref 123]) (c := (.inl (.int, 800, .inl (fun _ => 0)))) b1 (by omega) (by decide) (by omega) trivial
  have a2 : WD q2 126 _ := a2a
  obtain ⟨p2, f2, b2⟩ := pVD (h := 123) (k := 1) (v := .ref 125) a2 (by omega) (by rw [uM_ne _ _ (by omega)]; exact uM_eq _ _ _) (by decide) (by decide)
  obtain ⟨q3, e3a, a3a⟩ := nwD (n0 := 124) (vs := [.ref 123, .ref 123]) (c := (.inl (.int, 400, .inl (fun _ => 0)))) b2 (by omega) (by decide) (by omega) trivial
  have a3 : WD q3 127 _ := a3a
  obtain ⟨p3, f3, b3⟩ := pVD (h := 123) (k := 2) (v := .ref 126) a3 (by omega) (by rw [uM_ne _ _ (by omega)]; exact uM_eq _ _ _) (by decide) (by decide)
  obtain ⟨q4, e4a, a4a⟩ := nwD (n0 := 124) (vs := [.ref 123, .ref 123]) (c := (.inl (.boolean, 3, .inl (fun _ => 0)))) b3 (by omega) (by decide) (by omega) trivial
  have a4 : WD q4 128 _ := a4a
  obtain ⟨p4, f4, b4⟩ := pVD (h := 123) (k := 3) (v := .ref 127) a4 (by omega) (by rw [uM_ne _ _ (by omega)]; exact uM_eq _ _ _) (by decide) (by decide)
  obtain ⟨p5, f5, b5⟩ := pVD (h := 123) (k := 7) (v := .int (-1 : Int32)) b4 (by omega) (uM_eq _ _ _) (by decide) (by decide)
  obtain ⟨q6, e6a, a6a⟩ := nwD (n0 := 124) (vs := [.ref 123, .ref 123]) (c := (.inl (.int, 64, .inl (fun _ => 0)))) b5 (by omega) (by decide) (by omega) trivial
  have a6 : WD q6 129 _ := a6a
  obtain ⟨p6, f6, b6⟩ := pVD (h := 123) (k := 10) (v := .ref 128) a6 (by omega) (by rw [uM_ne _ _ (by omega)]; exact uM_eq _ _ _) (by decide) (by decide)
  obtain ⟨q7, e7a, a7a⟩ := nwD (n0 := 124) (vs := [.ref 123, .ref 123]) (c := (.inl (.int, 8, .inl (fun _ => 0)))) b6 (by omega) (by decide) (by omega) trivial
  have a7 : WD q7 130 _ := a7a
  obtain ⟨p7, f7, b7⟩ := pVD (h := 123) (k := 21) (v := .ref 129) a7 (by omega) (by rw [uM_ne _ _ (by omega)]; exact uM_eq _ _ _) (by decide) (by decide)
  have ew : p7 = mW w2 Fz 0 arz := by
    apply List.ext_getElem?
    intro k
    by_cases h1 : k < 123
    · rw [mW_low d0.2.1 Fz 0 arz h1, b7.2.2 k (by omega), d0.2.2 k h1]
      simp only [updM, if_neg (show ¬ k = 123 by omega), if_neg (show ¬ k = 124 by omega), if_neg (show ¬ k = 125 by omega), if_neg (show ¬ k = 126 by omega), if_neg (show ¬ k = 127 by omega), if_neg (show ¬ k = 128 by omega), if_neg (show ¬ k = 129 by omega)]
    · by_cases h2 : k < 130
      · obtain ⟨t, ht⟩ : ∃ t, k = 123 + t := ⟨k - 123, by omega⟩
        subst ht
        rw [mW_get d0.2.1 Fz 0 arz t, b7.2.2 _ h2]
        have : t < 7 := by omega
        match t, this with
        | 0, _ => rfl
        | 1, _ => rfl
        | 2, _ => rfl
        | 3, _ => rfl
        | 4, _ => rfl
        | 5, _ => rfl
        | 6, _ => rfl
        | _ + 7, h => exact absurd h (by omega)
      · rw [List.getElem?_eq_none (by rw [b7.2.1]; omega), List.getElem?_eq_none (by unfold mW; rw [List.length_append, d0.2.1]; show 123 + 7 ≤ k; omega)]
  obtain ⟨al, c1, c2, c3⟩ := memptiesB_ok (C := w2) (F := Fz) (v := 0) (fu := fu) (b := 0) d0.2.1 (by omega) hfu arz
  refine ⟨w3, e3, fun x => clAD d3' (by omega) (uM_eq _ _ _) (by omega) (by decide) x, al, ?_, c2⟩
  rw [f_X11_init, d3'.2.1, e1a, some_bind', f1, some_bind', b1.2.1, e2a, some_bind', f2, some_bind', b2.2.1, e3a, some_bind', f3, some_bind', b3.2.1, e4a, some_bind', f4, some_bind', f5, some_bind', b5.2.1, e6a, some_bind', f6, some_bind', b6.2.1, e7a, some_bind', f7, some_bind', ew, m_cl d0.2.1]
  show (f_X11_empties fu (mW w2 Fz 0 arz) 123 (nI 0)).bind _ = _
  rw [c1, some_bind']
theorem SN0 {w : MW} (p : Nat) (h0 : w[p]? = some (.inr (6, [.ref (p + 1), .ref (p + 2), .ref (p + 3)]))) (h1 : w[p + 1]? = some (.inl (.int, 240, .inl (fun _ => 0)))) (h2 : w[p + 2]? = some (.inl (.int, 8, .inl (fun _ => 0)))) (h3 : w[p + 3]? = some (.inl (.int, 8, .inl (fun _ => 0)))) : SNq w p as0 0 := ⟨h0, _, _, _, h1, h2, h3, fun t ht => absurd ht (by omega)⟩
theorem RW0 {w : MW} (p cap : Nat) (h0 : w[p]? = some (.inr (4, [.ref (p + 1), .int 0]))) (h1 : w[p + 1]? = some (.inl (.byte, cap, .inl (fun _ => 0)))) : RW w p cap [] := ⟨h0, Nat.zero_le _, fun b hb => by simp at hb, _, h1, fun j hj => absurd hj (by simp)⟩
theorem HA0 {w : MW} (h : Nat) (h0 : w[h]? = some (.inr (0, [.ref (h + 1), .int 0, .int (-1)]))) (h1 : w[h + 1]? = some (.inl (.int, 60, .inl (fun _ => 0)))) : HA w h (h + 1) [] (-1) := ⟨by omega, h0, _, h1, fun j hj => absurd hj (by simp)⟩
theorem start_Inv {C : MW} (d : WD C 123 sG) {al : Nat → Int32} (h : M8 al 0 asE) : Inv (mW C Fz 0 (ua arz 0 al)) := by
  have c : ∀ k, k < 123 → (mW C Fz 0 (ua arz 0 al))[k]? = some (sG k) := fun k hk => (mW_low d.2.1 _ _ _ hk).trans (d.2.2 k hk)
  generalize hw : mW C Fz 0 (ua arz 0 al) = w at c
  have cs : CS w asE.1 asE.2 := by
    refine ⟨⟨-1, -1, -1, (c 1 (by omega))⟩, ⟨_, (c 2 (by omega)), fun i hi => ?_⟩, fun i hi => ?_⟩
    · match i, hi with
      | 0, _ => rfl
      | 1, _ => rfl
      | 2, _ => rfl
      | 3, _ => rfl
      | 4, _ => rfl
      | 5, _ => rfl
      | 6, _ => rfl
      | 7, _ => rfl
      | _ + 8, q => exact absurd q (by omega)
    · match i, hi with
      | 0, _ => exact HA0 13 (c 13 (by omega)) (c 14 (by omega))
      | 1, _ => exact HA0 15 (c 15 (by omega)) (c 16 (by omega))
      | 2, _ => exact HA0 17 (c 17 (by omega)) (c 18 (by omega))
      | 3, _ => exact HA0 19 (c 19 (by omega)) (c 20 (by omega))
      | 4, _ => exact HA0 21 (c 21 (by omega)) (c 22 (by omega))
      | 5, _ => exact HA0 23 (c 23 (by omega)) (c 24 (by omega))
      | 6, _ => exact HA0 25 (c 25 (by omega)) (c 26 (by omega))
      | 7, _ => exact HA0 27 (c 27 (by omega)) (c 28 (by omega))
      | _ + 8, q => exact absurd q (by omega)
  have cp : CP w 0 [] := by
    refine ⟨by omega, by simp, (c 31 (by omega)), ⟨_, (c 32 (by omega)), fun k hk => ?_⟩, fun k hk => ?_, fun t ht => absurd ht (by simp)⟩
    · match k, hk with
      | 0, _ => rfl
      | 1, _ => rfl
      | 2, _ => rfl
      | 3, _ => rfl
      | 4, _ => rfl
      | 5, _ => rfl
      | 6, _ => rfl
      | 7, _ => rfl
      | 8, _ => rfl
      | 9, _ => rfl
      | 10, _ => rfl
      | 11, _ => rfl
      | 12, _ => rfl
      | _ + 13, q => exact absurd q (by omega)
    · match k, hk with
      | 0, _ => exact SN0 33 (c 33 (by omega)) (c 34 (by omega)) (c 35 (by omega)) (c 36 (by omega))
      | 1, _ => exact SN0 37 (c 37 (by omega)) (c 38 (by omega)) (c 39 (by omega)) (c 40 (by omega))
      | 2, _ => exact SN0 41 (c 41 (by omega)) (c 42 (by omega)) (c 43 (by omega)) (c 44 (by omega))
      | 3, _ => exact SN0 45 (c 45 (by omega)) (c 46 (by omega)) (c 47 (by omega)) (c 48 (by omega))
      | 4, _ => exact SN0 49 (c 49 (by omega)) (c 50 (by omega)) (c 51 (by omega)) (c 52 (by omega))
      | 5, _ => exact SN0 53 (c 53 (by omega)) (c 54 (by omega)) (c 55 (by omega)) (c 56 (by omega))
      | 6, _ => exact SN0 57 (c 57 (by omega)) (c 58 (by omega)) (c 59 (by omega)) (c 60 (by omega))
      | 7, _ => exact SN0 61 (c 61 (by omega)) (c 62 (by omega)) (c 63 (by omega)) (c 64 (by omega))
      | 8, _ => exact SN0 65 (c 65 (by omega)) (c 66 (by omega)) (c 67 (by omega)) (c 68 (by omega))
      | 9, _ => exact SN0 69 (c 69 (by omega)) (c 70 (by omega)) (c 71 (by omega)) (c 72 (by omega))
      | 10, _ => exact SN0 73 (c 73 (by omega)) (c 74 (by omega)) (c 75 (by omega)) (c 76 (by omega))
      | 11, _ => exact SN0 77 (c 77 (by omega)) (c 78 (by omega)) (c 79 (by omega)) (c 80 (by omega))
      | 12, _ => exact SN0 81 (c 81 (by omega)) (c 82 (by omega)) (c 83 (by omega)) (c 84 (by omega))
      | _ + 13, q => exact absurd q (by omega)
  have sc : Sc w := by
    refine ⟨⟨⟨0, -1, (c 3 (by omega))⟩, fun k hk => ?_⟩, ⟨0, 0, 0, 0, 0, (c 11 (by omega))⟩, ⟨_, (c 12 (by omega))⟩, (c 29 (by omega)), ⟨_, (c 30 (by omega))⟩⟩
    match k, hk with
    | 0, _ => exact ⟨fun _ => 0, (c 4 (by omega))⟩
    | 1, _ => exact ⟨fun _ => 0, (c 5 (by omega))⟩
    | 2, _ => exact ⟨fun _ => 0, (c 6 (by omega))⟩
    | 3, _ => exact ⟨fun _ => 0, (c 7 (by omega))⟩
    | 4, _ => exact ⟨fun _ => 0, (c 8 (by omega))⟩
    | 5, _ => exact ⟨fun _ => 0, (c 9 (by omega))⟩
    | 6, _ => exact ⟨fun _ => 0, (c 10 (by omega))⟩
    | _ + 7, q => exact absurd q (by omega)
  have rc : RestC w ([], [], 0, -1, fun _ => none) := by
    refine ⟨(c 0 (by omega)), RW0 85 800 (c 85 (by omega)) (c 86 (by omega)), RW0 87 360 (c 87 (by omega)) (c 88 (by omega)), ⟨0, 0, 0, 0, 0, 0, (c 89 (by omega))⟩, ⟨_, (c 90 (by omega))⟩, SN0 91 (c 91 (by omega)) (c 92 (by omega)) (c 93 (by omega)) (c 94 (by omega)), ⟨_, (c 95 (by omega)), fun k hk => ?_⟩, fun k hk => ?_⟩
    · match k, hk with
      | 0, _ => rfl
      | 1, _ => rfl
      | 2, _ => rfl
      | _ + 3, q => exact absurd q (by omega)
    · match k, hk with
      | 0, _ => exact ⟨⟨0, -1, (c 96 (by omega))⟩, SN0 97 (c 97 (by omega)) (c 98 (by omega)) (c 99 (by omega)) (c 100 (by omega)), ⟨[], RW0 101 800 (c 101 (by omega)) (c 102 (by omega))⟩, ⟨[], RW0 103 360 (c 103 (by omega)) (c 104 (by omega))⟩⟩
      | 1, _ => exact ⟨⟨0, -1, (c 105 (by omega))⟩, SN0 106 (c 106 (by omega)) (c 107 (by omega)) (c 108 (by omega)) (c 109 (by omega)), ⟨[], RW0 110 800 (c 110 (by omega)) (c 111 (by omega))⟩, ⟨[], RW0 112 360 (c 112 (by omega)) (c 113 (by omega))⟩⟩
      | 2, _ => exact ⟨⟨0, -1, (c 114 (by omega))⟩, SN0 115 (c 115 (by omega)) (c 116 (by omega)) (c 117 (by omega)) (c 118 (by omega)), ⟨[], RW0 119 800 (c 119 (by omega)) (c 120 (by omega))⟩, ⟨[], RW0 121 360 (c 121 (by omega)) (c 122 (by omega))⟩⟩
      | _ + 3, q => exact absurd q (by omega)
  subst hw
  have m0 : M8 (ua arz 0 al 0) 0 asE := h
  refine ⟨C, Fz, 0, ua arz 0 al, asE, [], 0, ([], [], 0, -1, fun _ => none), rfl, ⟨⟨d.2.1, ⟨0, -1, (c 0 (by omega))⟩, cs, asE_ok.1, cp, m0, ⟨by simp, fun t ht => absurd ht (by simp)⟩, rfl, rfl⟩, sc, asE_ok.2, fun W hW => by simp at hW⟩, rc, ⟨rfl, rfl, rfl, rfl, fun j hj => absurd hj (by simp), fun j hj => absurd hj (by simp), fun k hk => rfl⟩⟩
