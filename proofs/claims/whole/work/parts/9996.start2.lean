/-! THE START: the class, made -/
def sG : Nat → MC
  | 0 => .inr (10, [.ref 1, .ref 31, .ref 85, .ref 87, .ref 89, .ref 91, .ref 95, .int (0 : Int32), .int (-1 : Int32)])
  | 1 => .inr (7, [.ref 2, .ref 3, .ref 11, .ref 29, .ref 12, .int (-1 : Int32), .int (-1 : Int32), .int (-1 : Int32)])
  | 2 => .inl (.object RX0, 8, .inr (.inr (.inr (.inr (va_up (va_up (va_up (va_up (va_up (va_up (va_up (va_up (fun _ => none) 0 (some 13)) 1 (some 15)) 2 (some 17)) 3 (some 19)) 4 (some 21)) 5 (some 23)) 6 (some 25)) 7 (some 27))))))
  | 3 => .inr (8, [.ref 4, .ref 5, .ref 6, .ref 7, .ref 8, .ref 9, .ref 10, .int (0 : Int32), .int (-1 : Int32)])
  | 4 => .inl (.int, 61, .inl (fun _ => 0))
  | 5 => .inl (.int, 61, .inl (fun _ => 0))
  | 6 => .inl (.int, 61, .inl (fun _ => 0))
  | 7 => .inl (.int, 61, .inl (fun _ => 0))
  | 8 => .inl (.int, 61, .inl (fun _ => 0))
  | 9 => .inl (.int, 61, .inl (fun _ => 0))
  | 10 => .inl (.int, 61, .inl (fun _ => 0))
  | 11 => .inr (9, [.int 0, .int 0, .int 0, .int 0, .int 0])
  | 12 => .inl (.int, 8, .inl (fun _ => 0))
  | 13 => .inr (0, [.ref 14, .int (0 : Int32), .int (-1 : Int32)])
  | 14 => .inl (.int, 60, .inl (fun _ => 0))
  | 15 => .inr (0, [.ref 16, .int (0 : Int32), .int (-1 : Int32)])
  | 16 => .inl (.int, 60, .inl (fun _ => 0))
  | 17 => .inr (0, [.ref 18, .int (0 : Int32), .int (-1 : Int32)])
  | 18 => .inl (.int, 60, .inl (fun _ => 0))
  | 19 => .inr (0, [.ref 20, .int (0 : Int32), .int (-1 : Int32)])
  | 20 => .inl (.int, 60, .inl (fun _ => 0))
  | 21 => .inr (0, [.ref 22, .int (0 : Int32), .int (-1 : Int32)])
  | 22 => .inl (.int, 60, .inl (fun _ => 0))
  | 23 => .inr (0, [.ref 24, .int (0 : Int32), .int (-1 : Int32)])
  | 24 => .inl (.int, 60, .inl (fun _ => 0))
  | 25 => .inr (0, [.ref 26, .int (0 : Int32), .int (-1 : Int32)])
  | 26 => .inl (.int, 60, .inl (fun _ => 0))
  | 27 => .inr (0, [.ref 28, .int (0 : Int32), .int (-1 : Int32)])
  | 28 => .inl (.int, 60, .inl (fun _ => 0))
  | 29 => .inr (2, [.ref 2, .ref 30])
  | 30 => .inl (.int, 8, .inl (fun _ => 0))
  | 31 => .inr (3, [.ref 32, .int (0 : Int32), .int (0 : Int32)])
  | 32 => .inl (.object RX6, 13, .inr (.inr (.inr (.inr (va_up (va_up (va_up (va_up (va_up (va_up (va_up (va_up (va_up (va_up (va_up (va_up (va_up (fun _ => none) 0 (some 33)) 1 (some 37)) 2 (some 41)) 3 (some 45)) 4 (some 49)) 5 (some 53)) 6 (some 57)) 7 (some 61)) 8 (some 65)) 9 (some 69)) 10 (some 73)) 11 (some 77)) 12 (some 81))))))
  | 33 => .inr (6, [.ref 34, .ref 35, .ref 36])
  | 34 => .inl (.int, 240, .inl (fun _ => 0))
  | 35 => .inl (.int, 8, .inl (fun _ => 0))
  | 36 => .inl (.int, 8, .inl (fun _ => 0))
  | 37 => .inr (6, [.ref 38, .ref 39, .ref 40])
  | 38 => .inl (.int, 240, .inl (fun _ => 0))
  | 39 => .inl (.int, 8, .inl (fun _ => 0))
  | 40 => .inl (.int, 8, .inl (fun _ => 0))
  | 41 => .inr (6, [.ref 42, .ref 43, .ref 44])
  | 42 => .inl (.int, 240, .inl (fun _ => 0))
  | 43 => .inl (.int, 8, .inl (fun _ => 0))
  | 44 => .inl (.int, 8, .inl (fun _ => 0))
  | 45 => .inr (6, [.ref 46, .ref 47, .ref 48])
  | 46 => .inl (.int, 240, .inl (fun _ => 0))
  | 47 => .inl (.int, 8, .inl (fun _ => 0))
  | 48 => .inl (.int, 8, .inl (fun _ => 0))
  | 49 => .inr (6, [.ref 50, .ref 51, .ref 52])
  | 50 => .inl (.int, 240, .inl (fun _ => 0))
  | 51 => .inl (.int, 8, .inl (fun _ => 0))
  | 52 => .inl (.int, 8, .inl (fun _ => 0))
  | 53 => .inr (6, [.ref 54, .ref 55, .ref 56])
  | 54 => .inl (.int, 240, .inl (fun _ => 0))
  | 55 => .inl (.int, 8, .inl (fun _ => 0))
  | 56 => .inl (.int, 8, .inl (fun _ => 0))
  | 57 => .inr (6, [.ref 58, .ref 59, .ref 60])
  | 58 => .inl (.int, 240, .inl (fun _ => 0))
  | 59 => .inl (.int, 8, .inl (fun _ => 0))
  | 60 => .inl (.int, 8, .inl (fun _ => 0))
  | 61 => .inr (6, [.ref 62, .ref 63, .ref 64])
  | 62 => .inl (.int, 240, .inl (fun _ => 0))
  | 63 => .inl (.int, 8, .inl (fun _ => 0))
  | 64 => .inl (.int, 8, .inl (fun _ => 0))
  | 65 => .inr (6, [.ref 66, .ref 67, .ref 68])
  | 66 => .inl (.int, 240, .inl (fun _ => 0))
  | 67 => .inl (.int, 8, .inl (fun _ => 0))
  | 68 => .inl (.int, 8, .inl (fun _ => 0))
  | 69 => .inr (6, [.ref 70, .ref 71, .ref 72])
  | 70 => .inl (.int, 240, .inl (fun _ => 0))
  | 71 => .inl (.int, 8, .inl (fun _ => 0))
  | 72 => .inl (.int, 8, .inl (fun _ => 0))
  | 73 => .inr (6, [.ref 74, .ref 75, .ref 76])
  | 74 => .inl (.int, 240, .inl (fun _ => 0))
  | 75 => .inl (.int, 8, .inl (fun _ => 0))
  | 76 => .inl (.int, 8, .inl (fun _ => 0))
  | 77 => .inr (6, [.ref 78, .ref 79, .ref 80])
  | 78 => .inl (.int, 240, .inl (fun _ => 0))
  | 79 => .inl (.int, 8, .inl (fun _ => 0))
  | 80 => .inl (.int, 8, .inl (fun _ => 0))
  | 81 => .inr (6, [.ref 82, .ref 83, .ref 84])
  | 82 => .inl (.int, 240, .inl (fun _ => 0))
  | 83 => .inl (.int, 8, .inl (fun _ => 0))
  | 84 => .inl (.int, 8, .inl (fun _ => 0))
  | 85 => .inr (4, [.ref 86, .int (0 : Int32)])
  | 86 => .inl (.byte, 800, .inl (fun _ => 0))
  | 87 => .inr (4, [.ref 88, .int (0 : Int32)])
  | 88 => .inl (.byte, 360, .inl (fun _ => 0))
  | 89 => .inr (5, [.ref 85, .ref 1, .ref 90, .int 0, .int 0, .int 0, .int 0, .int 0, .int 0])
  | 90 => .inl (.int, 4, .inl (fun _ => 0))
  | 91 => .inr (6, [.ref 92, .ref 93, .ref 94])
  | 92 => .inl (.int, 240, .inl (fun _ => 0))
  | 93 => .inl (.int, 8, .inl (fun _ => 0))
  | 94 => .inl (.int, 8, .inl (fun _ => 0))
  | 95 => .inl (.object RX1, 3, .inr (.inr (.inr (.inr (va_up (va_up (va_up (fun _ => none) 0 (some 96)) 1 (some 105)) 2 (some 114))))))
  | 96 => .inr (1, [.ref 97, .ref 101, .ref 103, .int (0 : Int32), .int (0 : Int32), .int (-1 : Int32)])
  | 97 => .inr (6, [.ref 98, .ref 99, .ref 100])
  | 98 => .inl (.int, 240, .inl (fun _ => 0))
  | 99 => .inl (.int, 8, .inl (fun _ => 0))
  | 100 => .inl (.int, 8, .inl (fun _ => 0))
  | 101 => .inr (4, [.ref 102, .int (0 : Int32)])
  | 102 => .inl (.byte, 800, .inl (fun _ => 0))
  | 103 => .inr (4, [.ref 104, .int (0 : Int32)])
  | 104 => .inl (.byte, 360, .inl (fun _ => 0))
  | 105 => .inr (1, [.ref 106, .ref 110, .ref 112, .int (0 : Int32), .int (0 : Int32), .int (-1 : Int32)])
  | 106 => .inr (6, [.ref 107, .ref 108, .ref 109])
  | 107 => .inl (.int, 240, .inl (fun _ => 0))
  | 108 => .inl (.int, 8, .inl (fun _ => 0))
  | 109 => .inl (.int, 8, .inl (fun _ => 0))
  | 110 => .inr (4, [.ref 111, .int (0 : Int32)])
  | 111 => .inl (.byte, 800, .inl (fun _ => 0))
  | 112 => .inr (4, [.ref 113, .int (0 : Int32)])
  | 113 => .inl (.byte, 360, .inl (fun _ => 0))
  | 114 => .inr (1, [.ref 115, .ref 119, .ref 121, .int (0 : Int32), .int (0 : Int32), .int (-1 : Int32)])
  | 115 => .inr (6, [.ref 116, .ref 117, .ref 118])
  | 116 => .inl (.int, 240, .inl (fun _ => 0))
  | 117 => .inl (.int, 8, .inl (fun _ => 0))
  | 118 => .inl (.int, 8, .inl (fun _ => 0))
  | 119 => .inr (4, [.ref 120, .int (0 : Int32)])
  | 120 => .inl (.byte, 800, .inl (fun _ => 0))
  | 121 => .inr (4, [.ref 122, .int (0 : Int32)])
  | 122 => .inl (.byte, 360, .inl (fun _ => 0))
  | _ => .inr (0, [])
theorem start_C : ∃ w1 w2, nwC 0 ([] : MW) [.ref 40000] (.inr (10, [.null, .null, .null, .null, .null, .null, .null, .int 0, .int 0])) = some w1 ∧ (∀ x : Option MW, clA 0 w1 10 0 [.ref 40000, .ref 0] x = x) ∧ f_X10_init w1 0 = some w2 ∧ WD w2 123 sG := by
  have d00 : WD [] 0 (fun _ => .inr (0, [])) := ⟨⟨by decide, fun c hc => by simp at hc⟩, rfl, fun k hk => by omega⟩
  obtain ⟨w0a, e0a, d0a⟩ := nwD (n0 := 0) (vs := [.ref 40000]) (c := (.inr (10, [.null, .null, .null, .null, .null, .null, .null, .int 0, .int 0]))) d00 (by omega) (by decide) (by omega) (by exact rfl)
  have d0 : WD w0a 1 _ := d0a
  obtain ⟨w1, e3, d4⟩ := nwD (n0 := 1) (vs := [.ref 0, .ref 0]) (c := (.inr (7, [.null, .null, .null, .null, .null, .int 0, .int 0, .int 0]))) d0 (by omega) (by decide) (by omega) (by exact rfl)
  have d2 : WD w1 2 _ := d4
  obtain ⟨w5, e7, d8⟩ := nwD (n0 := 2) (vs := [.ref 1, .ref 1]) (c := (.inl (.object RX0, 8, .inr (.inr (.inr (.inr (fun _ => none))))))) d2 (by omega) (by decide) (by omega) (fun j k e => by cases e)
  have d6 : WD w5 3 _ := d8
  obtain ⟨w9, e11, d10⟩ := pVD (h := 1) (k := 0) (v := (.ref 2)) d6 (by omega) rfl (by decide) (by decide)
  obtain ⟨w12, e14, d15⟩ := nwD (n0 := 2) (vs := [.ref 1, .ref 1]) (c := (.inr (8, [.null, .null, .null, .null, .null, .null, .null, .int 0, .int 0]))) d10 (by omega) (by decide) (by omega) (by exact rfl)
  have d13 : WD w12 4 _ := d15
  obtain ⟨w16, e18, d19⟩ := nwD (n0 := 4) (vs := [.ref 3, .ref 3]) (c := (.inl (.int, 61, .inl (fun _ => 0)))) d13 (by omega) (by decide) (by omega) trivial
  have d17 : WD w16 5 _ := d19
  obtain ⟨w20, e22, d21⟩ := pVD (h := 3) (k := 0) (v := (.ref 4)) d17 (by omega) rfl (by decide) (by decide)
  obtain ⟨w23, e25, d26⟩ := nwD (n0 := 4) (vs := [.ref 3, .ref 3]) (c := (.inl (.int, 61, .inl (fun _ => 0)))) d21 (by omega) (by decide) (by omega) trivial
  have d24 : WD w23 6 _ := d26
  obtain ⟨w27, e29, d28⟩ := pVD (h := 3) (k := 1) (v := (.ref 5)) d24 (by omega) rfl (by decide) (by decide)
  obtain ⟨w30, e32, d33⟩ := nwD (n0 := 4) (vs := [.ref 3, .ref 3]) (c := (.inl (.int, 61, .inl (fun _ => 0)))) d28 (by omega) (by decide) (by omega) trivial
  have d31 : WD w30 7 _ := d33
  obtain ⟨w34, e36, d35⟩ := pVD (h := 3) (k := 2) (v := (.ref 6)) d31 (by omega) rfl (by decide) (by decide)
  obtain ⟨w37, e39, d40⟩ := nwD (n0 := 4) (vs := [.ref 3, .ref 3]) (c := (.inl (.int, 61, .inl (fun _ => 0)))) d35 (by omega) (by decide) (by omega) trivial
  have d38 : WD w37 8 _ := d40
  obtain ⟨w41, e43, d42⟩ := pVD (h := 3) (k := 3) (v := (.ref 7)) d38 (by omega) rfl (by decide) (by decide)
  obtain ⟨w44, e46, d47⟩ := nwD (n0 := 4) (vs := [.ref 3, .ref 3]) (c := (.inl (.int, 61, .inl (fun _ => 0)))) d42 (by omega) (by decide) (by omega) trivial
  have d45 : WD w44 9 _ := d47
  obtain ⟨w48, e50, d49⟩ := pVD (h := 3) (k := 4) (v := (.ref 8)) d45 (by omega) rfl (by decide) (by decide)
  obtain ⟨w51, e53, d54⟩ := nwD (n0 := 4) (vs := [.ref 3, .ref 3]) (c := (.inl (.int, 61, .inl (fun _ => 0)))) d49 (by omega) (by decide) (by omega) trivial
  have d52 : WD w51 10 _ := d54
  obtain ⟨w55, e57, d56⟩ := pVD (h := 3) (k := 5) (v := (.ref 9)) d52 (by omega) rfl (by decide) (by decide)
  obtain ⟨w58, e60, d61⟩ := nwD (n0 := 4) (vs := [.ref 3, .ref 3]) (c := (.inl (.int, 61, .inl (fun _ => 0)))) d56 (by omega) (by decide) (by omega) trivial
  have d59 : WD w58 11 _ := d61
  obtain ⟨w62, e64, d63⟩ := pVD (h := 3) (k := 6) (v := (.ref 10)) d59 (by omega) rfl (by decide) (by decide)
  obtain ⟨w65, e67, d66⟩ := pVD (h := 3) (k := 7) (v := (.int (0 : Int32))) d63 (by omega) rfl (by decide) (by decide)
  obtain ⟨w68, e70, d69⟩ := pVD (h := 3) (k := 8) (v := (.int (-1 : Int32))) d66 (by omega) rfl (by decide) (by decide)
  have e71 : f_X8_init w12 3 = some w68 := by rw [f_X8_init, d13.2.1, e18, some_bind', e22, some_bind', d21.2.1, e25, some_bind', e29, some_bind', d28.2.1, e32, some_bind', e36, some_bind', d35.2.1, e39, some_bind', e43, some_bind', d42.2.1, e46, some_bind', e50, some_bind', d49.2.1, e53, some_bind', e57, some_bind', d56.2.1, e60, some_bind', e64, some_bind', e67, some_bind', e70, some_bind']
  have e72 : ∀ x : Option MW, clA 2 w12 8 3 [.ref 1, .ref 3, .ref 1] x = x := fun x => clAD d13 (by omega) rfl (by omega) (by decide) x
  obtain ⟨w73, e75, d74⟩ := pVD (h := 1) (k := 1) (v := (.ref 3)) d69 (by omega) rfl (by decide) (by decide)
  obtain ⟨w76, e78, d79⟩ := nwD (n0 := 2) (vs := [.ref 1, .ref 1]) (c := (.inr (9, [.int 0, .int 0, .int 0, .int 0, .int 0]))) d74 (by omega) (by decide) (by omega) (by exact rfl)
  have d77 : WD w76 12 _ := d79
  have e80 : f_X9_init w76 11 = some w76 := by rw [f_X9_init]
  have e81 : ∀ x : Option MW, cl w76 9 11 x = x := fun x => clD d77 (by omega) rfl x
  obtain ⟨w82, e84, d83⟩ := pVD (h := 1) (k := 2) (v := (.ref 11)) d77 (by omega) rfl (by decide) (by decide)
  obtain ⟨w85, e87, d88⟩ := nwD (n0 := 2) (vs := [.ref 1, .ref 1]) (c := (.inl (.int, 8, .inl (fun _ => 0)))) d83 (by omega) (by decide) (by omega) trivial
  have d86 : WD w85 13 _ := d88
  obtain ⟨w89, e91, d90⟩ := pVD (h := 1) (k := 4) (v := (.ref 12)) d86 (by omega) rfl (by decide) (by decide)
  obtain ⟨w92, e94, d93⟩ := pVD (h := 1) (k := 5) (v := (.int (-1 : Int32))) d90 (by omega) rfl (by decide) (by decide)
  obtain ⟨w95, e97, d96⟩ := pVD (h := 1) (k := 6) (v := (.int (-1 : Int32))) d93 (by omega) rfl (by decide) (by decide)
  obtain ⟨w98, e100, d99⟩ := pVD (h := 1) (k := 7) (v := (.int (-1 : Int32))) d96 (by omega) rfl (by decide) (by decide)
  have e101 : gR w98 7 1 0 = some 2 := gRD d99 (by omega) rfl rfl
  obtain ⟨w102, e104, d105⟩ := nwD (n0 := 2) (vs := [.int (0 : Int32), .ref 1, .int (0 : Int32), .ref 2]) (c := (.inr (0, [.null, .int 0, .int 0]))) d99 (by omega) (by decide) (by omega) (by exact rfl)
  have d103 : WD w102 14 _ := d105
  obtain ⟨w106, e108, d109⟩ := nwD (n0 := 14) (vs := [.ref 13, .ref 13]) (c := (.inl (.int, 60, .inl (fun _ => 0)))) d103 (by omega) (by decide) (by omega) trivial
  have d107 : WD w106 15 _ := d109
  obtain ⟨w110, e112, d111⟩ := pVD (h := 13) (k := 0) (v := (.ref 14)) d107 (by omega) rfl (by decide) (by decide)
  obtain ⟨w113, e115, d114⟩ := pVD (h := 13) (k := 1) (v := (.int (0 : Int32))) d111 (by omega) rfl (by decide) (by decide)
  obtain ⟨w116, e118, d117⟩ := pVD (h := 13) (k := 2) (v := (.int (-1 : Int32))) d114 (by omega) rfl (by decide) (by decide)
  have e119 : f_X0_init w102 13 = some w116 := by rw [f_X0_init, d103.2.1, e108, some_bind', e112, some_bind', e115, some_bind', e118, some_bind']
  have e120 : ∀ x : Option MW, clA 2 w102 0 13 [.int (0 : Int32), .ref 1, .ref 13, .int (0 : Int32), .ref 2] x = x := fun x => clAD d103 (by omega) rfl (by omega) (by decide) x
  obtain ⟨w121, e123, d122⟩ := sRD (S := RX0) (ci := 0) (a := 2) (i := 0) (x := 13) d117 (by omega) (by omega) rfl rfl (by omega) (by omega)
  have e124 : sR w116 RX0 0 2 (0 : Int32) 13 = some w121 := e123
  have e125 : gR w121 7 1 0 = some 2 := gRD d122 (by omega) rfl rfl
  obtain ⟨w126, e128, d129⟩ := nwD (n0 := 2) (vs := [.int (1 : Int32), .ref 1, .int (1 : Int32), .ref 2]) (c := (.inr (0, [.null, .int 0, .int 0]))) d122 (by omega) (by decide) (by omega) (by exact rfl)
  have d127 : WD w126 16 _ := d129
  obtain ⟨w130, e132, d133⟩ := nwD (n0 := 16) (vs := [.ref 15, .ref 15]) (c := (.inl (.int, 60, .inl (fun _ => 0)))) d127 (by omega) (by decide) (by omega) trivial
  have d131 : WD w130 17 _ := d133
  obtain ⟨w134, e136, d135⟩ := pVD (h := 15) (k := 0) (v := (.ref 16)) d131 (by omega) rfl (by decide) (by decide)
  obtain ⟨w137, e139, d138⟩ := pVD (h := 15) (k := 1) (v := (.int (0 : Int32))) d135 (by omega) rfl (by decide) (by decide)
  obtain ⟨w140, e142, d141⟩ := pVD (h := 15) (k := 2) (v := (.int (-1 : Int32))) d138 (by omega) rfl (by decide) (by decide)
  have e143 : f_X0_init w126 15 = some w140 := by rw [f_X0_init, d127.2.1, e132, some_bind', e136, some_bind', e139, some_bind', e142, some_bind']
  have e144 : ∀ x : Option MW, clA 2 w126 0 15 [.int (1 : Int32), .ref 1, .ref 15, .int (1 : Int32), .ref 2] x = x := fun x => clAD d127 (by omega) rfl (by omega) (by decide) x
  obtain ⟨w145, e147, d146⟩ := sRD (S := RX0) (ci := 0) (a := 2) (i := 1) (x := 15) d141 (by omega) (by omega) rfl rfl (by omega) (by omega)
  have e148 : sR w140 RX0 0 2 (1 : Int32) 15 = some w145 := e147
  have e149 : gR w145 7 1 0 = some 2 := gRD d146 (by omega) rfl rfl
  obtain ⟨w150, e152, d153⟩ := nwD (n0 := 2) (vs := [.int (2 : Int32), .ref 1, .int (2 : Int32), .ref 2]) (c := (.inr (0, [.null, .int 0, .int 0]))) d146 (by omega) (by decide) (by omega) (by exact rfl)
  have d151 : WD w150 18 _ := d153
  obtain ⟨w154, e156, d157⟩ := nwD (n0 := 18) (vs := [.ref 17, .ref 17]) (c := (.inl (.int, 60, .inl (fun _ => 0)))) d151 (by omega) (by decide) (by omega) trivial
  have d155 : WD w154 19 _ := d157
  obtain ⟨w158, e160, d159⟩ := pVD (h := 17) (k := 0) (v := (.ref 18)) d155 (by omega) rfl (by decide) (by decide)
  obtain ⟨w161, e163, d162⟩ := pVD (h := 17) (k := 1) (v := (.int (0 : Int32))) d159 (by omega) rfl (by decide) (by decide)
  obtain ⟨w164, e166, d165⟩ := pVD (h := 17) (k := 2) (v := (.int (-1 : Int32))) d162 (by omega) rfl (by decide) (by decide)
  have e167 : f_X0_init w150 17 = some w164 := by rw [f_X0_init, d151.2.1, e156, some_bind', e160, some_bind', e163, some_bind', e166, some_bind']
  have e168 : ∀ x : Option MW, clA 2 w150 0 17 [.int (2 : Int32), .ref 1, .ref 17, .int (2 : Int32), .ref 2] x = x := fun x => clAD d151 (by omega) rfl (by omega) (by decide) x
  obtain ⟨w169, e171, d170⟩ := sRD (S := RX0) (ci := 0) (a := 2) (i := 2) (x := 17) d165 (by omega) (by omega) rfl rfl (by omega) (by omega)
  have e172 : sR w164 RX0 0 2 (2 : Int32) 17 = some w169 := e171
  have e173 : gR w169 7 1 0 = some 2 := gRD d170 (by omega) rfl rfl
  obtain ⟨w174, e176, d177⟩ := nwD (n0 := 2) (vs := [.int (3 : Int32), .ref 1, .int (3 : Int32), .ref 2]) (c := (.inr (0, [.null, .int 0, .int 0]))) d170 (by omega) (by decide) (by omega) (by exact rfl)
  have d175 : WD w174 20 _ := d177
  obtain ⟨w178, e180, d181⟩ := nwD (n0 := 20) (vs := [.ref 19, .ref 19]) (c := (.inl (.int, 60, .inl (fun _ => 0)))) d175 (by omega) (by decide) (by omega) trivial
  have d179 : WD w178 21 _ := d181
  obtain ⟨w182, e184, d183⟩ := pVD (h := 19) (k := 0) (v := (.ref 20)) d179 (by omega) rfl (by decide) (by decide)
  obtain ⟨w185, e187, d186⟩ := pVD (h := 19) (k := 1) (v := (.int (0 : Int32))) d183 (by omega) rfl (by decide) (by decide)
  obtain ⟨w188, e190, d189⟩ := pVD (h := 19) (k := 2) (v := (.int (-1 : Int32))) d186 (by omega) rfl (by decide) (by decide)
  have e191 : f_X0_init w174 19 = some w188 := by rw [f_X0_init, d175.2.1, e180, some_bind', e184, some_bind', e187, some_bind', e190, some_bind']
  have e192 : ∀ x : Option MW, clA 2 w174 0 19 [.int (3 : Int32), .ref 1, .ref 19, .int (3 : Int32), .ref 2] x = x := fun x => clAD d175 (by omega) rfl (by omega) (by decide) x
  obtain ⟨w193, e195, d194⟩ := sRD (S := RX0) (ci := 0) (a := 2) (i := 3) (x := 19) d189 (by omega) (by omega) rfl rfl (by omega) (by omega)
  have e196 : sR w188 RX0 0 2 (3 : Int32) 19 = some w193 := e195
  have e197 : gR w193 7 1 0 = some 2 := gRD d194 (by omega) rfl rfl
  obtain ⟨w198, e200, d201⟩ := nwD (n0 := 2) (vs := [.int (4 : Int32), .ref 1, .int (4 : Int32), .ref 2]) (c := (.inr (0, [.null, .int 0, .int 0]))) d194 (by omega) (by decide) (by omega) (by exact rfl)
  have d199 : WD w198 22 _ := d201
  obtain ⟨w202, e204, d205⟩ := nwD (n0 := 22) (vs := [.ref 21, .ref 21]) (c := (.inl (.int, 60, .inl (fun _ => 0)))) d199 (by omega) (by decide) (by omega) trivial
  have d203 : WD w202 23 _ := d205
  obtain ⟨w206, e208, d207⟩ := pVD (h := 21) (k := 0) (v := (.ref 22)) d203 (by omega) rfl (by decide) (by decide)
  obtain ⟨w209, e211, d210⟩ := pVD (h := 21) (k := 1) (v := (.int (0 : Int32))) d207 (by omega) rfl (by decide) (by decide)
  obtain ⟨w212, e214, d213⟩ := pVD (h := 21) (k := 2) (v := (.int (-1 : Int32))) d210 (by omega) rfl (by decide) (by decide)
  have e215 : f_X0_init w198 21 = some w212 := by rw [f_X0_init, d199.2.1, e204, some_bind', e208, some_bind', e211, some_bind', e214, some_bind']
  have e216 : ∀ x : Option MW, clA 2 w198 0 21 [.int (4 : Int32), .ref 1, .ref 21, .int (4 : Int32), .ref 2] x = x := fun x => clAD d199 (by omega) rfl (by omega) (by decide) x
  obtain ⟨w217, e219, d218⟩ := sRD (S := RX0) (ci := 0) (a := 2) (i := 4) (x := 21) d213 (by omega) (by omega) rfl rfl (by omega) (by omega)
  have e220 : sR w212 RX0 0 2 (4 : Int32) 21 = some w217 := e219
  have e221 : gR w217 7 1 0 = some 2 := gRD d218 (by omega) rfl rfl
  obtain ⟨w222, e224, d225⟩ := nwD (n0 := 2) (vs := [.int (5 : Int32), .ref 1, .int (5 : Int32), .ref 2]) (c := (.inr (0, [.null, .int 0, .int 0]))) d218 (by omega) (by decide) (by omega) (by exact rfl)
  have d223 : WD w222 24 _ := d225
  obtain ⟨w226, e228, d229⟩ := nwD (n0 := 24) (vs := [.ref 23, .ref 23]) (c := (.inl (.int, 60, .inl (fun _ => 0)))) d223 (by omega) (by decide) (by omega) trivial
  have d227 : WD w226 25 _ := d229
  obtain ⟨w230, e232, d231⟩ := pVD (h := 23) (k := 0) (v := (.ref 24)) d227 (by omega) rfl (by decide) (by decide)
  obtain ⟨w233, e235, d234⟩ := pVD (h := 23) (k := 1) (v := (.int (0 : Int32))) d231 (by omega) rfl (by decide) (by decide)
  obtain ⟨w236, e238, d237⟩ := pVD (h := 23) (k := 2) (v := (.int (-1 : Int32))) d234 (by omega) rfl (by decide) (by decide)
  have e239 : f_X0_init w222 23 = some w236 := by rw [f_X0_init, d223.2.1, e228, some_bind', e232, some_bind', e235, some_bind', e238, some_bind']
  have e240 : ∀ x : Option MW, clA 2 w222 0 23 [.int (5 : Int32), .ref 1, .ref 23, .int (5 : Int32), .ref 2] x = x := fun x => clAD d223 (by omega) rfl (by omega) (by decide) x
  obtain ⟨w241, e243, d242⟩ := sRD (S := RX0) (ci := 0) (a := 2) (i := 5) (x := 23) d237 (by omega) (by omega) rfl rfl (by omega) (by omega)
  have e244 : sR w236 RX0 0 2 (5 : Int32) 23 = some w241 := e243
  have e245 : gR w241 7 1 0 = some 2 := gRD d242 (by omega) rfl rfl
  obtain ⟨w246, e248, d249⟩ := nwD (n0 := 2) (vs := [.int (6 : Int32), .ref 1, .int (6 : Int32), .ref 2]) (c := (.inr (0, [.null, .int 0, .int 0]))) d242 (by omega) (by decide) (by omega) (by exact rfl)
  have d247 : WD w246 26 _ := d249
  obtain ⟨w250, e252, d253⟩ := nwD (n0 := 26) (vs := [.ref 25, .ref 25]) (c := (.inl (.int, 60, .inl (fun _ => 0)))) d247 (by omega) (by decide) (by omega) trivial
  have d251 : WD w250 27 _ := d253
  obtain ⟨w254, e256, d255⟩ := pVD (h := 25) (k := 0) (v := (.ref 26)) d251 (by omega) rfl (by decide) (by decide)
  obtain ⟨w257, e259, d258⟩ := pVD (h := 25) (k := 1) (v := (.int (0 : Int32))) d255 (by omega) rfl (by decide) (by decide)
  obtain ⟨w260, e262, d261⟩ := pVD (h := 25) (k := 2) (v := (.int (-1 : Int32))) d258 (by omega) rfl (by decide) (by decide)
  have e263 : f_X0_init w246 25 = some w260 := by rw [f_X0_init, d247.2.1, e252, some_bind', e256, some_bind', e259, some_bind', e262, some_bind']
  have e264 : ∀ x : Option MW, clA 2 w246 0 25 [.int (6 : Int32), .ref 1, .ref 25, .int (6 : Int32), .ref 2] x = x := fun x => clAD d247 (by omega) rfl (by omega) (by decide) x
  obtain ⟨w265, e267, d266⟩ := sRD (S := RX0) (ci := 0) (a := 2) (i := 6) (x := 25) d261 (by omega) (by omega) rfl rfl (by omega) (by omega)
  have e268 : sR w260 RX0 0 2 (6 : Int32) 25 = some w265 := e267
  have e269 : gR w265 7 1 0 = some 2 := gRD d266 (by omega) rfl rfl
  obtain ⟨w270, e272, d273⟩ := nwD (n0 := 2) (vs := [.int (7 : Int32), .ref 1, .int (7 : Int32), .ref 2]) (c := (.inr (0, [.null, .int 0, .int 0]))) d266 (by omega) (by decide) (by omega) (by exact rfl)
  have d271 : WD w270 28 _ := d273
  obtain ⟨w274, e276, d277⟩ := nwD (n0 := 28) (vs := [.ref 27, .ref 27]) (c := (.inl (.int, 60, .inl (fun _ => 0)))) d271 (by omega) (by decide) (by omega) trivial
  have d275 : WD w274 29 _ := d277
  obtain ⟨w278, e280, d279⟩ := pVD (h := 27) (k := 0) (v := (.ref 28)) d275 (by omega) rfl (by decide) (by decide)
  obtain ⟨w281, e283, d282⟩ := pVD (h := 27) (k := 1) (v := (.int (0 : Int32))) d279 (by omega) rfl (by decide) (by decide)
  obtain ⟨w284, e286, d285⟩ := pVD (h := 27) (k := 2) (v := (.int (-1 : Int32))) d282 (by omega) rfl (by decide) (by decide)
  have e287 : f_X0_init w270 27 = some w284 := by rw [f_X0_init, d271.2.1, e276, some_bind', e280, some_bind', e283, some_bind', e286, some_bind']
  have e288 : ∀ x : Option MW, clA 2 w270 0 27 [.int (7 : Int32), .ref 1, .ref 27, .int (7 : Int32), .ref 2] x = x := fun x => clAD d271 (by omega) rfl (by omega) (by decide) x
  obtain ⟨w289, e291, d290⟩ := sRD (S := RX0) (ci := 0) (a := 2) (i := 7) (x := 27) d285 (by omega) (by omega) rfl rfl (by omega) (by omega)
  have e292 : sR w284 RX0 0 2 (7 : Int32) 27 = some w289 := e291
  obtain ⟨w293, e295, d296⟩ := nwD (n0 := 2) (vs := [.int (8 : Int32), .ref 1, .ref 1]) (c := (.inr (2, [.null, .null]))) d290 (by omega) (by decide) (by omega) (by exact rfl)
  have d294 : WD w293 30 _ := d296
  have e297 : gR w293 7 1 0 = some 2 := gRD d294 (by omega) rfl rfl
  obtain ⟨w298, e300, d301⟩ := nwD (n0 := 30) (vs := [.ref 29, .ref 2, .ref 29]) (c := (.inl (.int, 8, .inl (fun _ => 0)))) d294 (by omega) (by decide) (by omega) trivial
  have d299 : WD w298 31 _ := d301
  obtain ⟨w302, e304, d303⟩ := pVD (h := 29) (k := 1) (v := (.ref 30)) d299 (by omega) rfl (by decide) (by decide)
  obtain ⟨w305, e307, d306⟩ := pVD (h := 29) (k := 0) (v := (.ref 2)) d303 (by omega) rfl (by decide) (by decide)
  have e308 : f_X2_init w293 29 2 = some w305 := by rw [f_X2_init, d294.2.1, e300, some_bind', e304, some_bind', e307, some_bind']
  have e309 : ∀ x : Option MW, clA 2 w293 2 29 [.int (8 : Int32), .ref 1, .ref 29, .ref 1] x = x := fun x => clAD d294 (by omega) rfl (by omega) (by decide) x
  obtain ⟨w310, e312, d311⟩ := pVD (h := 1) (k := 3) (v := (.ref 29)) d306 (by omega) rfl (by decide) (by decide)
  have e313 : f_X7_init w1 1 = some w310 := by rw [f_X7_init, d2.2.1, e7, some_bind', e11, some_bind', d10.2.1, e14, some_bind', e72, e71, some_bind', e75, some_bind', d74.2.1, e78, some_bind', e81, e80, some_bind', e84, some_bind', d83.2.1, e87, some_bind', e91, some_bind', e94, some_bind', e97, some_bind', e100, some_bind', d99.2.1, e101, some_bind', e104, some_bind', e120, e119, some_bind', e124, some_bind', d122.2.1, e125, some_bind', e128, some_bind', e144, e143, some_bind', e148, some_bind', d146.2.1, e149, some_bind', e152, some_bind', e168, e167, some_bind', e172, some_bind', d170.2.1, e173, some_bind', e176, some_bind', e192, e191, some_bind', e196, some_bind', d194.2.1, e197, some_bind', e200, some_bind', e216, e215, some_bind', e220, some_bind', d218.2.1, e221, some_bind', e224, some_bind', e240, e239, some_bind', e244, some_bind', d242.2.1, e245, some_bind', e248, some_bind', e264, e263, some_bind', e268, some_bind', d266.2.1, e269, some_bind', e272, some_bind', e288, e287, some_bind', e292, some_bind', d290.2.1, e295, some_bind', e297, some_bind', e309, e308, some_bind', e312, some_bind']
  have e314 : ∀ x : Option MW, clA 1 w1 7 1 [.ref 0, .ref 1, .ref 0] x = x := fun x => clAD d2 (by omega) rfl (by omega) (by decide) x
  obtain ⟨w315, e317, d316⟩ := pVD (h := 0) (k := 0) (v := (.ref 1)) d311 (by omega) rfl (by decide) (by decide)
  obtain ⟨w318, e320, d321⟩ := nwD (n0 := 1) (vs := [.ref 0, .ref 0]) (c := (.inr (3, [.null, .int 0, .int 0]))) d316 (by omega) (by decide) (by omega) (by exact rfl)
  have d319 : WD w318 32 _ := d321
  obtain ⟨w322, e324, d325⟩ := nwD (n0 := 32) (vs := [.ref 31, .ref 31]) (c := (.inl (.object RX6, 13, .inr (.inr (.inr (.inr (fun _ => none))))))) d319 (by omega) (by decide) (by omega) (fun j k e => by cases e)
  have d323 : WD w322 33 _ := d325
  obtain ⟨w326, e328, d327⟩ := pVD (h := 31) (k := 0) (v := (.ref 32)) d323 (by omega) rfl (by decide) (by decide)
  obtain ⟨w329, e331, d330⟩ := pVD (h := 31) (k := 1) (v := (.int (0 : Int32))) d327 (by omega) rfl (by decide) (by decide)
  obtain ⟨w332, e334, d333⟩ := pVD (h := 31) (k := 2) (v := (.int (0 : Int32))) d330 (by omega) rfl (by decide) (by decide)
  have e335 : gR w332 3 31 0 = some 32 := gRD d333 (by omega) rfl rfl
  obtain ⟨w336, e338, d339⟩ := nwD (n0 := 32) (vs := [.int (0 : Int32), .ref 31, .int (0 : Int32), .ref 32]) (c := (.inr (6, [.null, .null, .null]))) d333 (by omega) (by decide) (by omega) (by exact rfl)
  have d337 : WD w336 34 _ := d339
  obtain ⟨w340, e342, d343⟩ := nwD (n0 := 34) (vs := [.ref 33, .ref 33]) (c := (.inl (.int, 240, .inl (fun _ => 0)))) d337 (by omega) (by decide) (by omega) trivial
  have d341 : WD w340 35 _ := d343
  obtain ⟨w344, e346, d345⟩ := pVD (h := 33) (k := 0) (v := (.ref 34)) d341 (by omega) rfl (by decide) (by decide)
  obtain ⟨w347, e349, d350⟩ := nwD (n0 := 34) (vs := [.ref 33, .ref 33]) (c := (.inl (.int, 8, .inl (fun _ => 0)))) d345 (by omega) (by decide) (by omega) trivial
  have d348 : WD w347 36 _ := d350
  obtain ⟨w351, e353, d352⟩ := pVD (h := 33) (k := 1) (v := (.ref 35)) d348 (by omega) rfl (by decide) (by decide)
  obtain ⟨w354, e356, d357⟩ := nwD (n0 := 34) (vs := [.ref 33, .ref 33]) (c := (.inl (.int, 8, .inl (fun _ => 0)))) d352 (by omega) (by decide) (by omega) trivial
  have d355 : WD w354 37 _ := d357
  obtain ⟨w358, e360, d359⟩ := pVD (h := 33) (k := 2) (v := (.ref 36)) d355 (by omega) rfl (by decide) (by decide)
  have e361 : f_X6_init w336 33 = some w358 := by rw [f_X6_init, d337.2.1, e342, some_bind', e346, some_bind', d345.2.1, e349, some_bind', e353, some_bind', d352.2.1, e356, some_bind', e360, some_bind']
  have e362 : ∀ x : Option MW, clA 32 w336 6 33 [.int (0 : Int32), .ref 31, .ref 33, .int (0 : Int32), .ref 32] x = x := fun x => clAD d337 (by omega) rfl (by omega) (by decide) x
  obtain ⟨w363, e365, d364⟩ := sRD (S := RX6) (ci := 6) (a := 32) (i := 0) (x := 33) d359 (by omega) (by omega) rfl rfl (by omega) (by omega)
  have e366 : sR w358 RX6 6 32 (0 : Int32) 33 = some w363 := e365
  have e367 : gR w363 3 31 0 = some 32 := gRD d364 (by omega) rfl rfl
  obtain ⟨w368, e370, d371⟩ := nwD (n0 := 32) (vs := [.int (1 : Int32), .ref 31, .int (1 : Int32), .ref 32]) (c := (.inr (6, [.null, .null, .null]))) d364 (by omega) (by decide) (by omega) (by exact rfl)
  have d369 : WD w368 38 _ := d371
  obtain ⟨w372, e374, d375⟩ := nwD (n0 := 38) (vs := [.ref 37, .ref 37]) (c := (.inl (.int, 240, .inl (fun _ => 0)))) d369 (by omega) (by decide) (by omega) trivial
  have d373 : WD w372 39 _ := d375
  obtain ⟨w376, e378, d377⟩ := pVD (h := 37) (k := 0) (v := (.ref 38)) d373 (by omega) rfl (by decide) (by decide)
  obtain ⟨w379, e381, d382⟩ := nwD (n0 := 38) (vs := [.ref 37, .ref 37]) (c := (.inl (.int, 8, .inl (fun _ => 0)))) d377 (by omega) (by decide) (by omega) trivial
  have d380 : WD w379 40 _ := d382
  obtain ⟨w383, e385, d384⟩ := pVD (h := 37) (k := 1) (v := (.ref 39)) d380 (by omega) rfl (by decide) (by decide)
  obtain ⟨w386, e388, d389⟩ := nwD (n0 := 38) (vs := [.ref 37, .ref 37]) (c := (.inl (.int, 8, .inl (fun _ => 0)))) d384 (by omega) (by decide) (by omega) trivial
  have d387 : WD w386 41 _ := d389
  obtain ⟨w390, e392, d391⟩ := pVD (h := 37) (k := 2) (v := (.ref 40)) d387 (by omega) rfl (by decide) (by decide)
  have e393 : f_X6_init w368 37 = some w390 := by rw [f_X6_init, d369.2.1, e374, some_bind', e378, some_bind', d377.2.1, e381, some_bind', e385, some_bind', d384.2.1, e388, some_bind', e392, some_bind']
  have e394 : ∀ x : Option MW, clA 32 w368 6 37 [.int (1 : Int32), .ref 31, .ref 37, .int (1 : Int32), .ref 32] x = x := fun x => clAD d369 (by omega) rfl (by omega) (by decide) x
  obtain ⟨w395, e397, d396⟩ := sRD (S := RX6) (ci := 6) (a := 32) (i := 1) (x := 37) d391 (by omega) (by omega) rfl rfl (by omega) (by omega)
  have e398 : sR w390 RX6 6 32 (1 : Int32) 37 = some w395 := e397
  have e399 : gR w395 3 31 0 = some 32 := gRD d396 (by omega) rfl rfl
  obtain ⟨w400, e402, d403⟩ := nwD (n0 := 32) (vs := [.int (2 : Int32), .ref 31, .int (2 : Int32), .ref 32]) (c := (.inr (6, [.null, .null, .null]))) d396 (by omega) (by decide) (by omega) (by exact rfl)
  have d401 : WD w400 42 _ := d403
  obtain ⟨w404, e406, d407⟩ := nwD (n0 := 42) (vs := [.ref 41, .ref 41]) (c := (.inl (.int, 240, .inl (fun _ => 0)))) d401 (by omega) (by decide) (by omega) trivial
  have d405 : WD w404 43 _ := d407
  obtain ⟨w408, e410, d409⟩ := pVD (h := 41) (k := 0) (v := (.ref 42)) d405 (by omega) rfl (by decide) (by decide)
  obtain ⟨w411, e413, d414⟩ := nwD (n0 := 42) (vs := [.ref 41, .ref 41]) (c := (.inl (.int, 8, .inl (fun _ => 0)))) d409 (by omega) (by decide) (by omega) trivial
  have d412 : WD w411 44 _ := d414
  obtain ⟨w415, e417, d416⟩ := pVD (h := 41) (k := 1) (v := (.ref 43)) d412 (by omega) rfl (by decide) (by decide)
  obtain ⟨w418, e420, d421⟩ := nwD (n0 := 42) (vs := [.ref 41, .ref 41]) (c := (.inl (.int, 8, .inl (fun _ => 0)))) d416 (by omega) (by decide) (by omega) trivial
  have d419 : WD w418 45 _ := d421
  obtain ⟨w422, e424, d423⟩ := pVD (h := 41) (k := 2) (v := (.ref 44)) d419 (by omega) rfl (by decide) (by decide)
  have e425 : f_X6_init w400 41 = some w422 := by rw [f_X6_init, d401.2.1, e406, some_bind', e410, some_bind', d409.2.1, e413, some_bind', e417, some_bind', d416.2.1, e420, some_bind', e424, some_bind']
  have e426 : ∀ x : Option MW, clA 32 w400 6 41 [.int (2 : Int32), .ref 31, .ref 41, .int (2 : Int32), .ref 32] x = x := fun x => clAD d401 (by omega) rfl (by omega) (by decide) x
  obtain ⟨w427, e429, d428⟩ := sRD (S := RX6) (ci := 6) (a := 32) (i := 2) (x := 41) d423 (by omega) (by omega) rfl rfl (by omega) (by omega)
  have e430 : sR w422 RX6 6 32 (2 : Int32) 41 = some w427 := e429
  have e431 : gR w427 3 31 0 = some 32 := gRD d428 (by omega) rfl rfl
  obtain ⟨w432, e434, d435⟩ := nwD (n0 := 32) (vs := [.int (3 : Int32), .ref 31, .int (3 : Int32), .ref 32]) (c := (.inr (6, [.null, .null, .null]))) d428 (by omega) (by decide) (by omega) (by exact rfl)
  have d433 : WD w432 46 _ := d435
  obtain ⟨w436, e438, d439⟩ := nwD (n0 := 46) (vs := [.ref 45, .ref 45]) (c := (.inl (.int, 240, .inl (fun _ => 0)))) d433 (by omega) (by decide) (by omega) trivial
  have d437 : WD w436 47 _ := d439
  obtain ⟨w440, e442, d441⟩ := pVD (h := 45) (k := 0) (v := (.ref 46)) d437 (by omega) rfl (by decide) (by decide)
  obtain ⟨w443, e445, d446⟩ := nwD (n0 := 46) (vs := [.ref 45, .ref 45]) (c := (.inl (.int, 8, .inl (fun _ => 0)))) d441 (by omega) (by decide) (by omega) trivial
  have d444 : WD w443 48 _ := d446
  obtain ⟨w447, e449, d448⟩ := pVD (h := 45) (k := 1) (v := (.ref 47)) d444 (by omega) rfl (by decide) (by decide)
  obtain ⟨w450, e452, d453⟩ := nwD (n0 := 46) (vs := [.ref 45, .ref 45]) (c := (.inl (.int, 8, .inl (fun _ => 0)))) d448 (by omega) (by decide) (by omega) trivial
  have d451 : WD w450 49 _ := d453
  obtain ⟨w454, e456, d455⟩ := pVD (h := 45) (k := 2) (v := (.ref 48)) d451 (by omega) rfl (by decide) (by decide)
  have e457 : f_X6_init w432 45 = some w454 := by rw [f_X6_init, d433.2.1, e438, some_bind', e442, some_bind', d441.2.1, e445, some_bind', e449, some_bind', d448.2.1, e452, some_bind', e456, some_bind']
  have e458 : ∀ x : Option MW, clA 32 w432 6 45 [.int (3 : Int32), .ref 31, .ref 45, .int (3 : Int32), .ref 32] x = x := fun x => clAD d433 (by omega) rfl (by omega) (by decide) x
  obtain ⟨w459, e461, d460⟩ := sRD (S := RX6) (ci := 6) (a := 32) (i := 3) (x := 45) d455 (by omega) (by omega) rfl rfl (by omega) (by omega)
  have e462 : sR w454 RX6 6 32 (3 : Int32) 45 = some w459 := e461
  have e463 : gR w459 3 31 0 = some 32 := gRD d460 (by omega) rfl rfl
  obtain ⟨w464, e466, d467⟩ := nwD (n0 := 32) (vs := [.int (4 : Int32), .ref 31, .int (4 : Int32), .ref 32]) (c := (.inr (6, [.null, .null, .null]))) d460 (by omega) (by decide) (by omega) (by exact rfl)
  have d465 : WD w464 50 _ := d467
  obtain ⟨w468, e470, d471⟩ := nwD (n0 := 50) (vs := [.ref 49, .ref 49]) (c := (.inl (.int, 240, .inl (fun _ => 0)))) d465 (by omega) (by decide) (by omega) trivial
  have d469 : WD w468 51 _ := d471
  obtain ⟨w472, e474, d473⟩ := pVD (h := 49) (k := 0) (v := (.ref 50)) d469 (by omega) rfl (by decide) (by decide)
  obtain ⟨w475, e477, d478⟩ := nwD (n0 := 50) (vs := [.ref 49, .ref 49]) (c := (.inl (.int, 8, .inl (fun _ => 0)))) d473 (by omega) (by decide) (by omega) trivial
  have d476 : WD w475 52 _ := d478
  obtain ⟨w479, e481, d480⟩ := pVD (h := 49) (k := 1) (v := (.ref 51)) d476 (by omega) rfl (by decide) (by decide)
  obtain ⟨w482, e484, d485⟩ := nwD (n0 := 50) (vs := [.ref 49, .ref 49]) (c := (.inl (.int, 8, .inl (fun _ => 0)))) d480 (by omega) (by decide) (by omega) trivial
  have d483 : WD w482 53 _ := d485
  obtain ⟨w486, e488, d487⟩ := pVD (h := 49) (k := 2) (v := (.ref 52)) d483 (by omega) rfl (by decide) (by decide)
  have e489 : f_X6_init w464 49 = some w486 := by rw [f_X6_init, d465.2.1, e470, some_bind', e474, some_bind', d473.2.1, e477, some_bind', e481, some_bind', d480.2.1, e484, some_bind', e488, some_bind']
  have e490 : ∀ x : Option MW, clA 32 w464 6 49 [.int (4 : Int32), .ref 31, .ref 49, .int (4 : Int32), .ref 32] x = x := fun x => clAD d465 (by omega) rfl (by omega) (by decide) x
  obtain ⟨w491, e493, d492⟩ := sRD (S := RX6) (ci := 6) (a := 32) (i := 4) (x := 49) d487 (by omega) (by omega) rfl rfl (by omega) (by omega)
  have e494 : sR w486 RX6 6 32 (4 : Int32) 49 = some w491 := e493
  have e495 : gR w491 3 31 0 = some 32 := gRD d492 (by omega) rfl rfl
  obtain ⟨w496, e498, d499⟩ := nwD (n0 := 32) (vs := [.int (5 : Int32), .ref 31, .int (5 : Int32), .ref 32]) (c := (.inr (6, [.null, .null, .null]))) d492 (by omega) (by decide) (by omega) (by exact rfl)
  have d497 : WD w496 54 _ := d499
  obtain ⟨w500, e502, d503⟩ := nwD (n0 := 54) (vs := [.ref 53, .ref 53]) (c := (.inl (.int, 240, .inl (fun _ => 0)))) d497 (by omega) (by decide) (by omega) trivial
  have d501 : WD w500 55 _ := d503
  obtain ⟨w504, e506, d505⟩ := pVD (h := 53) (k := 0) (v := (.ref 54)) d501 (by omega) rfl (by decide) (by decide)
  obtain ⟨w507, e509, d510⟩ := nwD (n0 := 54) (vs := [.ref 53, .ref 53]) (c := (.inl (.int, 8, .inl (fun _ => 0)))) d505 (by omega) (by decide) (by omega) trivial
  have d508 : WD w507 56 _ := d510
  obtain ⟨w511, e513, d512⟩ := pVD (h := 53) (k := 1) (v := (.ref 55)) d508 (by omega) rfl (by decide) (by decide)
  obtain ⟨w514, e516, d517⟩ := nwD (n0 := 54) (vs := [.ref 53, .ref 53]) (c := (.inl (.int, 8, .inl (fun _ => 0)))) d512 (by omega) (by decide) (by omega) trivial
  have d515 : WD w514 57 _ := d517
  obtain ⟨w518, e520, d519⟩ := pVD (h := 53) (k := 2) (v := (.ref 56)) d515 (by omega) rfl (by decide) (by decide)
  have e521 : f_X6_init w496 53 = some w518 := by rw [f_X6_init, d497.2.1, e502, some_bind', e506, some_bind', d505.2.1, e509, some_bind', e513, some_bind', d512.2.1, e516, some_bind', e520, some_bind']
  have e522 : ∀ x : Option MW, clA 32 w496 6 53 [.int (5 : Int32), .ref 31, .ref 53, .int (5 : Int32), .ref 32] x = x := fun x => clAD d497 (by omega) rfl (by omega) (by decide) x
  obtain ⟨w523, e525, d524⟩ := sRD (S := RX6) (ci := 6) (a := 32) (i := 5) (x := 53) d519 (by omega) (by omega) rfl rfl (by omega) (by omega)
  have e526 : sR w518 RX6 6 32 (5 : Int32) 53 = some w523 := e525
  have e527 : gR w523 3 31 0 = some 32 := gRD d524 (by omega) rfl rfl
  obtain ⟨w528, e530, d531⟩ := nwD (n0 := 32) (vs := [.int (6 : Int32), .ref 31, .int (6 : Int32), .ref 32]) (c := (.inr (6, [.null, .null, .null]))) d524 (by omega) (by decide) (by omega) (by exact rfl)
  have d529 : WD w528 58 _ := d531
  obtain ⟨w532, e534, d535⟩ := nwD (n0 := 58) (vs := [.ref 57, .ref 57]) (c := (.inl (.int, 240, .inl (fun _ => 0)))) d529 (by omega) (by decide) (by omega) trivial
  have d533 : WD w532 59 _ := d535
  obtain ⟨w536, e538, d537⟩ := pVD (h := 57) (k := 0) (v := (.ref 58)) d533 (by omega) rfl (by decide) (by decide)
  obtain ⟨w539, e541, d542⟩ := nwD (n0 := 58) (vs := [.ref 57, .ref 57]) (c := (.inl (.int, 8, .inl (fun _ => 0)))) d537 (by omega) (by decide) (by omega) trivial
  have d540 : WD w539 60 _ := d542
  obtain ⟨w543, e545, d544⟩ := pVD (h := 57) (k := 1) (v := (.ref 59)) d540 (by omega) rfl (by decide) (by decide)
  obtain ⟨w546, e548, d549⟩ := nwD (n0 := 58) (vs := [.ref 57, .ref 57]) (c := (.inl (.int, 8, .inl (fun _ => 0)))) d544 (by omega) (by decide) (by omega) trivial
  have d547 : WD w546 61 _ := d549
  obtain ⟨w550, e552, d551⟩ := pVD (h := 57) (k := 2) (v := (.ref 60)) d547 (by omega) rfl (by decide) (by decide)
  have e553 : f_X6_init w528 57 = some w550 := by rw [f_X6_init, d529.2.1, e534, some_bind', e538, some_bind', d537.2.1, e541, some_bind', e545, some_bind', d544.2.1, e548, some_bind', e552, some_bind']
  have e554 : ∀ x : Option MW, clA 32 w528 6 57 [.int (6 : Int32), .ref 31, .ref 57, .int (6 : Int32), .ref 32] x = x := fun x => clAD d529 (by omega) rfl (by omega) (by decide) x
  obtain ⟨w555, e557, d556⟩ := sRD (S := RX6) (ci := 6) (a := 32) (i := 6) (x := 57) d551 (by omega) (by omega) rfl rfl (by omega) (by omega)
  have e558 : sR w550 RX6 6 32 (6 : Int32) 57 = some w555 := e557
  have e559 : gR w555 3 31 0 = some 32 := gRD d556 (by omega) rfl rfl
  obtain ⟨w560, e562, d563⟩ := nwD (n0 := 32) (vs := [.int (7 : Int32), .ref 31, .int (7 : Int32), .ref 32]) (c := (.inr (6, [.null, .null, .null]))) d556 (by omega) (by decide) (by omega) (by exact rfl)
  have d561 : WD w560 62 _ := d563
  obtain ⟨w564, e566, d567⟩ := nwD (n0 := 62) (vs := [.ref 61, .ref 61]) (c := (.inl (.int, 240, .inl (fun _ => 0)))) d561 (by omega) (by decide) (by omega) trivial
  have d565 : WD w564 63 _ := d567
  obtain ⟨w568, e570, d569⟩ := pVD (h := 61) (k := 0) (v := (.ref 62)) d565 (by omega) rfl (by decide) (by decide)
  obtain ⟨w571, e573, d574⟩ := nwD (n0 := 62) (vs := [.ref 61, .ref 61]) (c := (.inl (.int, 8, .inl (fun _ => 0)))) d569 (by omega) (by decide) (by omega) trivial
  have d572 : WD w571 64 _ := d574
  obtain ⟨w575, e577, d576⟩ := pVD (h := 61) (k := 1) (v := (.ref 63)) d572 (by omega) rfl (by decide) (by decide)
  obtain ⟨w578, e580, d581⟩ := nwD (n0 := 62) (vs := [.ref 61, .ref 61]) (c := (.inl (.int, 8, .inl (fun _ => 0)))) d576 (by omega) (by decide) (by omega) trivial
  have d579 : WD w578 65 _ := d581
  obtain ⟨w582, e584, d583⟩ := pVD (h := 61) (k := 2) (v := (.ref 64)) d579 (by omega) rfl (by decide) (by decide)
  have e585 : f_X6_init w560 61 = some w582 := by rw [f_X6_init, d561.2.1, e566, some_bind', e570, some_bind', d569.2.1, e573, some_bind', e577, some_bind', d576.2.1, e580, some_bind', e584, some_bind']
  have e586 : ∀ x : Option MW, clA 32 w560 6 61 [.int (7 : Int32), .ref 31, .ref 61, .int (7 : Int32), .ref 32] x = x := fun x => clAD d561 (by omega) rfl (by omega) (by decide) x
  obtain ⟨w587, e589, d588⟩ := sRD (S := RX6) (ci := 6) (a := 32) (i := 7) (x := 61) d583 (by omega) (by omega) rfl rfl (by omega) (by omega)
  have e590 : sR w582 RX6 6 32 (7 : Int32) 61 = some w587 := e589
  have e591 : gR w587 3 31 0 = some 32 := gRD d588 (by omega) rfl rfl
  obtain ⟨w592, e594, d595⟩ := nwD (n0 := 32) (vs := [.int (8 : Int32), .ref 31, .int (8 : Int32), .ref 32]) (c := (.inr (6, [.null, .null, .null]))) d588 (by omega) (by decide) (by omega) (by exact rfl)
  have d593 : WD w592 66 _ := d595
  obtain ⟨w596, e598, d599⟩ := nwD (n0 := 66) (vs := [.ref 65, .ref 65]) (c := (.inl (.int, 240, .inl (fun _ => 0)))) d593 (by omega) (by decide) (by omega) trivial
  have d597 : WD w596 67 _ := d599
  obtain ⟨w600, e602, d601⟩ := pVD (h := 65) (k := 0) (v := (.ref 66)) d597 (by omega) rfl (by decide) (by decide)
  obtain ⟨w603, e605, d606⟩ := nwD (n0 := 66) (vs := [.ref 65, .ref 65]) (c := (.inl (.int, 8, .inl (fun _ => 0)))) d601 (by omega) (by decide) (by omega) trivial
  have d604 : WD w603 68 _ := d606
  obtain ⟨w607, e609, d608⟩ := pVD (h := 65) (k := 1) (v := (.ref 67)) d604 (by omega) rfl (by decide) (by decide)
  obtain ⟨w610, e612, d613⟩ := nwD (n0 := 66) (vs := [.ref 65, .ref 65]) (c := (.inl (.int, 8, .inl (fun _ => 0)))) d608 (by omega) (by decide) (by omega) trivial
  have d611 : WD w610 69 _ := d613
  obtain ⟨w614, e616, d615⟩ := pVD (h := 65) (k := 2) (v := (.ref 68)) d611 (by omega) rfl (by decide) (by decide)
  have e617 : f_X6_init w592 65 = some w614 := by rw [f_X6_init, d593.2.1, e598, some_bind', e602, some_bind', d601.2.1, e605, some_bind', e609, some_bind', d608.2.1, e612, some_bind', e616, some_bind']
  have e618 : ∀ x : Option MW, clA 32 w592 6 65 [.int (8 : Int32), .ref 31, .ref 65, .int (8 : Int32), .ref 32] x = x := fun x => clAD d593 (by omega) rfl (by omega) (by decide) x
  obtain ⟨w619, e621, d620⟩ := sRD (S := RX6) (ci := 6) (a := 32) (i := 8) (x := 65) d615 (by omega) (by omega) rfl rfl (by omega) (by omega)
  have e622 : sR w614 RX6 6 32 (8 : Int32) 65 = some w619 := e621
  have e623 : gR w619 3 31 0 = some 32 := gRD d620 (by omega) rfl rfl
  obtain ⟨w624, e626, d627⟩ := nwD (n0 := 32) (vs := [.int (9 : Int32), .ref 31, .int (9 : Int32), .ref 32]) (c := (.inr (6, [.null, .null, .null]))) d620 (by omega) (by decide) (by omega) (by exact rfl)
  have d625 : WD w624 70 _ := d627
  obtain ⟨w628, e630, d631⟩ := nwD (n0 := 70) (vs := [.ref 69, .ref 69]) (c := (.inl (.int, 240, .inl (fun _ => 0)))) d625 (by omega) (by decide) (by omega) trivial
  have d629 : WD w628 71 _ := d631
  obtain ⟨w632, e634, d633⟩ := pVD (h := 69) (k := 0) (v := (.ref 70)) d629 (by omega) rfl (by decide) (by decide)
  obtain ⟨w635, e637, d638⟩ := nwD (n0 := 70) (vs := [.ref 69, .ref 69]) (c := (.inl (.int, 8, .inl (fun _ => 0)))) d633 (by omega) (by decide) (by omega) trivial
  have d636 : WD w635 72 _ := d638
  obtain ⟨w639, e641, d640⟩ := pVD (h := 69) (k := 1) (v := (.ref 71)) d636 (by omega) rfl (by decide) (by decide)
  obtain ⟨w642, e644, d645⟩ := nwD (n0 := 70) (vs := [.ref 69, .ref 69]) (c := (.inl (.int, 8, .inl (fun _ => 0)))) d640 (by omega) (by decide) (by omega) trivial
  have d643 : WD w642 73 _ := d645
  obtain ⟨w646, e648, d647⟩ := pVD (h := 69) (k := 2) (v := (.ref 72)) d643 (by omega) rfl (by decide) (by decide)
  have e649 : f_X6_init w624 69 = some w646 := by rw [f_X6_init, d625.2.1, e630, some_bind', e634, some_bind', d633.2.1, e637, some_bind', e641, some_bind', d640.2.1, e644, some_bind', e648, some_bind']
  have e650 : ∀ x : Option MW, clA 32 w624 6 69 [.int (9 : Int32), .ref 31, .ref 69, .int (9 : Int32), .ref 32] x = x := fun x => clAD d625 (by omega) rfl (by omega) (by decide) x
  obtain ⟨w651, e653, d652⟩ := sRD (S := RX6) (ci := 6) (a := 32) (i := 9) (x := 69) d647 (by omega) (by omega) rfl rfl (by omega) (by omega)
  have e654 : sR w646 RX6 6 32 (9 : Int32) 69 = some w651 := e653
  have e655 : gR w651 3 31 0 = some 32 := gRD d652 (by omega) rfl rfl
  obtain ⟨w656, e658, d659⟩ := nwD (n0 := 32) (vs := [.int (10 : Int32), .ref 31, .int (10 : Int32), .ref 32]) (c := (.inr (6, [.null, .null, .null]))) d652 (by omega) (by decide) (by omega) (by exact rfl)
  have d657 : WD w656 74 _ := d659
  obtain ⟨w660, e662, d663⟩ := nwD (n0 := 74) (vs := [.ref 73, .ref 73]) (c := (.inl (.int, 240, .inl (fun _ => 0)))) d657 (by omega) (by decide) (by omega) trivial
  have d661 : WD w660 75 _ := d663
  obtain ⟨w664, e666, d665⟩ := pVD (h := 73) (k := 0) (v := (.ref 74)) d661 (by omega) rfl (by decide) (by decide)
  obtain ⟨w667, e669, d670⟩ := nwD (n0 := 74) (vs := [.ref 73, .ref 73]) (c := (.inl (.int, 8, .inl (fun _ => 0)))) d665 (by omega) (by decide) (by omega) trivial
  have d668 : WD w667 76 _ := d670
  obtain ⟨w671, e673, d672⟩ := pVD (h := 73) (k := 1) (v := (.ref 75)) d668 (by omega) rfl (by decide) (by decide)
  obtain ⟨w674, e676, d677⟩ := nwD (n0 := 74) (vs := [.ref 73, .ref 73]) (c := (.inl (.int, 8, .inl (fun _ => 0)))) d672 (by omega) (by decide) (by omega) trivial
  have d675 : WD w674 77 _ := d677
  obtain ⟨w678, e680, d679⟩ := pVD (h := 73) (k := 2) (v := (.ref 76)) d675 (by omega) rfl (by decide) (by decide)
  have e681 : f_X6_init w656 73 = some w678 := by rw [f_X6_init, d657.2.1, e662, some_bind', e666, some_bind', d665.2.1, e669, some_bind', e673, some_bind', d672.2.1, e676, some_bind', e680, some_bind']
  have e682 : ∀ x : Option MW, clA 32 w656 6 73 [.int (10 : Int32), .ref 31, .ref 73, .int (10 : Int32), .ref 32] x = x := fun x => clAD d657 (by omega) rfl (by omega) (by decide) x
  obtain ⟨w683, e685, d684⟩ := sRD (S := RX6) (ci := 6) (a := 32) (i := 10) (x := 73) d679 (by omega) (by omega) rfl rfl (by omega) (by omega)
  have e686 : sR w678 RX6 6 32 (10 : Int32) 73 = some w683 := e685
  have e687 : gR w683 3 31 0 = some 32 := gRD d684 (by omega) rfl rfl
  obtain ⟨w688, e690, d691⟩ := nwD (n0 := 32) (vs := [.int (11 : Int32), .ref 31, .int (11 : Int32), .ref 32]) (c := (.inr (6, [.null, .null, .null]))) d684 (by omega) (by decide) (by omega) (by exact rfl)
  have d689 : WD w688 78 _ := d691
  obtain ⟨w692, e694, d695⟩ := nwD (n0 := 78) (vs := [.ref 77, .ref 77]) (c := (.inl (.int, 240, .inl (fun _ => 0)))) d689 (by omega) (by decide) (by omega) trivial
  have d693 : WD w692 79 _ := d695
  obtain ⟨w696, e698, d697⟩ := pVD (h := 77) (k := 0) (v := (.ref 78)) d693 (by omega) rfl (by decide) (by decide)
  obtain ⟨w699, e701, d702⟩ := nwD (n0 := 78) (vs := [.ref 77, .ref 77]) (c := (.inl (.int, 8, .inl (fun _ => 0)))) d697 (by omega) (by decide) (by omega) trivial
  have d700 : WD w699 80 _ := d702
  obtain ⟨w703, e705, d704⟩ := pVD (h := 77) (k := 1) (v := (.ref 79)) d700 (by omega) rfl (by decide) (by decide)
  obtain ⟨w706, e708, d709⟩ := nwD (n0 := 78) (vs := [.ref 77, .ref 77]) (c := (.inl (.int, 8, .inl (fun _ => 0)))) d704 (by omega) (by decide) (by omega) trivial
  have d707 : WD w706 81 _ := d709
  obtain ⟨w710, e712, d711⟩ := pVD (h := 77) (k := 2) (v := (.ref 80)) d707 (by omega) rfl (by decide) (by decide)
  have e713 : f_X6_init w688 77 = some w710 := by rw [f_X6_init, d689.2.1, e694, some_bind', e698, some_bind', d697.2.1, e701, some_bind', e705, some_bind', d704.2.1, e708, some_bind', e712, some_bind']
  have e714 : ∀ x : Option MW, clA 32 w688 6 77 [.int (11 : Int32), .ref 31, .ref 77, .int (11 : Int32), .ref 32] x = x := fun x => clAD d689 (by omega) rfl (by omega) (by decide) x
  obtain ⟨w715, e717, d716⟩ := sRD (S := RX6) (ci := 6) (a := 32) (i := 11) (x := 77) d711 (by omega) (by omega) rfl rfl (by omega) (by omega)
  have e718 : sR w710 RX6 6 32 (11 : Int32) 77 = some w715 := e717
  have e719 : gR w715 3 31 0 = some 32 := gRD d716 (by omega) rfl rfl
  obtain ⟨w720, e722, d723⟩ := nwD (n0 := 32) (vs := [.int (12 : Int32), .ref 31, .int (12 : Int32), .ref 32]) (c := (.inr (6, [.null, .null, .null]))) d716 (by omega) (by decide) (by omega) (by exact rfl)
  have d721 : WD w720 82 _ := d723
  obtain ⟨w724, e726, d727⟩ := nwD (n0 := 82) (vs := [.ref 81, .ref 81]) (c := (.inl (.int, 240, .inl (fun _ => 0)))) d721 (by omega) (by decide) (by omega) trivial
  have d725 : WD w724 83 _ := d727
  obtain ⟨w728, e730, d729⟩ := pVD (h := 81) (k := 0) (v := (.ref 82)) d725 (by omega) rfl (by decide) (by decide)
  obtain ⟨w731, e733, d734⟩ := nwD (n0 := 82) (vs := [.ref 81, .ref 81]) (c := (.inl (.int, 8, .inl (fun _ => 0)))) d729 (by omega) (by decide) (by omega) trivial
  have d732 : WD w731 84 _ := d734
  obtain ⟨w735, e737, d736⟩ := pVD (h := 81) (k := 1) (v := (.ref 83)) d732 (by omega) rfl (by decide) (by decide)
  obtain ⟨w738, e740, d741⟩ := nwD (n0 := 82) (vs := [.ref 81, .ref 81]) (c := (.inl (.int, 8, .inl (fun _ => 0)))) d736 (by omega) (by decide) (by omega) trivial
  have d739 : WD w738 85 _ := d741
  obtain ⟨w742, e744, d743⟩ := pVD (h := 81) (k := 2) (v := (.ref 84)) d739 (by omega) rfl (by decide) (by decide)
  have e745 : f_X6_init w720 81 = some w742 := by rw [f_X6_init, d721.2.1, e726, some_bind', e730, some_bind', d729.2.1, e733, some_bind', e737, some_bind', d736.2.1, e740, some_bind', e744, some_bind']
  have e746 : ∀ x : Option MW, clA 32 w720 6 81 [.int (12 : Int32), .ref 31, .ref 81, .int (12 : Int32), .ref 32] x = x := fun x => clAD d721 (by omega) rfl (by omega) (by decide) x
  obtain ⟨w747, e749, d748⟩ := sRD (S := RX6) (ci := 6) (a := 32) (i := 12) (x := 81) d743 (by omega) (by omega) rfl rfl (by omega) (by omega)
  have e750 : sR w742 RX6 6 32 (12 : Int32) 81 = some w747 := e749
  have e751 : f_X3_init w318 31 = some w747 := by rw [f_X3_init, d319.2.1, e324, some_bind', e328, some_bind', e331, some_bind', e334, some_bind', d333.2.1, e335, some_bind', e338, some_bind', e362, e361, some_bind', e366, some_bind', d364.2.1, e367, some_bind', e370, some_bind', e394, e393, some_bind', e398, some_bind', d396.2.1, e399, some_bind', e402, some_bind', e426, e425, some_bind', e430, some_bind', d428.2.1, e431, some_bind', e434, some_bind', e458, e457, some_bind', e462, some_bind', d460.2.1, e463, some_bind', e466, some_bind', e490, e489, some_bind', e494, some_bind', d492.2.1, e495, some_bind', e498, some_bind', e522, e521, some_bind', e526, some_bind', d524.2.1, e527, some_bind', e530, some_bind', e554, e553, some_bind', e558, some_bind', d556.2.1, e559, some_bind', e562, some_bind', e586, e585, some_bind', e590, some_bind', d588.2.1, e591, some_bind', e594, some_bind', e618, e617, some_bind', e622, some_bind', d620.2.1, e623, some_bind', e626, some_bind', e650, e649, some_bind', e654, some_bind', d652.2.1, e655, some_bind', e658, some_bind', e682, e681, some_bind', e686, some_bind', d684.2.1, e687, some_bind', e690, some_bind', e714, e713, some_bind', e718, some_bind', d716.2.1, e719, some_bind', e722, some_bind', e746, e745, some_bind', e750, some_bind']
  have e752 : ∀ x : Option MW, clA 1 w318 3 31 [.ref 0, .ref 31, .ref 0] x = x := fun x => clAD d319 (by omega) rfl (by omega) (by decide) x
  obtain ⟨w753, e755, d754⟩ := pVD (h := 0) (k := 1) (v := (.ref 31)) d748 (by omega) rfl (by decide) (by decide)
  obtain ⟨w756, e758, d759⟩ := nwD (n0 := 1) (vs := [.ref 0, .ref 0]) (c := (.inr (4, [.null, .int 0]))) d754 (by omega) (by decide) (by omega) (by exact rfl)
  have d757 : WD w756 86 _ := d759
  obtain ⟨w760, e762, d763⟩ := nwD (n0 := 1) (vs := [.ref 0, .ref 85, .ref 85, .ref 0]) (c := (.inl (.byte, 800, .inl (fun _ => 0)))) d757 (by omega) (by decide) (by omega) trivial
  have d761 : WD w760 87 _ := d763
  obtain ⟨w764, e766, d765⟩ := pVD (h := 85) (k := 0) (v := (.ref 86)) d761 (by omega) rfl (by decide) (by decide)
  obtain ⟨w767, e769, d768⟩ := pVD (h := 85) (k := 1) (v := (.int (0 : Int32))) d765 (by omega) rfl (by decide) (by decide)
  have e770 : f_X4_init w760 85 86 = some w767 := by rw [f_X4_init, e766, some_bind', e769, some_bind']
  have e771 : ∀ x : Option MW, cl w760 4 85 x = x := fun x => clD d761 (by omega) rfl x
  obtain ⟨w772, e774, d773⟩ := pVD (h := 0) (k := 2) (v := (.ref 85)) d768 (by omega) rfl (by decide) (by decide)
  obtain ⟨w775, e777, d778⟩ := nwD (n0 := 1) (vs := [.ref 0, .ref 0]) (c := (.inr (4, [.null, .int 0]))) d773 (by omega) (by decide) (by omega) (by exact rfl)
  have d776 : WD w775 88 _ := d778
  obtain ⟨w779, e781, d782⟩ := nwD (n0 := 1) (vs := [.ref 0, .ref 87, .ref 87, .ref 0]) (c := (.inl (.byte, 360, .inl (fun _ => 0)))) d776 (by omega) (by decide) (by omega) trivial
  have d780 : WD w779 89 _ := d782
  obtain ⟨w783, e785, d784⟩ := pVD (h := 87) (k := 0) (v := (.ref 88)) d780 (by omega) rfl (by decide) (by decide)
  obtain ⟨w786, e788, d787⟩ := pVD (h := 87) (k := 1) (v := (.int (0 : Int32))) d784 (by omega) rfl (by decide) (by decide)
  have e789 : f_X4_init w779 87 88 = some w786 := by rw [f_X4_init, e785, some_bind', e788, some_bind']
  have e790 : ∀ x : Option MW, cl w779 4 87 x = x := fun x => clD d780 (by omega) rfl x
  obtain ⟨w791, e793, d792⟩ := pVD (h := 0) (k := 3) (v := (.ref 87)) d787 (by omega) rfl (by decide) (by decide)
  obtain ⟨w794, e796, d797⟩ := nwD (n0 := 1) (vs := [.ref 0, .ref 0]) (c := (.inr (5, [.null, .null, .null, .int 0, .int 0, .int 0, .int 0, .int 0, .int 0]))) d792 (by omega) (by decide) (by omega) (by exact rfl)
  have d795 : WD w794 90 _ := d797
  have e798 : gR w794 10 0 2 = some 85 := gRD d795 (by omega) rfl rfl
  have e799 : gR w794 10 0 0 = some 1 := gRD d795 (by omega) rfl rfl
  obtain ⟨w800, e802, d803⟩ := nwD (n0 := 90) (vs := [.ref 89, .ref 85, .ref 1, .ref 89]) (c := (.inl (.int, 4, .inl (fun _ => 0)))) d795 (by omega) (by decide) (by omega) trivial
  have d801 : WD w800 91 _ := d803
  obtain ⟨w804, e806, d805⟩ := pVD (h := 89) (k := 2) (v := (.ref 90)) d801 (by omega) rfl (by decide) (by decide)
  obtain ⟨w807, e809, d808⟩ := pVD (h := 89) (k := 0) (v := (.ref 85)) d805 (by omega) rfl (by decide) (by decide)
  obtain ⟨w810, e812, d811⟩ := pVD (h := 89) (k := 1) (v := (.ref 1)) d808 (by omega) rfl (by decide) (by decide)
  have e813 : f_X5_init w794 89 85 1 = some w810 := by rw [f_X5_init, d795.2.1, e802, some_bind', e806, some_bind', e809, some_bind', e812, some_bind']
  have e814 : ∀ x : Option MW, clA 1 w794 5 89 [.ref 0, .ref 89, .ref 0] x = x := fun x => clAD d795 (by omega) rfl (by omega) (by decide) x
  obtain ⟨w815, e817, d816⟩ := pVD (h := 0) (k := 4) (v := (.ref 89)) d811 (by omega) rfl (by decide) (by decide)
  obtain ⟨w818, e820, d821⟩ := nwD (n0 := 1) (vs := [.ref 0, .ref 0]) (c := (.inr (6, [.null, .null, .null]))) d816 (by omega) (by decide) (by omega) (by exact rfl)
  have d819 : WD w818 92 _ := d821
  obtain ⟨w822, e824, d825⟩ := nwD (n0 := 92) (vs := [.ref 91, .ref 91]) (c := (.inl (.int, 240, .inl (fun _ => 0)))) d819 (by omega) (by decide) (by omega) trivial
  have d823 : WD w822 93 _ := d825
  obtain ⟨w826, e828, d827⟩ := pVD (h := 91) (k := 0) (v := (.ref 92)) d823 (by omega) rfl (by decide) (by decide)
  obtain ⟨w829, e831, d832⟩ := nwD (n0 := 92) (vs := [.ref 91, .ref 91]) (c := (.inl (.int, 8, .inl (fun _ => 0)))) d827 (by omega) (by decide) (by omega) trivial
  have d830 : WD w829 94 _ := d832
  obtain ⟨w833, e835, d834⟩ := pVD (h := 91) (k := 1) (v := (.ref 93)) d830 (by omega) rfl (by decide) (by decide)
  obtain ⟨w836, e838, d839⟩ := nwD (n0 := 92) (vs := [.ref 91, .ref 91]) (c := (.inl (.int, 8, .inl (fun _ => 0)))) d834 (by omega) (by decide) (by omega) trivial
  have d837 : WD w836 95 _ := d839
  obtain ⟨w840, e842, d841⟩ := pVD (h := 91) (k := 2) (v := (.ref 94)) d837 (by omega) rfl (by decide) (by decide)
  have e843 : f_X6_init w818 91 = some w840 := by rw [f_X6_init, d819.2.1, e824, some_bind', e828, some_bind', d827.2.1, e831, some_bind', e835, some_bind', d834.2.1, e838, some_bind', e842, some_bind']
  have e844 : ∀ x : Option MW, clA 1 w818 6 91 [.ref 0, .ref 91, .ref 0] x = x := fun x => clAD d819 (by omega) rfl (by omega) (by decide) x
  obtain ⟨w845, e847, d846⟩ := pVD (h := 0) (k := 5) (v := (.ref 91)) d841 (by omega) rfl (by decide) (by decide)
  obtain ⟨w848, e850, d851⟩ := nwD (n0 := 1) (vs := [.ref 0, .ref 0]) (c := (.inl (.object RX1, 3, .inr (.inr (.inr (.inr (fun _ => none))))))) d846 (by omega) (by decide) (by omega) (fun j k e => by cases e)
  have d849 : WD w848 96 _ := d851
  obtain ⟨w852, e854, d853⟩ := pVD (h := 0) (k := 6) (v := (.ref 95)) d849 (by omega) rfl (by decide) (by decide)
  have e855 : gR w852 10 0 6 = some 95 := gRD d853 (by omega) rfl rfl
  obtain ⟨w856, e858, d859⟩ := nwD (n0 := 1) (vs := [.int (0 : Int32), .ref 0, .int (0 : Int32), .ref 95]) (c := (.inr (1, [.null, .null, .null, .int 0, .int 0, .int 0]))) d853 (by omega) (by decide) (by omega) (by exact rfl)
  have d857 : WD w856 97 _ := d859
  obtain ⟨w860, e862, d863⟩ := nwD (n0 := 97) (vs := [.ref 96, .ref 96]) (c := (.inr (6, [.null, .null, .null]))) d857 (by omega) (by decide) (by omega) (by exact rfl)
  have d861 : WD w860 98 _ := d863
  obtain ⟨w864, e866, d867⟩ := nwD (n0 := 98) (vs := [.ref 97, .ref 97]) (c := (.inl (.int, 240, .inl (fun _ => 0)))) d861 (by omega) (by decide) (by omega) trivial
  have d865 : WD w864 99 _ := d867
  obtain ⟨w868, e870, d869⟩ := pVD (h := 97) (k := 0) (v := (.ref 98)) d865 (by omega) rfl (by decide) (by decide)
  obtain ⟨w871, e873, d874⟩ := nwD (n0 := 98) (vs := [.ref 97, .ref 97]) (c := (.inl (.int, 8, .inl (fun _ => 0)))) d869 (by omega) (by decide) (by omega) trivial
  have d872 : WD w871 100 _ := d874
  obtain ⟨w875, e877, d876⟩ := pVD (h := 97) (k := 1) (v := (.ref 99)) d872 (by omega) rfl (by decide) (by decide)
  obtain ⟨w878, e880, d881⟩ := nwD (n0 := 98) (vs := [.ref 97, .ref 97]) (c := (.inl (.int, 8, .inl (fun _ => 0)))) d876 (by omega) (by decide) (by omega) trivial
  have d879 : WD w878 101 _ := d881
  obtain ⟨w882, e884, d883⟩ := pVD (h := 97) (k := 2) (v := (.ref 100)) d879 (by omega) rfl (by decide) (by decide)
  have e885 : f_X6_init w860 97 = some w882 := by rw [f_X6_init, d861.2.1, e866, some_bind', e870, some_bind', d869.2.1, e873, some_bind', e877, some_bind', d876.2.1, e880, some_bind', e884, some_bind']
  have e886 : ∀ x : Option MW, clA 97 w860 6 97 [.ref 96, .ref 97, .ref 96] x = x := fun x => clAD d861 (by omega) rfl (by omega) (by decide) x
  obtain ⟨w887, e889, d888⟩ := pVD (h := 96) (k := 0) (v := (.ref 97)) d883 (by omega) rfl (by decide) (by decide)
  obtain ⟨w890, e892, d893⟩ := nwD (n0 := 97) (vs := [.ref 96, .ref 96]) (c := (.inr (4, [.null, .int 0]))) d888 (by omega) (by decide) (by omega) (by exact rfl)
  have d891 : WD w890 102 _ := d893
  obtain ⟨w894, e896, d897⟩ := nwD (n0 := 97) (vs := [.ref 96, .ref 101, .ref 101, .ref 96]) (c := (.inl (.byte, 800, .inl (fun _ => 0)))) d891 (by omega) (by decide) (by omega) trivial
  have d895 : WD w894 103 _ := d897
  obtain ⟨w898, e900, d899⟩ := pVD (h := 101) (k := 0) (v := (.ref 102)) d895 (by omega) rfl (by decide) (by decide)
  obtain ⟨w901, e903, d902⟩ := pVD (h := 101) (k := 1) (v := (.int (0 : Int32))) d899 (by omega) rfl (by decide) (by decide)
  have e904 : f_X4_init w894 101 102 = some w901 := by rw [f_X4_init, e900, some_bind', e903, some_bind']
  have e905 : ∀ x : Option MW, cl w894 4 101 x = x := fun x => clD d895 (by omega) rfl x
  obtain ⟨w906, e908, d907⟩ := pVD (h := 96) (k := 1) (v := (.ref 101)) d902 (by omega) rfl (by decide) (by decide)
  obtain ⟨w909, e911, d912⟩ := nwD (n0 := 97) (vs := [.ref 96, .ref 96]) (c := (.inr (4, [.null, .int 0]))) d907 (by omega) (by decide) (by omega) (by exact rfl)
  have d910 : WD w909 104 _ := d912
  obtain ⟨w913, e915, d916⟩ := nwD (n0 := 97) (vs := [.ref 96, .ref 103, .ref 103, .ref 96]) (c := (.inl (.byte, 360, .inl (fun _ => 0)))) d910 (by omega) (by decide) (by omega) trivial
  have d914 : WD w913 105 _ := d916
  obtain ⟨w917, e919, d918⟩ := pVD (h := 103) (k := 0) (v := (.ref 104)) d914 (by omega) rfl (by decide) (by decide)
  obtain ⟨w920, e922, d921⟩ := pVD (h := 103) (k := 1) (v := (.int (0 : Int32))) d918 (by omega) rfl (by decide) (by decide)
  have e923 : f_X4_init w913 103 104 = some w920 := by rw [f_X4_init, e919, some_bind', e922, some_bind']
  have e924 : ∀ x : Option MW, cl w913 4 103 x = x := fun x => clD d914 (by omega) rfl x
  obtain ⟨w925, e927, d926⟩ := pVD (h := 96) (k := 2) (v := (.ref 103)) d921 (by omega) rfl (by decide) (by decide)
  obtain ⟨w928, e930, d929⟩ := pVD (h := 96) (k := 3) (v := (.int (0 : Int32))) d926 (by omega) rfl (by decide) (by decide)
  obtain ⟨w931, e933, d932⟩ := pVD (h := 96) (k := 4) (v := (.int (0 : Int32))) d929 (by omega) rfl (by decide) (by decide)
  obtain ⟨w934, e936, d935⟩ := pVD (h := 96) (k := 5) (v := (.int (-1 : Int32))) d932 (by omega) rfl (by decide) (by decide)
  have e937 : f_X1_init w856 96 = some w934 := by rw [f_X1_init, d857.2.1, e862, some_bind', e886, e885, some_bind', e889, some_bind', d888.2.1, e892, some_bind', d891.2.1, e896, some_bind', e905, e904, some_bind', e908, some_bind', d907.2.1, e911, some_bind', d910.2.1, e915, some_bind', e924, e923, some_bind', e927, some_bind', e930, some_bind', e933, some_bind', e936, some_bind']
  have e938 : ∀ x : Option MW, clA 1 w856 1 96 [.int (0 : Int32), .ref 0, .ref 96, .int (0 : Int32), .ref 95] x = x := fun x => clAD d857 (by omega) rfl (by omega) (by decide) x
  obtain ⟨w939, e941, d940⟩ := sRD (S := RX1) (ci := 1) (a := 95) (i := 0) (x := 96) d935 (by omega) (by omega) rfl rfl (by omega) (by omega)
  have e942 : sR w934 RX1 1 95 (0 : Int32) 96 = some w939 := e941
  have e943 : gR w939 10 0 6 = some 95 := gRD d940 (by omega) rfl rfl
  obtain ⟨w944, e946, d947⟩ := nwD (n0 := 1) (vs := [.int (1 : Int32), .ref 0, .int (1 : Int32), .ref 95]) (c := (.inr (1, [.null, .null, .null, .int 0, .int 0, .int 0]))) d940 (by omega) (by decide) (by omega) (by exact rfl)
  have d945 : WD w944 106 _ := d947
  obtain ⟨w948, e950, d951⟩ := nwD (n0 := 106) (vs := [.ref 105, .ref 105]) (c := (.inr (6, [.null, .null, .null]))) d945 (by omega) (by decide) (by omega) (by exact rfl)
  have d949 : WD w948 107 _ := d951
  obtain ⟨w952, e954, d955⟩ := nwD (n0 := 107) (vs := [.ref 106, .ref 106]) (c := (.inl (.int, 240, .inl (fun _ => 0)))) d949 (by omega) (by decide) (by omega) trivial
  have d953 : WD w952 108 _ := d955
  obtain ⟨w956, e958, d957⟩ := pVD (h := 106) (k := 0) (v := (.ref 107)) d953 (by omega) rfl (by decide) (by decide)
  obtain ⟨w959, e961, d962⟩ := nwD (n0 := 107) (vs := [.ref 106, .ref 106]) (c := (.inl (.int, 8, .inl (fun _ => 0)))) d957 (by omega) (by decide) (by omega) trivial
  have d960 : WD w959 109 _ := d962
  obtain ⟨w963, e965, d964⟩ := pVD (h := 106) (k := 1) (v := (.ref 108)) d960 (by omega) rfl (by decide) (by decide)
  obtain ⟨w966, e968, d969⟩ := nwD (n0 := 107) (vs := [.ref 106, .ref 106]) (c := (.inl (.int, 8, .inl (fun _ => 0)))) d964 (by omega) (by decide) (by omega) trivial
  have d967 : WD w966 110 _ := d969
  obtain ⟨w970, e972, d971⟩ := pVD (h := 106) (k := 2) (v := (.ref 109)) d967 (by omega) rfl (by decide) (by decide)
  have e973 : f_X6_init w948 106 = some w970 := by rw [f_X6_init, d949.2.1, e954, some_bind', e958, some_bind', d957.2.1, e961, some_bind', e965, some_bind', d964.2.1, e968, some_bind', e972, some_bind']
  have e974 : ∀ x : Option MW, clA 106 w948 6 106 [.ref 105, .ref 106, .ref 105] x = x := fun x => clAD d949 (by omega) rfl (by omega) (by decide) x
  obtain ⟨w975, e977, d976⟩ := pVD (h := 105) (k := 0) (v := (.ref 106)) d971 (by omega) rfl (by decide) (by decide)
  obtain ⟨w978, e980, d981⟩ := nwD (n0 := 106) (vs := [.ref 105, .ref 105]) (c := (.inr (4, [.null, .int 0]))) d976 (by omega) (by decide) (by omega) (by exact rfl)
  have d979 : WD w978 111 _ := d981
  obtain ⟨w982, e984, d985⟩ := nwD (n0 := 106) (vs := [.ref 105, .ref 110, .ref 110, .ref 105]) (c := (.inl (.byte, 800, .inl (fun _ => 0)))) d979 (by omega) (by decide) (by omega) trivial
  have d983 : WD w982 112 _ := d985
  obtain ⟨w986, e988, d987⟩ := pVD (h := 110) (k := 0) (v := (.ref 111)) d983 (by omega) rfl (by decide) (by decide)
  obtain ⟨w989, e991, d990⟩ := pVD (h := 110) (k := 1) (v := (.int (0 : Int32))) d987 (by omega) rfl (by decide) (by decide)
  have e992 : f_X4_init w982 110 111 = some w989 := by rw [f_X4_init, e988, some_bind', e991, some_bind']
  have e993 : ∀ x : Option MW, cl w982 4 110 x = x := fun x => clD d983 (by omega) rfl x
  obtain ⟨w994, e996, d995⟩ := pVD (h := 105) (k := 1) (v := (.ref 110)) d990 (by omega) rfl (by decide) (by decide)
  obtain ⟨w997, e999, d1000⟩ := nwD (n0 := 106) (vs := [.ref 105, .ref 105]) (c := (.inr (4, [.null, .int 0]))) d995 (by omega) (by decide) (by omega) (by exact rfl)
  have d998 : WD w997 113 _ := d1000
  obtain ⟨w1001, e1003, d1004⟩ := nwD (n0 := 106) (vs := [.ref 105, .ref 112, .ref 112, .ref 105]) (c := (.inl (.byte, 360, .inl (fun _ => 0)))) d998 (by omega) (by decide) (by omega) trivial
  have d1002 : WD w1001 114 _ := d1004
  obtain ⟨w1005, e1007, d1006⟩ := pVD (h := 112) (k := 0) (v := (.ref 113)) d1002 (by omega) rfl (by decide) (by decide)
  obtain ⟨w1008, e1010, d1009⟩ := pVD (h := 112) (k := 1) (v := (.int (0 : Int32))) d1006 (by omega) rfl (by decide) (by decide)
  have e1011 : f_X4_init w1001 112 113 = some w1008 := by rw [f_X4_init, e1007, some_bind', e1010, some_bind']
  have e1012 : ∀ x : Option MW, cl w1001 4 112 x = x := fun x => clD d1002 (by omega) rfl x
  obtain ⟨w1013, e1015, d1014⟩ := pVD (h := 105) (k := 2) (v := (.ref 112)) d1009 (by omega) rfl (by decide) (by decide)
  obtain ⟨w1016, e1018, d1017⟩ := pVD (h := 105) (k := 3) (v := (.int (0 : Int32))) d1014 (by omega) rfl (by decide) (by decide)
  obtain ⟨w1019, e1021, d1020⟩ := pVD (h := 105) (k := 4) (v := (.int (0 : Int32))) d1017 (by omega) rfl (by decide) (by decide)
  obtain ⟨w1022, e1024, d1023⟩ := pVD (h := 105) (k := 5) (v := (.int (-1 : Int32))) d1020 (by omega) rfl (by decide) (by decide)
  have e1025 : f_X1_init w944 105 = some w1022 := by rw [f_X1_init, d945.2.1, e950, some_bind', e974, e973, some_bind', e977, some_bind', d976.2.1, e980, some_bind', d979.2.1, e984, some_bind', e993, e992, some_bind', e996, some_bind', d995.2.1, e999, some_bind', d998.2.1, e1003, some_bind', e1012, e1011, some_bind', e1015, some_bind', e1018, some_bind', e1021, some_bind', e1024, some_bind']
  have e1026 : ∀ x : Option MW, clA 1 w944 1 105 [.int (1 : Int32), .ref 0, .ref 105, .int (1 : Int32), .ref 95] x = x := fun x => clAD d945 (by omega) rfl (by omega) (by decide) x
  obtain ⟨w1027, e1029, d1028⟩ := sRD (S := RX1) (ci := 1) (a := 95) (i := 1) (x := 105) d1023 (by omega) (by omega) rfl rfl (by omega) (by omega)
  have e1030 : sR w1022 RX1 1 95 (1 : Int32) 105 = some w1027 := e1029
  have e1031 : gR w1027 10 0 6 = some 95 := gRD d1028 (by omega) rfl rfl
  obtain ⟨w1032, e1034, d1035⟩ := nwD (n0 := 1) (vs := [.int (2 : Int32), .ref 0, .int (2 : Int32), .ref 95]) (c := (.inr (1, [.null, .null, .null, .int 0, .int 0, .int 0]))) d1028 (by omega) (by decide) (by omega) (by exact rfl)
  have d1033 : WD w1032 115 _ := d1035
  obtain ⟨w1036, e1038, d1039⟩ := nwD (n0 := 115) (vs := [.ref 114, .ref 114]) (c := (.inr (6, [.null, .null, .null]))) d1033 (by omega) (by decide) (by omega) (by exact rfl)
  have d1037 : WD w1036 116 _ := d1039
  obtain ⟨w1040, e1042, d1043⟩ := nwD (n0 := 116) (vs := [.ref 115, .ref 115]) (c := (.inl (.int, 240, .inl (fun _ => 0)))) d1037 (by omega) (by decide) (by omega) trivial
  have d1041 : WD w1040 117 _ := d1043
  obtain ⟨w1044, e1046, d1045⟩ := pVD (h := 115) (k := 0) (v := (.ref 116)) d1041 (by omega) rfl (by decide) (by decide)
  obtain ⟨w1047, e1049, d1050⟩ := nwD (n0 := 116) (vs := [.ref 115, .ref 115]) (c := (.inl (.int, 8, .inl (fun _ => 0)))) d1045 (by omega) (by decide) (by omega) trivial
  have d1048 : WD w1047 118 _ := d1050
  obtain ⟨w1051, e1053, d1052⟩ := pVD (h := 115) (k := 1) (v := (.ref 117)) d1048 (by omega) rfl (by decide) (by decide)
  obtain ⟨w1054, e1056, d1057⟩ := nwD (n0 := 116) (vs := [.ref 115, .ref 115]) (c := (.inl (.int, 8, .inl (fun _ => 0)))) d1052 (by omega) (by decide) (by omega) trivial
  have d1055 : WD w1054 119 _ := d1057
  obtain ⟨w1058, e1060, d1059⟩ := pVD (h := 115) (k := 2) (v := (.ref 118)) d1055 (by omega) rfl (by decide) (by decide)
  have e1061 : f_X6_init w1036 115 = some w1058 := by rw [f_X6_init, d1037.2.1, e1042, some_bind', e1046, some_bind', d1045.2.1, e1049, some_bind', e1053, some_bind', d1052.2.1, e1056, some_bind', e1060, some_bind']
  have e1062 : ∀ x : Option MW, clA 115 w1036 6 115 [.ref 114, .ref 115, .ref 114] x = x := fun x => clAD d1037 (by omega) rfl (by omega) (by decide) x
  obtain ⟨w1063, e1065, d1064⟩ := pVD (h := 114) (k := 0) (v := (.ref 115)) d1059 (by omega) rfl (by decide) (by decide)
  obtain ⟨w1066, e1068, d1069⟩ := nwD (n0 := 115) (vs := [.ref 114, .ref 114]) (c := (.inr (4, [.null, .int 0]))) d1064 (by omega) (by decide) (by omega) (by exact rfl)
  have d1067 : WD w1066 120 _ := d1069
  obtain ⟨w1070, e1072, d1073⟩ := nwD (n0 := 115) (vs := [.ref 114, .ref 119, .ref 119, .ref 114]) (c := (.inl (.byte, 800, .inl (fun _ => 0)))) d1067 (by omega) (by decide) (by omega) trivial
  have d1071 : WD w1070 121 _ := d1073
  obtain ⟨w1074, e1076, d1075⟩ := pVD (h := 119) (k := 0) (v := (.ref 120)) d1071 (by omega) rfl (by decide) (by decide)
  obtain ⟨w1077, e1079, d1078⟩ := pVD (h := 119) (k := 1) (v := (.int (0 : Int32))) d1075 (by omega) rfl (by decide) (by decide)
  have e1080 : f_X4_init w1070 119 120 = some w1077 := by rw [f_X4_init, e1076, some_bind', e1079, some_bind']
  have e1081 : ∀ x : Option MW, cl w1070 4 119 x = x := fun x => clD d1071 (by omega) rfl x
  obtain ⟨w1082, e1084, d1083⟩ := pVD (h := 114) (k := 1) (v := (.ref 119)) d1078 (by omega) rfl (by decide) (by decide)
  obtain ⟨w1085, e1087, d1088⟩ := nwD (n0 := 115) (vs := [.ref 114, .ref 114]) (c := (.inr (4, [.null, .int 0]))) d1083 (by omega) (by decide) (by omega) (by exact rfl)
  have d1086 : WD w1085 122 _ := d1088
  obtain ⟨w1089, e1091, d1092⟩ := nwD (n0 := 115) (vs := [.ref 114, .ref 121, .ref 121, .ref 114]) (c := (.inl (.byte, 360, .inl (fun _ => 0)))) d1086 (by omega) (by decide) (by omega) trivial
  have d1090 : WD w1089 123 _ := d1092
  obtain ⟨w1093, e1095, d1094⟩ := pVD (h := 121) (k := 0) (v := (.ref 122)) d1090 (by omega) rfl (by decide) (by decide)
  obtain ⟨w1096, e1098, d1097⟩ := pVD (h := 121) (k := 1) (v := (.int (0 : Int32))) d1094 (by omega) rfl (by decide) (by decide)
  have e1099 : f_X4_init w1089 121 122 = some w1096 := by rw [f_X4_init, e1095, some_bind', e1098, some_bind']
  have e1100 : ∀ x : Option MW, cl w1089 4 121 x = x := fun x => clD d1090 (by omega) rfl x
  obtain ⟨w1101, e1103, d1102⟩ := pVD (h := 114) (k := 2) (v := (.ref 121)) d1097 (by omega) rfl (by decide) (by decide)
  obtain ⟨w1104, e1106, d1105⟩ := pVD (h := 114) (k := 3) (v := (.int (0 : Int32))) d1102 (by omega) rfl (by decide) (by decide)
  obtain ⟨w1107, e1109, d1108⟩ := pVD (h := 114) (k := 4) (v := (.int (0 : Int32))) d1105 (by omega) rfl (by decide) (by decide)
  obtain ⟨w1110, e1112, d1111⟩ := pVD (h := 114) (k := 5) (v := (.int (-1 : Int32))) d1108 (by omega) rfl (by decide) (by decide)
  have e1113 : f_X1_init w1032 114 = some w1110 := by rw [f_X1_init, d1033.2.1, e1038, some_bind', e1062, e1061, some_bind', e1065, some_bind', d1064.2.1, e1068, some_bind', d1067.2.1, e1072, some_bind', e1081, e1080, some_bind', e1084, some_bind', d1083.2.1, e1087, some_bind', d1086.2.1, e1091, some_bind', e1100, e1099, some_bind', e1103, some_bind', e1106, some_bind', e1109, some_bind', e1112, some_bind']
  have e1114 : ∀ x : Option MW, clA 1 w1032 1 114 [.int (2 : Int32), .ref 0, .ref 114, .int (2 : Int32), .ref 95] x = x := fun x => clAD d1033 (by omega) rfl (by omega) (by decide) x
  obtain ⟨w1115, e1117, d1116⟩ := sRD (S := RX1) (ci := 1) (a := 95) (i := 2) (x := 114) d1111 (by omega) (by omega) rfl rfl (by omega) (by omega)
  have e1118 : sR w1110 RX1 1 95 (2 : Int32) 114 = some w1115 := e1117
  obtain ⟨w1119, e1121, d1120⟩ := pVD (h := 0) (k := 7) (v := (.int (0 : Int32))) d1116 (by omega) rfl (by decide) (by decide)
  obtain ⟨w1122, e1124, d1123⟩ := pVD (h := 0) (k := 8) (v := (.int (-1 : Int32))) d1120 (by omega) rfl (by decide) (by decide)
  have e1125 : f_X10_init w0a 0 = some w1122 := by rw [f_X10_init, d0.2.1, e3, some_bind', e314, e313, some_bind', e317, some_bind', d316.2.1, e320, some_bind', e752, e751, some_bind', e755, some_bind', d754.2.1, e758, some_bind', d757.2.1, e762, some_bind', e771, e770, some_bind', e774, some_bind', d773.2.1, e777, some_bind', d776.2.1, e781, some_bind', e790, e789, some_bind', e793, some_bind', d792.2.1, e796, some_bind', e798, some_bind', e799, some_bind', e814, e813, some_bind', e817, some_bind', d816.2.1, e820, some_bind', e844, e843, some_bind', e847, some_bind', d846.2.1, e850, some_bind', e854, some_bind', d853.2.1, e855, some_bind', e858, some_bind', e938, e937, some_bind', e942, some_bind', d940.2.1, e943, some_bind', e946, some_bind', e1026, e1025, some_bind', e1030, some_bind', d1028.2.1, e1031, some_bind', e1034, some_bind', e1114, e1113, some_bind', e1118, some_bind', e1121, some_bind', e1124, some_bind']
  refine ⟨w0a, w1122, e0a, fun x => clAD d0 (by omega) rfl (by omega) (by decide) x, e1125, d1123.eq (fun k hk => ?_)⟩
  exact match k, hk with
  | 0, _ => rfl
  | 1, _ => rfl
  | 2, _ => rfl
  | 3, _ => rfl
  | 4, _ => rfl
  | 5, _ => rfl
  | 6, _ => rfl
  | 7, _ => rfl
  | 8, _ => rfl
  | 9, _ => rfl
  | 10, _ => rfl
  | 11, _ => rfl
  | 12, _ => rfl
  | 13, _ => rfl
  | 14, _ => rfl
  | 15, _ => rfl
  | 16, _ => rfl
  | 17, _ => rfl
  | 18, _ => rfl
  | 19, _ => rfl
  | 20, _ => rfl
  | 21, _ => rfl
  | 22, _ => rfl
  | 23, _ => rfl
  | 24, _ => rfl
  | 25, _ => rfl
  | 26, _ => rfl
  | 27, _ => rfl
  | 28, _ => rfl
  | 29, _ => rfl
  | 30, _ => rfl
  | 31, _ => rfl
  | 32, _ => rfl
  | 33, _ => rfl
  | 34, _ => rfl
  | 35, _ => rfl
  | 36, _ => rfl
  | 37, _ => rfl
  | 38, _ => rfl
  | 39, _ => rfl
  | 40, _ => rfl
  | 41, _ => rfl
  | 42, _ => rfl
  | 43, _ => rfl
  | 44, _ => rfl
  | 45, _ => rfl
  | 46, _ => rfl
  | 47, _ => rfl
  | 48, _ => rfl
  | 49, _ => rfl
  | 50, _ => rfl
  | 51, _ => rfl
  | 52, _ => rfl
  | 53, _ => rfl
  | 54, _ => rfl
  | 55, _ => rfl
  | 56, _ => rfl
  | 57, _ => rfl
  | 58, _ => rfl
  | 59, _ => rfl
  | 60, _ => rfl
  | 61, _ => rfl
  | 62, _ => rfl
  | 63, _ => rfl
  | 64, _ => rfl
  | 65, _ => rfl
  | 66, _ => rfl
  | 67, _ => rfl
  | 68, _ => rfl
  | 69, _ => rfl
  | 70, _ => rfl
  | 71, _ => rfl
  | 72, _ => rfl
  | 73, _ => rfl
  | 74, _ => rfl
  | 75, _ => rfl
  | 76, _ => rfl
  | 77, _ => rfl
  | 78, _ => rfl
  | 79, _ => rfl
  | 80, _ => rfl
  | 81, _ => rfl
  | 82, _ => rfl
  | 83, _ => rfl
  | 84, _ => rfl
  | 85, _ => rfl
  | 86, _ => rfl
  | 87, _ => rfl
  | 88, _ => rfl
  | 89, _ => rfl
  | 90, _ => rfl
  | 91, _ => rfl
  | 92, _ => rfl
  | 93, _ => rfl
  | 94, _ => rfl
  | 95, _ => rfl
  | 96, _ => rfl
  | 97, _ => rfl
  | 98, _ => rfl
  | 99, _ => rfl
  | 100, _ => rfl
  | 101, _ => rfl
  | 102, _ => rfl
  | 103, _ => rfl
  | 104, _ => rfl
  | 105, _ => rfl
  | 106, _ => rfl
  | 107, _ => rfl
  | 108, _ => rfl
  | 109, _ => rfl
  | 110, _ => rfl
  | 111, _ => rfl
  | 112, _ => rfl
  | 113, _ => rfl
  | 114, _ => rfl
  | 115, _ => rfl
  | 116, _ => rfl
  | 117, _ => rfl
  | 118, _ => rfl
  | 119, _ => rfl
  | 120, _ => rfl
  | 121, _ => rfl
  | 122, _ => rfl
  | _ + 123, h => absurd h (by omega)
