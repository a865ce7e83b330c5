theorem s_try : True := by
  have d00 : WD [] 0 (fun _ => .inr (0, [])) := ⟨⟨by decide, fun c hc => by simp at hc⟩, rfl, fun k hk => by omega⟩
  obtain ⟨w0a, e0a, d0a⟩ := nwD (n0 := 0) (vs := [.ref 40000]) (c := (.inr (10, [.null, .null, .null, .null, .null, .null, .null, .int 0, .int 0]))) d00 (by omega) (by decide) (by omega) (by exact rfl)
  have d0 : WD w0a 1 _ := d0a
  obtain ⟨wb, eb, db⟩ := nwD (n0 := 1) (vs := [.ref 0]) (c := (.inr (8, [.null, .null, .null, .null, .null, .null, .null, .int 0, .int 0]))) d0 (by omega) (by decide) (by omega) (by exact rfl)
  have db2 : WD wb 2 _ := db
  obtain ⟨w1, e3, d4⟩ := nwD (n0 := 2) (vs := [.ref 1, .ref 1]) (c := (.inl (.int, 61, .inl (fun _ => 0)))) db2 (by omega) (by decide) (by omega) trivial
  have d2 : WD w1 3 _ := d4
  obtain ⟨w5, e7, d6⟩ := pVD (h := 1) (k := 0) (v := (.ref 2)) d2 (by omega) rfl (by decide) (by decide)
  obtain ⟨w8, e10, d11⟩ := nwD (n0 := 2) (vs := [.ref 1, .ref 1]) (c := (.inl (.int, 61, .inl (fun _ => 0)))) d6 (by omega) (by decide) (by omega) trivial
  have d9 : WD w8 4 _ := d11
  obtain ⟨w12, e14, d13⟩ := pVD (h := 1) (k := 1) (v := (.ref 3)) d9 (by omega) rfl (by decide) (by decide)
  obtain ⟨w15, e17, d18⟩ := nwD (n0 := 2) (vs := [.ref 1, .ref 1]) (c := (.inl (.int, 61, .inl (fun _ => 0)))) d13 (by omega) (by decide) (by omega) trivial
  have d16 : WD w15 5 _ := d18
  obtain ⟨w19, e21, d20⟩ := pVD (h := 1) (k := 2) (v := (.ref 4)) d16 (by omega) rfl (by decide) (by decide)
  obtain ⟨w22, e24, d25⟩ := nwD (n0 := 2) (vs := [.ref 1, .ref 1]) (c := (.inl (.int, 61, .inl (fun _ => 0)))) d20 (by omega) (by decide) (by omega) trivial
  have d23 : WD w22 6 _ := d25
  obtain ⟨w26, e28, d27⟩ := pVD (h := 1) (k := 3) (v := (.ref 5)) d23 (by omega) rfl (by decide) (by decide)
  obtain ⟨w29, e31, d32⟩ := nwD (n0 := 2) (vs := [.ref 1, .ref 1]) (c := (.inl (.int, 61, .inl (fun _ => 0)))) d27 (by omega) (by decide) (by omega) trivial
  have d30 : WD w29 7 _ := d32
  obtain ⟨w33, e35, d34⟩ := pVD (h := 1) (k := 4) (v := (.ref 6)) d30 (by omega) rfl (by decide) (by decide)
  obtain ⟨w36, e38, d39⟩ := nwD (n0 := 2) (vs := [.ref 1, .ref 1]) (c := (.inl (.int, 61, .inl (fun _ => 0)))) d34 (by omega) (by decide) (by omega) trivial
  have d37 : WD w36 8 _ := d39
  obtain ⟨w40, e42, d41⟩ := pVD (h := 1) (k := 5) (v := (.ref 7)) d37 (by omega) rfl (by decide) (by decide)
  obtain ⟨w43, e45, d46⟩ := nwD (n0 := 2) (vs := [.ref 1, .ref 1]) (c := (.inl (.int, 61, .inl (fun _ => 0)))) d41 (by omega) (by decide) (by omega) trivial
  have d44 : WD w43 9 _ := d46
  obtain ⟨w47, e49, d48⟩ := pVD (h := 1) (k := 6) (v := (.ref 8)) d44 (by omega) rfl (by decide) (by decide)
  obtain ⟨w50, e52, d51⟩ := pVD (h := 1) (k := 7) (v := (.int (0 : Int32))) d48 (by omega) rfl (by decide) (by decide)
  obtain ⟨w53, e55, d54⟩ := pVD (h := 1) (k := 8) (v := (.int (-1 : Int32))) d51 (by omega) rfl (by decide) (by decide)
  have e56 : f_X8_init wb 1 = some w53 := by rw [f_X8_init, db2.2.1, e3, some_bind', e7, some_bind', d6.2.1, e10, some_bind', e14, some_bind', d13.2.1, e17, some_bind', e21, some_bind', d20.2.1, e24, some_bind', e28, some_bind', d27.2.1, e31, some_bind', e35, some_bind', d34.2.1, e38, some_bind', e42, some_bind', d41.2.1, e45, some_bind', e49, some_bind', e52, some_bind', e55, some_bind']
  trivial
