theorem arrP {args : Array Value} {s : State} {ty : FieldType} (h : (Cond.arrayClass ty).before args s = true) (hr : ∀ cA : ClassId, s.vm.findClass ("[" ++ ty.toString) = some cA → va_RA s cA ty) : ∃ cA : ClassId, ArrOfT s cA ty ∧ va_RA s cA ty := by
  obtain ⟨cA, k, comp, h1, h2, h3⟩ := Cond.arrayClass_spec h
  exact ⟨cA, fun n z => ⟨fun k h => (by cases h), k, h2, comp, h3⟩, hr cA h1⟩
theorem arrO {args : Array Value} {s : State} {Cn : String} (h : (Cond.arrayOver (.object Cn)).before args s = true) : ∃ cA : ClassId, ArrOfT s cA (.object Cn) ∧ va_RA s cA (.object Cn) := by
  obtain ⟨comp, cA, k, h1, -, h2, h3, h4⟩ := Cond.arrayOver_spec h
  exact ⟨cA, fun n z => ⟨fun k h => (by cases h), k, h2, comp, h3⟩, k, comp, h2, h3, h1, h4⟩
def sTm (i : Nat) : Term := .string RX5 (sIx.getD i 0)
abbrev gvF : List Cond := flatC (Jvm.Cond.and given_1 narrow_1)
set_option maxRecDepth 100000 in
theorem sw_ex : ∀ i, i < 13 → Cond.exactly (sTm i) "java/lang/String" ∈ gvF := by decide +kernel
set_option maxRecDepth 100000 in
theorem sw_co : ∀ i, i < 13 → Cond.eq (.field (sTm i) "java/lang/String" "coder" "B") (.int 0) ∈ gvF := by decide +kernel
set_option maxRecDepth 100000 in
theorem sw_ar : ∀ i, i < 13 → Cond.arrayOf (.field (sTm i) "java/lang/String" "value" "[B") .byte ∈ gvF := by decide +kernel
set_option maxRecDepth 100000 in
theorem sw_le : ∀ i, i < 13 → Cond.eq (.length (.field (sTm i) "java/lang/String" "value" "[B")) (.int (Int32.ofNat (sLn.getD i 0))) ∈ gvF := by decide +kernel
set_option maxRecDepth 100000 in
theorem sw_el : ∀ i, i < 13 → ∀ j, j < sLn.getD i 0 → Cond.eq (.elem (.field (sTm i) "java/lang/String" "value" "[B") (.int (Int32.ofNat j))) (.int ((sBy.getD i []).getD j 0)) ∈ gvF := by decide +kernel
def sNE (q : Nat × Nat) : Prop := Cond.not (Cond.eq (sTm q.1) (sTm q.2)) ∈ gvF ∨ Cond.not (Cond.eq (sTm q.2) (sTm q.1)) ∈ gvF
set_option maxRecDepth 100000 in
theorem sn_0_1 : sNE (0, 1) := Or.inl (List.mem_of_getElem? (i := 60) (by decide +kernel))
set_option maxRecDepth 100000 in
theorem sn_0_2 : sNE (0, 2) := Or.inl (List.mem_of_getElem? (i := 68) (by decide +kernel))
set_option maxRecDepth 100000 in
theorem sn_0_3 : sNE (0, 3) := Or.inl (List.mem_of_getElem? (i := 78) (by decide +kernel))
set_option maxRecDepth 100000 in
theorem sn_0_4 : sNE (0, 4) := Or.inl (List.mem_of_getElem? (i := 89) (by decide +kernel))
set_option maxRecDepth 100000 in
theorem sn_0_5 : sNE (0, 5) := Or.inl (List.mem_of_getElem? (i := 102) (by decide +kernel))
set_option maxRecDepth 100000 in
theorem sn_0_6 : sNE (0, 6) := Or.inl (List.mem_of_getElem? (i := 115) (by decide +kernel))
set_option maxRecDepth 100000 in
theorem sn_0_7 : sNE (0, 7) := Or.inl (List.mem_of_getElem? (i := 126) (by decide +kernel))
set_option maxRecDepth 100000 in
theorem sn_0_8 : sNE (0, 8) := Or.inl (List.mem_of_getElem? (i := 140) (by decide +kernel))
set_option maxRecDepth 100000 in
theorem sn_0_9 : sNE (0, 9) := Or.inl (List.mem_of_getElem? (i := 155) (by decide +kernel))
set_option maxRecDepth 100000 in
theorem sn_0_10 : sNE (0, 10) := Or.inl (List.mem_of_getElem? (i := 170) (by decide +kernel))
set_option maxRecDepth 100000 in
theorem sn_0_11 : sNE (0, 11) := Or.inl (List.mem_of_getElem? (i := 188) (by decide +kernel))
set_option maxRecDepth 100000 in
theorem sn_0_12 : sNE (0, 12) := Or.inl (List.mem_of_getElem? (i := 205) (by decide +kernel))
set_option maxRecDepth 100000 in
theorem sn_1_2 : sNE (1, 2) := Or.inl (List.mem_of_getElem? (i := 69) (by decide +kernel))
set_option maxRecDepth 100000 in
theorem sn_1_3 : sNE (1, 3) := Or.inl (List.mem_of_getElem? (i := 79) (by decide +kernel))
set_option maxRecDepth 100000 in
theorem sn_1_4 : sNE (1, 4) := Or.inl (List.mem_of_getElem? (i := 90) (by decide +kernel))
set_option maxRecDepth 100000 in
theorem sn_1_5 : sNE (1, 5) := Or.inl (List.mem_of_getElem? (i := 103) (by decide +kernel))
set_option maxRecDepth 100000 in
theorem sn_1_6 : sNE (1, 6) := Or.inl (List.mem_of_getElem? (i := 116) (by decide +kernel))
set_option maxRecDepth 100000 in
theorem sn_1_7 : sNE (1, 7) := Or.inl (List.mem_of_getElem? (i := 127) (by decide +kernel))
set_option maxRecDepth 100000 in
theorem sn_1_8 : sNE (1, 8) := Or.inl (List.mem_of_getElem? (i := 141) (by decide +kernel))
set_option maxRecDepth 100000 in
theorem sn_1_9 : sNE (1, 9) := Or.inl (List.mem_of_getElem? (i := 156) (by decide +kernel))
set_option maxRecDepth 100000 in
theorem sn_1_10 : sNE (1, 10) := Or.inl (List.mem_of_getElem? (i := 171) (by decide +kernel))
set_option maxRecDepth 100000 in
theorem sn_1_11 : sNE (1, 11) := Or.inl (List.mem_of_getElem? (i := 189) (by decide +kernel))
set_option maxRecDepth 100000 in
theorem sn_1_12 : sNE (1, 12) := Or.inl (List.mem_of_getElem? (i := 206) (by decide +kernel))
set_option maxRecDepth 100000 in
theorem sn_2_3 : sNE (2, 3) := Or.inl (List.mem_of_getElem? (i := 80) (by decide +kernel))
set_option maxRecDepth 100000 in
theorem sn_2_4 : sNE (2, 4) := Or.inl (List.mem_of_getElem? (i := 91) (by decide +kernel))
set_option maxRecDepth 100000 in
theorem sn_2_5 : sNE (2, 5) := Or.inl (List.mem_of_getElem? (i := 104) (by decide +kernel))
set_option maxRecDepth 100000 in
theorem sn_2_6 : sNE (2, 6) := Or.inl (List.mem_of_getElem? (i := 117) (by decide +kernel))
set_option maxRecDepth 100000 in
theorem sn_2_7 : sNE (2, 7) := Or.inl (List.mem_of_getElem? (i := 128) (by decide +kernel))
set_option maxRecDepth 100000 in
theorem sn_2_8 : sNE (2, 8) := Or.inl (List.mem_of_getElem? (i := 142) (by decide +kernel))
set_option maxRecDepth 100000 in
theorem sn_2_9 : sNE (2, 9) := Or.inl (List.mem_of_getElem? (i := 157) (by decide +kernel))
set_option maxRecDepth 100000 in
theorem sn_2_10 : sNE (2, 10) := Or.inl (List.mem_of_getElem? (i := 172) (by decide +kernel))
set_option maxRecDepth 100000 in
theorem sn_2_11 : sNE (2, 11) := Or.inl (List.mem_of_getElem? (i := 190) (by decide +kernel))
set_option maxRecDepth 100000 in
theorem sn_2_12 : sNE (2, 12) := Or.inl (List.mem_of_getElem? (i := 207) (by decide +kernel))
set_option maxRecDepth 100000 in
theorem sn_3_4 : sNE (3, 4) := Or.inl (List.mem_of_getElem? (i := 92) (by decide +kernel))
set_option maxRecDepth 100000 in
theorem sn_3_5 : sNE (3, 5) := Or.inl (List.mem_of_getElem? (i := 105) (by decide +kernel))
set_option maxRecDepth 100000 in
theorem sn_3_6 : sNE (3, 6) := Or.inl (List.mem_of_getElem? (i := 118) (by decide +kernel))
set_option maxRecDepth 100000 in
theorem sn_3_7 : sNE (3, 7) := Or.inl (List.mem_of_getElem? (i := 129) (by decide +kernel))
set_option maxRecDepth 100000 in
theorem sn_3_8 : sNE (3, 8) := Or.inl (List.mem_of_getElem? (i := 143) (by decide +kernel))
set_option maxRecDepth 100000 in
theorem sn_3_9 : sNE (3, 9) := Or.inl (List.mem_of_getElem? (i := 158) (by decide +kernel))
set_option maxRecDepth 100000 in
theorem sn_3_10 : sNE (3, 10) := Or.inl (List.mem_of_getElem? (i := 173) (by decide +kernel))
set_option maxRecDepth 100000 in
theorem sn_3_11 : sNE (3, 11) := Or.inl (List.mem_of_getElem? (i := 191) (by decide +kernel))
set_option maxRecDepth 100000 in
theorem sn_3_12 : sNE (3, 12) := Or.inl (List.mem_of_getElem? (i := 208) (by decide +kernel))
set_option maxRecDepth 100000 in
theorem sn_4_5 : sNE (4, 5) := Or.inl (List.mem_of_getElem? (i := 106) (by decide +kernel))
set_option maxRecDepth 100000 in
theorem sn_4_6 : sNE (4, 6) := Or.inl (List.mem_of_getElem? (i := 119) (by decide +kernel))
set_option maxRecDepth 100000 in
theorem sn_4_7 : sNE (4, 7) := Or.inl (List.mem_of_getElem? (i := 130) (by decide +kernel))
set_option maxRecDepth 100000 in
theorem sn_4_8 : sNE (4, 8) := Or.inl (List.mem_of_getElem? (i := 144) (by decide +kernel))
set_option maxRecDepth 100000 in
theorem sn_4_9 : sNE (4, 9) := Or.inl (List.mem_of_getElem? (i := 159) (by decide +kernel))
set_option maxRecDepth 100000 in
theorem sn_4_10 : sNE (4, 10) := Or.inl (List.mem_of_getElem? (i := 174) (by decide +kernel))
set_option maxRecDepth 100000 in
theorem sn_4_11 : sNE (4, 11) := Or.inl (List.mem_of_getElem? (i := 192) (by decide +kernel))
set_option maxRecDepth 100000 in
theorem sn_4_12 : sNE (4, 12) := Or.inl (List.mem_of_getElem? (i := 209) (by decide +kernel))
set_option maxRecDepth 100000 in
theorem sn_5_6 : sNE (5, 6) := Or.inl (List.mem_of_getElem? (i := 120) (by decide +kernel))
set_option maxRecDepth 100000 in
theorem sn_5_7 : sNE (5, 7) := Or.inl (List.mem_of_getElem? (i := 131) (by decide +kernel))
set_option maxRecDepth 100000 in
theorem sn_5_8 : sNE (5, 8) := Or.inl (List.mem_of_getElem? (i := 145) (by decide +kernel))
set_option maxRecDepth 100000 in
theorem sn_5_9 : sNE (5, 9) := Or.inl (List.mem_of_getElem? (i := 160) (by decide +kernel))
set_option maxRecDepth 100000 in
theorem sn_5_10 : sNE (5, 10) := Or.inl (List.mem_of_getElem? (i := 175) (by decide +kernel))
set_option maxRecDepth 100000 in
theorem sn_5_11 : sNE (5, 11) := Or.inl (List.mem_of_getElem? (i := 193) (by decide +kernel))
set_option maxRecDepth 100000 in
theorem sn_5_12 : sNE (5, 12) := Or.inl (List.mem_of_getElem? (i := 210) (by decide +kernel))
set_option maxRecDepth 100000 in
theorem sn_6_7 : sNE (6, 7) := Or.inl (List.mem_of_getElem? (i := 132) (by decide +kernel))
set_option maxRecDepth 100000 in
theorem sn_6_8 : sNE (6, 8) := Or.inl (List.mem_of_getElem? (i := 146) (by decide +kernel))
set_option maxRecDepth 100000 in
theorem sn_6_9 : sNE (6, 9) := Or.inl (List.mem_of_getElem? (i := 161) (by decide +kernel))
set_option maxRecDepth 100000 in
theorem sn_6_10 : sNE (6, 10) := Or.inl (List.mem_of_getElem? (i := 176) (by decide +kernel))
set_option maxRecDepth 100000 in
theorem sn_6_11 : sNE (6, 11) := Or.inl (List.mem_of_getElem? (i := 194) (by decide +kernel))
set_option maxRecDepth 100000 in
theorem sn_6_12 : sNE (6, 12) := Or.inl (List.mem_of_getElem? (i := 211) (by decide +kernel))
set_option maxRecDepth 100000 in
theorem sn_7_8 : sNE (7, 8) := Or.inl (List.mem_of_getElem? (i := 147) (by decide +kernel))
set_option maxRecDepth 100000 in
theorem sn_7_9 : sNE (7, 9) := Or.inl (List.mem_of_getElem? (i := 162) (by decide +kernel))
set_option maxRecDepth 100000 in
theorem sn_7_10 : sNE (7, 10) := Or.inl (List.mem_of_getElem? (i := 177) (by decide +kernel))
set_option maxRecDepth 100000 in
theorem sn_7_11 : sNE (7, 11) := Or.inl (List.mem_of_getElem? (i := 195) (by decide +kernel))
set_option maxRecDepth 100000 in
theorem sn_7_12 : sNE (7, 12) := Or.inl (List.mem_of_getElem? (i := 212) (by decide +kernel))
set_option maxRecDepth 100000 in
theorem sn_8_9 : sNE (8, 9) := Or.inl (List.mem_of_getElem? (i := 163) (by decide +kernel))
set_option maxRecDepth 100000 in
theorem sn_8_10 : sNE (8, 10) := Or.inl (List.mem_of_getElem? (i := 178) (by decide +kernel))
set_option maxRecDepth 100000 in
theorem sn_8_11 : sNE (8, 11) := Or.inl (List.mem_of_getElem? (i := 196) (by decide +kernel))
set_option maxRecDepth 100000 in
theorem sn_8_12 : sNE (8, 12) := Or.inl (List.mem_of_getElem? (i := 213) (by decide +kernel))
set_option maxRecDepth 100000 in
theorem sn_9_10 : sNE (9, 10) := Or.inl (List.mem_of_getElem? (i := 179) (by decide +kernel))
set_option maxRecDepth 100000 in
theorem sn_9_11 : sNE (9, 11) := Or.inl (List.mem_of_getElem? (i := 197) (by decide +kernel))
set_option maxRecDepth 100000 in
theorem sn_9_12 : sNE (9, 12) := Or.inl (List.mem_of_getElem? (i := 214) (by decide +kernel))
set_option maxRecDepth 100000 in
theorem sn_10_11 : sNE (10, 11) := Or.inl (List.mem_of_getElem? (i := 198) (by decide +kernel))
set_option maxRecDepth 100000 in
theorem sn_10_12 : sNE (10, 12) := Or.inl (List.mem_of_getElem? (i := 215) (by decide +kernel))
set_option maxRecDepth 100000 in
theorem sn_11_12 : sNE (11, 12) := Or.inl (List.mem_of_getElem? (i := 216) (by decide +kernel))
def sPr : List (Nat × Nat) := [(0, 1), (0, 2), (0, 3), (0, 4), (0, 5), (0, 6), (0, 7), (0, 8), (0, 9), (0, 10), (0, 11), (0, 12), (1, 2), (1, 3), (1, 4), (1, 5), (1, 6), (1, 7), (1, 8), (1, 9), (1, 10), (1, 11), (1, 12), (2, 3), (2, 4), (2, 5), (2, 6), (2, 7), (2, 8), (2, 9), (2, 10), (2, 11), (2, 12), (3, 4), (3, 5), (3, 6), (3, 7), (3, 8), (3, 9), (3, 10), (3, 11), (3, 12), (4, 5), (4, 6), (4, 7), (4, 8), (4, 9), (4, 10), (4, 11), (4, 12), (5, 6), (5, 7), (5, 8), (5, 9), (5, 10), (5, 11), (5, 12), (6, 7), (6, 8), (6, 9), (6, 10), (6, 11), (6, 12), (7, 8), (7, 9), (7, 10), (7, 11), (7, 12), (8, 9), (8, 10), (8, 11), (8, 12), (9, 10), (9, 11), (9, 12), (10, 11), (10, 12), (11, 12)]
theorem sPr_ok : ∀ q ∈ sPr, sNE q := List.forall_mem_cons.mpr ⟨sn_0_1, List.forall_mem_cons.mpr ⟨sn_0_2, List.forall_mem_cons.mpr ⟨sn_0_3, List.forall_mem_cons.mpr ⟨sn_0_4, List.forall_mem_cons.mpr ⟨sn_0_5, List.forall_mem_cons.mpr ⟨sn_0_6, List.forall_mem_cons.mpr ⟨sn_0_7, List.forall_mem_cons.mpr ⟨sn_0_8, List.forall_mem_cons.mpr ⟨sn_0_9, List.forall_mem_cons.mpr ⟨sn_0_10, List.forall_mem_cons.mpr ⟨sn_0_11, List.forall_mem_cons.mpr ⟨sn_0_12, List.forall_mem_cons.mpr ⟨sn_1_2, List.forall_mem_cons.mpr ⟨sn_1_3, List.forall_mem_cons.mpr ⟨sn_1_4, List.forall_mem_cons.mpr ⟨sn_1_5, List.forall_mem_cons.mpr ⟨sn_1_6, List.forall_mem_cons.mpr ⟨sn_1_7, List.forall_mem_cons.mpr ⟨sn_1_8, List.forall_mem_cons.mpr ⟨sn_1_9, List.forall_mem_cons.mpr ⟨sn_1_10, List.forall_mem_cons.mpr ⟨sn_1_11, List.forall_mem_cons.mpr ⟨sn_1_12, List.forall_mem_cons.mpr ⟨sn_2_3, List.forall_mem_cons.mpr ⟨sn_2_4, List.forall_mem_cons.mpr ⟨sn_2_5, List.forall_mem_cons.mpr ⟨sn_2_6, List.forall_mem_cons.mpr ⟨sn_2_7, List.forall_mem_cons.mpr ⟨sn_2_8, List.forall_mem_cons.mpr ⟨sn_2_9, List.forall_mem_cons.mpr ⟨sn_2_10, List.forall_mem_cons.mpr ⟨sn_2_11, List.forall_mem_cons.mpr ⟨sn_2_12, List.forall_mem_cons.mpr ⟨sn_3_4, List.forall_mem_cons.mpr ⟨sn_3_5, List.forall_mem_cons.mpr ⟨sn_3_6, List.forall_mem_cons.mpr ⟨sn_3_7, List.forall_mem_cons.mpr ⟨sn_3_8, List.forall_mem_cons.mpr ⟨sn_3_9, List.forall_mem_cons.mpr ⟨sn_3_10, List.forall_mem_cons.mpr ⟨sn_3_11, List.forall_mem_cons.mpr ⟨sn_3_12, List.forall_mem_cons.mpr ⟨sn_4_5, List.forall_mem_cons.mpr ⟨sn_4_6, List.forall_mem_cons.mpr ⟨sn_4_7, List.forall_mem_cons.mpr ⟨sn_4_8, List.forall_mem_cons.mpr ⟨sn_4_9, List.forall_mem_cons.mpr ⟨sn_4_10, List.forall_mem_cons.mpr ⟨sn_4_11, List.forall_mem_cons.mpr ⟨sn_4_12, List.forall_mem_cons.mpr ⟨sn_5_6, List.forall_mem_cons.mpr ⟨sn_5_7, List.forall_mem_cons.mpr ⟨sn_5_8, List.forall_mem_cons.mpr ⟨sn_5_9, List.forall_mem_cons.mpr ⟨sn_5_10, List.forall_mem_cons.mpr ⟨sn_5_11, List.forall_mem_cons.mpr ⟨sn_5_12, List.forall_mem_cons.mpr ⟨sn_6_7, List.forall_mem_cons.mpr ⟨sn_6_8, List.forall_mem_cons.mpr ⟨sn_6_9, List.forall_mem_cons.mpr ⟨sn_6_10, List.forall_mem_cons.mpr ⟨sn_6_11, List.forall_mem_cons.mpr ⟨sn_6_12, List.forall_mem_cons.mpr ⟨sn_7_8, List.forall_mem_cons.mpr ⟨sn_7_9, List.forall_mem_cons.mpr ⟨sn_7_10, List.forall_mem_cons.mpr ⟨sn_7_11, List.forall_mem_cons.mpr ⟨sn_7_12, List.forall_mem_cons.mpr ⟨sn_8_9, List.forall_mem_cons.mpr ⟨sn_8_10, List.forall_mem_cons.mpr ⟨sn_8_11, List.forall_mem_cons.mpr ⟨sn_8_12, List.forall_mem_cons.mpr ⟨sn_9_10, List.forall_mem_cons.mpr ⟨sn_9_11, List.forall_mem_cons.mpr ⟨sn_9_12, List.forall_mem_cons.mpr ⟨sn_10_11, List.forall_mem_cons.mpr ⟨sn_10_12, List.forall_mem_cons.mpr ⟨sn_11_12, fun _ h => absurd h List.not_mem_nil⟩⟩⟩⟩⟩⟩⟩⟩⟩⟩⟩⟩⟩⟩⟩⟩⟩⟩⟩⟩⟩⟩⟩⟩⟩⟩⟩⟩⟩⟩⟩⟩⟩⟩⟩⟩⟩⟩⟩⟩⟩⟩⟩⟩⟩⟩⟩⟩⟩⟩⟩⟩⟩⟩⟩⟩⟩⟩⟩⟩⟩⟩⟩⟩⟩⟩⟩⟩⟩⟩⟩⟩⟩⟩⟩⟩⟩⟩
theorem sPr_allF : ∀ i : Fin 13, ∀ j : Fin 13, i < j → ((i : Nat), (j : Nat)) ∈ sPr := by decide +kernel
theorem sPr_all (i : Nat) (hi : i < 13) (j : Nat) (hj : j < 13) (h : i < j) : (i, j) ∈ sPr := sPr_allF ⟨i, hi⟩ ⟨j, hj⟩ h
theorem sw_ne (i : Nat) (hi : i < 13) (j : Nat) (hj : j < 13) (hij : i ≠ j) : Cond.not (Cond.eq (sTm i) (sTm j)) ∈ gvF ∨ Cond.not (Cond.eq (sTm j) (sTm i)) ∈ gvF := by
  rcases Nat.lt_or_gt_of_ne hij with h | h
  · exact sPr_ok _ (sPr_all i hi j hj h)
  · exact (sPr_ok _ (sPr_all j hj i hi h)).symm
set_option maxRecDepth 100000 in
theorem sw_sr : ∀ i, i < 13 → Cond.stringRef RX5 (sIx.getD i 0) (sTx.getD i "") ∈ lw_tbl := by decide +kernel
set_option maxHeartbeats 4000000 in
set_option maxRecDepth 100000 in
theorem whole_start {p : Program} {e : Env} {s : State} {m : MethodId} {below : List Frame} {meth : Method} {c : Code} (l : Launch) (hflags : l.flags = flags0) {b L : Nat} {xs : Nat → Int32} (hL : L ≤ 3072) (C0 : lw_At p s m meth c b L xs) : W p l e room_1 s m #[Value.ref b] below meth c s.heap [] 0 0 (lw_Z below #[Value.ref b] s) (entryFrame m ([Value.ref b] : List Value).toArray 4) := by
  obtain ⟨hx, hb, hr, hml, hown, hts, hX, hbl, hlocks, hgv⟩ := id C0
  have hs := flat_of_before _ hgv
  have hA0 : ∀ a : Nat, a < s.heap.size → ¬ (fun q : Nat => s.heap.size ≤ q) a := fun a h => Nat.not_le.mpr h
  obtain ⟨c0, i0, K0⟩ := u_known (C := RX0) (T := TX0) (N := 3) (n := 3) hts (fun x h => (List.mem_filter.mp (iX0 x h)).1) (hts (.instantiable RX0 3) (List.mem_of_getElem? (i := 175) (by decide +kernel)))
  obtain ⟨c1, i1, K1⟩ := u_known (C := RX1) (T := TX1) (N := 6) (n := 6) hts (fun x h => (List.mem_filter.mp (iX1 x h)).1) (hts (.instantiable RX1 6) (List.mem_of_getElem? (i := 334) (by decide +kernel)))
  obtain ⟨c2, i2, K2⟩ := u_known (C := RX2) (T := TX2) (N := 2) (n := 2) hts (fun x h => (List.mem_filter.mp (iX2 x h)).1) (hts (.instantiable RX2 2) (List.mem_of_getElem? (i := 200) (by decide +kernel)))
  obtain ⟨c3, i3, K3⟩ := u_known (C := RX3) (T := TX3) (N := 3) (n := 3) hts (fun x h => (List.mem_filter.mp (iX3 x h)).1) (hts (.instantiable RX3 3) (List.mem_of_getElem? (i := 245) (by decide +kernel)))
  obtain ⟨c4, i4, K4⟩ := u_known (C := RX4) (T := TX4) (N := 2) (n := 2) hts (fun x h => (List.mem_filter.mp (iX4 x h)).1) (hts (.instantiable RX4 2) (List.mem_of_getElem? (i := 279) (by decide +kernel)))
  obtain ⟨c5, i5, K5⟩ := u_known (C := RX5) (T := TX5) (N := 9) (n := 9) hts (fun x h => (List.mem_filter.mp (iX5 x h)).1) (hts (.instantiable RX5 9) (List.mem_of_getElem? (i := 295) (by decide +kernel)))
  obtain ⟨c6, i6, K6⟩ := u_known (C := RX6) (T := TX6) (N := 3) (n := 3) hts (fun x h => (List.mem_filter.mp (iX6 x h)).1) (hts (.instantiable RX6 3) (List.mem_of_getElem? (i := 252) (by decide +kernel)))
  obtain ⟨c7, i7, K7⟩ := u_known (C := RX7) (T := TX7) (N := 8) (n := 8) hts (fun x h => (List.mem_filter.mp (iX7 x h)).1) (hts (.instantiable RX7 8) (List.mem_of_getElem? (i := 104) (by decide +kernel)))
  obtain ⟨c8, i8, K8⟩ := u_known (C := RX8) (T := TX8) (N := 9) (n := 9) hts (fun x h => (List.mem_filter.mp (iX8 x h)).1) (hts (.instantiable RX8 9) (List.mem_of_getElem? (i := 112) (by decide +kernel)))
  obtain ⟨c9, i9, K9⟩ := u_known (C := RX9) (T := TX9) (N := 5) (n := 5) hts (fun x h => (List.mem_filter.mp (iX9 x h)).1) (hts (.instantiable RX9 5) (List.mem_of_getElem? (i := 147) (by decide +kernel)))
  obtain ⟨c10, i10, K10⟩ := u_known (C := RX10) (T := TX10) (N := 9) (n := 9) hts (fun x h => (List.mem_filter.mp (iX10 x h)).1) (hts (.instantiable RX10 9) (List.mem_of_getElem? (i := 96) (by decide +kernel)))
  obtain ⟨c11, i11, K11⟩ := u_known (C := RX11) (T := TX11) (N := 27) (n := 27) hts (fun x h => (List.mem_filter.mp (iX11 x h)).1) (hts (.instantiable RX11 27) (List.mem_of_getElem? (i := 994) (by decide +kernel)))
  obtain ⟨dC, dI, hKc⟩ : ∃ (dC : Nat → ClassId) (dI : Nat → Nat → Nat), ∀ (k : Nat) (q : vw_C), vwCl[k]? = some q → u_Kn s q.1 q.2.1 q.2.2 (dC k) (dI k) := by
    refine ⟨fun k => [c0, c1, c2, c3, c4, c5, c6, c7, c8, c9, c10, c11].getD k 0, fun k => [i0, i1, i2, i3, i4, i5, i6, i7, i8, i9, i10, i11].getD k i0, ?_⟩
    intro k q hq
    match k, hq with
    | 0, hq => cases hq; exact K0
    | 1, hq => cases hq; exact K1
    | 2, hq => cases hq; exact K2
    | 3, hq => cases hq; exact K3
    | 4, hq => cases hq; exact K4
    | 5, hq => cases hq; exact K5
    | 6, hq => cases hq; exact K6
    | 7, hq => cases hq; exact K7
    | 8, hq => cases hq; exact K8
    | 9, hq => cases hq; exact K9
    | 10, hq => cases hq; exact K10
    | 11, hq => cases hq; exact K11
    | k + 12, hq => simp [vwCl] at hq
  obtain ⟨a0, A0⟩ := arrP (ty := .int) (hts (.arrayClass .int) (List.mem_of_getElem? (i := 145) (by decide +kernel))) (fun _ h => h)
  obtain ⟨a1, A1⟩ := arrP (ty := .byte) (hts (.arrayClass .byte) (List.mem_of_getElem? (i := 293) (by decide +kernel))) (fun _ h => h)
  obtain ⟨a2, A2⟩ := arrP (ty := .boolean) (hts (.arrayClass .boolean) (List.mem_of_getElem? (i := 1085) (by decide +kernel))) (fun _ h => h)
  have o3 := hts (.arrayOver (.object RX0)) (List.mem_of_getElem? (i := 110) (by decide +kernel))
  have o4 := hts (.arrayOver (.object RX6)) (List.mem_of_getElem? (i := 251) (by decide +kernel))
  have o5 := hts (.arrayOver (.object RX1)) (List.mem_of_getElem? (i := 333) (by decide +kernel))
  obtain ⟨a3, A3⟩ := arrO o3
  obtain ⟨a4, A4⟩ := arrO o4
  obtain ⟨a5, A5⟩ := arrO o5
  obtain ⟨dA, d0, d1, d2, d3, d4, d5⟩ : ∃ dA : FieldType → ClassId, dA .int = a0 ∧ dA .byte = a1 ∧ dA .boolean = a2 ∧ dA (.object RX0) = a3 ∧ dA (.object RX6) = a4 ∧ dA (.object RX1) = a5 := by
    refine ⟨fun ty => if ty = .int then a0 else if ty = .byte then a1 else if ty = .boolean then a2 else if ty = .object RX0 then a3 else if ty = .object RX6 then a4 else a5, ?_, ?_, ?_, ?_, ?_, ?_⟩
    · rfl
    · dsimp only; rw [if_neg (by decide), if_pos rfl]
    · dsimp only; rw [if_neg (by decide), if_neg (by decide), if_pos rfl]
    · dsimp only; rw [if_neg (by decide), if_neg (by decide), if_neg (by decide), if_pos rfl]
    · dsimp only; rw [if_neg (by decide), if_neg (by decide), if_neg (by decide), if_neg (by decide), if_pos rfl]
    · dsimp only; rw [if_neg (by decide), if_neg (by decide), if_neg (by decide), if_neg (by decide), if_neg (by decide)]
  have hK : va_K (dC, dI) vwCl (tyL dA) s := by
    refine ⟨hKc, fun k q hk => ?_⟩
    unfold tyL at hk
    rw [d0, d1, d2, d3, d4, d5] at hk
    match k, hk with
    | 0, hk => cases hk; exact A0
    | 1, hk => cases hk; exact A1
    | 2, hk => cases hk; exact A2
    | 3, hk => cases hk; exact A3
    | 4, hk => cases hk; exact A4
    | 5, hk => cases hk; exact A5
    | k + 6, hk => simp at hk
  obtain ⟨adK, adV, hSt, hSe⟩ := vk_Sof (args := #[Value.ref b]) (s := s) (N := 13) (tm := sTm) (len := sLn) (byt := sBy) (A := fun q : Nat => s.heap.size ≤ q) (by decide +kernel) (fun i hi => hs _ (sw_ex i hi)) (fun i hi => hs _ (sw_co i hi)) (fun i hi => hs _ (sw_ar i hi)) (fun i hi => hs _ (sw_le i hi)) (fun i hi j hj => hs _ (sw_el i hi j hj)) (fun i j hi hj hij => (sw_ne i hi j hj hij).imp (hs _) (hs _)) hA0
  have hZ1 : va_Z "java/lang/String" "COMPACT_STRINGS" "Z" (.int 1) (fun q : Nat => s.heap.size ≤ q) s s.heap := va_Zof (hts (.laysStatic "java/lang/String" "COMPACT_STRINGS" "Z") (List.mem_of_getElem? (i := 485) (by decide +kernel))) (hts (.initialized "java/lang/String") (List.mem_of_getElem? (i := 90) (by decide +kernel))) (va_eqt (hs (.eq (.static "java/lang/String" "COMPACT_STRINGS" "Z") (.int 1)) (by decide +kernel))) hA0
  have hZ2 := va_Zqof (A := fun q : Nat => s.heap.size ≤ q) (hts (.laysStatic "jdk/internal/util/Preconditions" "SIOOBE_FORMATTER" "Ljava/util/function/BiFunction;") (List.mem_of_getElem? (i := 501) (by decide +kernel))) (hts (.initialized "jdk/internal/util/Preconditions") (List.mem_of_getElem? (i := 92) (by decide +kernel))) (hs (.isRef (.static "jdk/internal/util/Preconditions" "SIOOBE_FORMATTER" "Ljava/util/function/BiFunction;")) (by decide +kernel)) hA0
  obtain ⟨t, hZ3⟩ : ∃ t : Nat, va_Z "jdk/internal/util/Preconditions" "SIOOBE_FORMATTER" "Ljava/util/function/BiFunction;" .null (fun q : Nat => s.heap.size ≤ q) s s.heap ∨ va_Z "jdk/internal/util/Preconditions" "SIOOBE_FORMATTER" "Ljava/util/function/BiFunction;" (.ref t) (fun q : Nat => s.heap.size ≤ q) s s.heap := by
    rcases hZ2 with h | ⟨t, h⟩
    · exact ⟨0, Or.inl h⟩
    · exact ⟨t, Or.inr h⟩
  obtain ⟨ad, e1, e2, e3, e4⟩ : ∃ ad : Nat → Nat, (∀ i, i < 13 → ad (10000 + i) = adK i) ∧ (∀ i, i < 13 → ad (20000 + i) = adV i) ∧ ad 30000 = t ∧ ad 40000 = b := by
    refine ⟨fun k => if k = 40000 then b else if k = 30000 then t else if 20000 ≤ k then adV (k - 20000) else adK (k - 10000), fun i hi => ?_, fun i hi => ?_, ?_, ?_⟩
    · show (if 10000 + i = 40000 then b else if 10000 + i = 30000 then t else if 20000 ≤ 10000 + i then adV (10000 + i - 20000) else adK (10000 + i - 10000)) = _
      rw [if_neg (by omega), if_neg (by omega), if_neg (by omega), Nat.add_sub_cancel_left]
    · show (if 20000 + i = 40000 then b else if 20000 + i = 30000 then t else if 20000 ≤ 20000 + i then adV (20000 + i - 20000) else adK (20000 + i - 10000)) = _
      rw [if_neg (by omega), if_neg (by omega), if_pos (by omega), Nat.add_sub_cancel_left]
    · show (if 30000 = 40000 then b else if 30000 = 30000 then t else _) = t
      rw [if_neg (by omega), if_pos rfl]
    · show (if 40000 = 40000 then b else _) = b
      rw [if_pos rfl]
  have hSW : SW ad (fun q : Nat => s.heap.size ≤ q) s s.heap := by
    refine ⟨fun x hx => ?_, fun i hi => ?_, ?_, hZ1, fun Cn hCn => ?_, ?_⟩
    · have hn := (List.mem_filter.mp hx).2
      have hb := hts x (List.mem_filter.mp hx).1
      refine va_Nw.of ?_ hb
      cases x <;> first | rfl | exact absurd hn (by simp [isNest])
    · rw [e1 i hi]
      exact vk_R.of (hts _ (sw_sr i hi)) (hSe i hi)
    · refine ⟨fun i hi => ?_, fun i j hi hj h => ?_⟩
      · have := hSt.1 i hi
        simp only [e1 i hi, e2 i hi]
        exact this
      · have h' : ad (10000 + i) = ad (10000 + j) := h
        rw [e1 i hi, e1 j hj] at h'
        exact hSt.2 i j hi hj h'
    · have h3 : Cn = RX0 ∨ Cn = RX6 ∨ Cn = RX1 := by simpa using hCn
      rcases h3 with rfl | rfl | rfl
      · exact va_AO.of o3
      · exact va_AO.of o4
      · exact va_AO.of o5
    · rw [e3]; exact hZ3
  have C : jcx p s m #[Value.ref b] meth c cL_law 4 RL RETC (dC, dI) dA (fun q : Nat => s.heap.size ≤ q) (fun ad' => ∀ k, 10000 ≤ k → ad' k = ad k) := ⟨hx, hb, hml, hown, fun x h => hts x (List.mem_filter.mp h).1, hK, hr, hlocks, fun q h => h, fun ad' h => hSW.ad h⟩
  have J := law_ok (below := below) (e := e) (l := l) rfl C ⟨hX, fun ad' h => (h 40000 (by omega)).trans e4⟩ hbl (fun w1 ad1 ad2 _ h1 h2 k hk => (h2 k (Or.inr hk)).trans (h1 k hk)) 1000000 (law_pure L xs hL)
  have hP : va_P (dC, dI) vwCl (wi dA ad []) s.heap := fun k q h => by simp [wi] at h
  have hD : va_D (fun q : Nat => s.heap.size ≤ q) (wi dA ad []) := ⟨fun i j p q h => by simp [wi] at h, fun k q h => by simp [wi] at h⟩
  have hl := lv_entry ([.ref b]) (n := 4) (Nat.le_of_ble_eq_true rfl)
  rw [lg_entry_eq]
  refine J ad s.heap [] _ (fun _ _ => rfl) hP hD va_S.rf ?_
  show lv_has _ 4 [(0, Value.ref (ad 40000))]
  rw [e4]
  exact hl
