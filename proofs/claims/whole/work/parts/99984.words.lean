theorem goodIn_rr (ws : List Cond) (ps : List Nat) (hp : ws = ps.filterMap (fun i => lw_tbl[i]?)) (h : ws.all goodWord = true) : ∀ x ∈ ws, x ∈ lw_tbl ∧ goodWord x = true := by
  intro x hx
  have h1 := List.all_eq_true.mp h x hx
  rw [hp] at hx
  obtain ⟨i, -, hi⟩ := List.mem_filterMap.mp hx
  exact ⟨List.mem_of_getElem? hi, h1⟩
theorem k_0 : Cond.selects RX5 yX5_advance yX5_advance ∈ GT := mGT 0 (by decide +kernel) (by decide)
theorem k_1 : Cond.selects RX5 yX5_readWord yX5_readWord ∈ GT := mGT 1 (by decide +kernel) (by decide)
theorem k_2 : Cond.selects RX5 yX5_readNumber yX5_readNumber ∈ GT := mGT 2 (by decide +kernel) (by decide)
theorem k_3 : Cond.selects RX5 yX5_doLine yX5_doLine ∈ GT := mGT 3 (by decide +kernel) (by decide)
theorem k_4 : Cond.selects RX5 yX5_lineHere yX5_lineHere ∈ GT := mGT 4 (by decide +kernel) (by decide)
theorem k_5 : Cond.selects RX5 yX5_spells yX5_spells ∈ GT := mGT 5 (by decide +kernel) (by decide)
theorem k_6 : Cond.selects RX5 yX5_fail yX5_fail ∈ GT := mGT 6 (by decide +kernel) (by decide)
theorem k_7 : Cond.selects RX5 yX5_takeArgument yX5_takeArgument ∈ GT := mGT 7 (by decide +kernel) (by decide)
theorem k_8 : Cond.selects RX5 yX5_takeNumber yX5_takeNumber ∈ GT := mGT 8 (by decide +kernel) (by decide)
theorem k_9 : Cond.selects RX5 yX5_putItem yX5_putItem ∈ GT := mGT 9 (by decide +kernel) (by decide)
theorem k_10 : Cond.selects RX5 yX5_act yX5_act ∈ GT := mGT 10 (by decide +kernel) (by decide)
theorem k_11 : Cond.selects RX9 yX9_endRun yX9_endRun ∈ GT := mGT 11 (by decide +kernel) (by decide)
theorem k_12 : Cond.selects RX8 yX8_addKey yX8_addKey ∈ GT := mGT 12 (by decide +kernel) (by decide)
theorem k_13 : Cond.selects RX8 yX8_link yX8_link ∈ GT := mGT 13 (by decide +kernel) (by decide)
theorem k_14 : Cond.selects RX8 yX8_climb yX8_climb ∈ GT := mGT 14 (by decide +kernel) (by decide)
theorem k_15 : Cond.selects RX8 yX8_isNode yX8_isNode ∈ GT := mGT 15 (by decide +kernel) (by decide)
theorem k_16 : Cond.selects RX8 yX8_keyOf yX8_keyOf ∈ GT := mGT 16 (by decide +kernel) (by decide)
theorem k_17 : Cond.selects RX7 yX7_lightest yX7_lightest ∈ GT := mGT 17 (by decide +kernel) (by decide)
theorem k_18 : Cond.selects RX7 yX7_takeIfCheaper yX7_takeIfCheaper ∈ GT := mGT 18 (by decide +kernel) (by decide)
theorem k_19 : Cond.selects RX11 yX11_empties yX11_empties ∈ GT := mGT 19 (by decide +kernel) (by decide)
theorem k_20 : Cond.selects RX11 yX11_refusesPut yX11_refusesPut ∈ GT := mGT 20 (by decide +kernel) (by decide)
theorem k_21 : Cond.selects RX11 yX11_placeOf yX11_placeOf ∈ GT := mGT 21 (by decide +kernel) (by decide)
theorem k_22 : Cond.selects RX11 yX11_below yX11_below ∈ GT := mGT 22 (by decide +kernel) (by decide)
theorem k_23 : Cond.selects RX11 yX11_many yX11_many ∈ GT := mGT 23 (by decide +kernel) (by decide)
theorem k_24 : Cond.selects RX11 yX11_keyAt yX11_keyAt ∈ GT := mGT 24 (by decide +kernel) (by decide)
theorem k_25 : Cond.selects RX11 yX11_total yX11_total ∈ GT := mGT 25 (by decide +kernel) (by decide)
theorem k_26 : Cond.selects RX11 yX11_begins yX11_begins ∈ GT := mGT 26 (by decide +kernel) (by decide)
theorem k_27 : Cond.selects RX11 yX11_keeps yX11_keeps ∈ GT := mGT 27 (by decide +kernel) (by decide)
theorem k_28 : Cond.selects RX11 yX11_copies yX11_copies ∈ GT := mGT 28 (by decide +kernel) (by decide)
theorem k_29 : Cond.selects RX11 yX11_puts yX11_puts ∈ GT := mGT 29 (by decide +kernel) (by decide)
theorem k_30 : Cond.selects RX11 yX11_points yX11_points ∈ GT := mGT 30 (by decide +kernel) (by decide)
theorem k_31 : Cond.selects RX11 yX11_drops yX11_drops ∈ GT := mGT 31 (by decide +kernel) (by decide)
theorem k_32 : Cond.selects RX11 yX11_refusesCut yX11_refusesCut ∈ GT := mGT 32 (by decide +kernel) (by decide)
theorem k_33 : Cond.selects RX11 yX11_areTwo yX11_areTwo ∈ GT := mGT 33 (by decide +kernel) (by decide)
theorem k_34 : Cond.selects RX11 yX11_counted yX11_counted ∈ GT := mGT 34 (by decide +kernel) (by decide)
theorem k_35 : Cond.selects RX11 yX11_goOver yX11_goOver ∈ GT := mGT 35 (by decide +kernel) (by decide)
theorem k_36 : Cond.selects RX11 yX11_markAt yX11_markAt ∈ GT := mGT 36 (by decide +kernel) (by decide)
theorem k_37 : Cond.selects RX11 yX11_refusesJoin yX11_refusesJoin ∈ GT := mGT 37 (by decide +kernel) (by decide)
theorem k_38 : Cond.selects RX11 yX11_refusesMelt yX11_refusesMelt ∈ GT := mGT 38 (by decide +kernel) (by decide)
theorem k_39 : Cond.selects RX11 yX11_twins yX11_twins ∈ GT := mGT 39 (by decide +kernel) (by decide)
theorem k_40 : Cond.selects RX11 yX11_laysRuns yX11_laysRuns ∈ GT := mGT 40 (by decide +kernel) (by decide)
theorem k_41 : Cond.selects RX11 yX11_goes yX11_goes ∈ GT := mGT 41 (by decide +kernel) (by decide)
theorem k_42 : Cond.selects RX11 yX11_endsRun yX11_endsRun ∈ GT := mGT 42 (by decide +kernel) (by decide)
theorem k_43 : Cond.selects RX11 yX11_refusesShift yX11_refusesShift ∈ GT := mGT 43 (by decide +kernel) (by decide)
theorem k_44 : Cond.selects RX11 yX11_shifts yX11_shifts ∈ GT := mGT 44 (by decide +kernel) (by decide)
theorem k_45 : Cond.selects RX11 yX11_finger yX11_finger ∈ GT := mGT 45 (by decide +kernel) (by decide)
theorem k_46 : Cond.selects RX11 yX11_refusesMove yX11_refusesMove ∈ GT := mGT 46 (by decide +kernel) (by decide)
theorem k_47 : Cond.selects RX11 yX11_refusesMark yX11_refusesMark ∈ GT := mGT 47 (by decide +kernel) (by decide)
theorem k_48 : Cond.selects RX11 yX11_marked yX11_marked ∈ GT := mGT 48 (by decide +kernel) (by decide)
theorem k_49 : Cond.selects RX11 yX11_laysRow yX11_laysRow ∈ GT := mGT 49 (by decide +kernel) (by decide)
theorem k_50 : Cond.selects RX11 yX11_farOf yX11_farOf ∈ GT := mGT 50 (by decide +kernel) (by decide)
theorem k_51 : Cond.selects RX11 yX11_depth yX11_depth ∈ GT := mGT 51 (by decide +kernel) (by decide)
theorem k_52 : Cond.selects RX11 yX11_goesTo yX11_goesTo ∈ GT := mGT 52 (by decide +kernel) (by decide)
theorem k_53 : Cond.selects RX11 yX11_ahead yX11_ahead ∈ GT := mGT 53 (by decide +kernel) (by decide)
theorem k_54 : Cond.selects RX11 yX11_high yX11_high ∈ GT := mGT 54 (by decide +kernel) (by decide)
theorem k_55 : Cond.selects RX11 yX11_summed yX11_summed ∈ GT := mGT 55 (by decide +kernel) (by decide)
theorem k_56 : Cond.selects RX11 yX11_keyOf yX11_keyOf ∈ GT := mGT 56 (by decide +kernel) (by decide)
theorem k_57 : Cond.selects RX11 yX11_unlike yX11_unlike ∈ GT := mGT 57 (by decide +kernel) (by decide)
theorem k_58 : Cond.selects RX11 yX11_huffman yX11_huffman ∈ GT := mGT 58 (by decide +kernel) (by decide)
theorem k_59 : Cond.selects RX11 yX11_fewest yX11_fewest ∈ GT := mGT 59 (by decide +kernel) (by decide)
theorem k_60 : Cond.selects RX11 yX11_tells yX11_tells ∈ GT := mGT 60 (by decide +kernel) (by decide)
theorem k_61 : Cond.selects RX11 yX11_number yX11_number ∈ GT := mGT 61 (by decide +kernel) (by decide)
theorem k_62 : Cond.selects RX11 yX11_takes yX11_takes ∈ GT := mGT 62 (by decide +kernel) (by decide)
theorem k_63 : Cond.selects RX11 yX11_byteAt yX11_byteAt ∈ GT := mGT 63 (by decide +kernel) (by decide)
theorem k_64 : Cond.selects RX11 yX11_isGood yX11_isGood ∈ GT := mGT 64 (by decide +kernel) (by decide)
theorem k_65 : Cond.selects RX11 yX11_readsLine yX11_readsLine ∈ GT := mGT 65 (by decide +kernel) (by decide)
theorem k_66 : Cond.selects RX11 yX11_hasWord yX11_hasWord ∈ GT := mGT 66 (by decide +kernel) (by decide)
theorem k_67 : Cond.selects RX11 yX11_readsSet yX11_readsSet ∈ GT := mGT 67 (by decide +kernel) (by decide)
theorem k_68 : Cond.selects RX11 yX11_setNumber yX11_setNumber ∈ GT := mGT 68 (by decide +kernel) (by decide)
theorem k_69 : Cond.selects RX11 yX11_numeral yX11_numeral ∈ GT := mGT 69 (by decide +kernel) (by decide)
theorem k_70 : Cond.selects RX11 yX11_fails yX11_fails ∈ GT := mGT 70 (by decide +kernel) (by decide)
theorem k_71 : Cond.selects RX11 yX11_readsKeys yX11_readsKeys ∈ GT := mGT 71 (by decide +kernel) (by decide)
theorem k_72 : Cond.selects RX11 yX11_hasSign yX11_hasSign ∈ GT := mGT 72 (by decide +kernel) (by decide)
theorem k_73 : Cond.selects RX11 yX11_ends yX11_ends ∈ GT := mGT 73 (by decide +kernel) (by decide)
theorem k_74 : Cond.selects RX11 yX11_readsAct yX11_readsAct ∈ GT := mGT 74 (by decide +kernel) (by decide)
theorem k_76 : Cond.initialized RX10 ∈ GT := mGT 76 (by decide +kernel) (by decide)
theorem k_77 : Cond.initialized RX7 ∈ GT := mGT 77 (by decide +kernel) (by decide)
theorem k_78 : Cond.initialized RX8 ∈ GT := mGT 78 (by decide +kernel) (by decide)
theorem k_79 : Cond.initialized RX9 ∈ GT := mGT 79 (by decide +kernel) (by decide)
theorem k_80 : Cond.initialized RX0 ∈ GT := mGT 80 (by decide +kernel) (by decide)
theorem k_81 : Cond.initialized RX2 ∈ GT := mGT 81 (by decide +kernel) (by decide)
theorem k_82 : Cond.initialized RX3 ∈ GT := mGT 82 (by decide +kernel) (by decide)
theorem k_83 : Cond.initialized RX6 ∈ GT := mGT 83 (by decide +kernel) (by decide)
theorem k_84 : Cond.initialized RX4 ∈ GT := mGT 84 (by decide +kernel) (by decide)
theorem k_85 : Cond.initialized RX5 ∈ GT := mGT 85 (by decide +kernel) (by decide)
theorem k_86 : Cond.initialized RX1 ∈ GT := mGT 86 (by decide +kernel) (by decide)
theorem k_87 : Cond.initialized RX11 ∈ GT := mGT 87 (by decide +kernel) (by decide)
theorem k_88 : Cond.initialized RJ9 ∈ GT := mGT 88 (by decide +kernel) (by decide)
theorem k_89 : Cond.initialized RJ10 ∈ GT := mGT 89 (by decide +kernel) (by decide)
theorem k_94 : Cond.initialized RJ6 ∈ GT := mGT 94 (by decide +kernel) (by decide)
theorem k_98 : Cond.instanceMethod yX10_init ∈ GT := mGT 98 (by decide +kernel) (by decide)
theorem k_99 : Cond.code yX10_init cX10_init 2 none ∈ GT := mGT 99 (by decide +kernel) (by decide)
theorem k_100 : Cond.methodLink RX10 1 Lib.objectInit ∈ GT := mGT 100 (by decide +kernel) (by decide)
theorem k_101 : Cond.instanceMethod Lib.objectInit ∈ GT := mGT 101 (by decide +kernel) (by decide)
theorem k_102 : Cond.code Lib.objectInit ⟨#[0xb1]⟩ 1 none ∈ GT := mGT 102 (by decide +kernel) (by decide)
theorem k_103 : Cond.classLink RX10 7 RX7 ∈ GT := mGT 103 (by decide +kernel) (by decide)
theorem k_104 : Cond.instantiable RX7 8 ∈ GT := mGT 104 (by decide +kernel) (by decide)
theorem k_105 : Cond.methodLink RX10 9 yX7_init ∈ GT := mGT 105 (by decide +kernel) (by decide)
theorem k_106 : Cond.instanceMethod yX7_init ∈ GT := mGT 106 (by decide +kernel) (by decide)
theorem k_107 : Cond.code yX7_init cX7_init 2 none ∈ GT := mGT 107 (by decide +kernel) (by decide)
theorem k_108 : Cond.methodLink RX7 3 Lib.objectInit ∈ GT := mGT 108 (by decide +kernel) (by decide)
theorem k_109 : Cond.classLink RX7 9 RX0 ∈ GT := mGT 109 (by decide +kernel) (by decide)
theorem k_111 : Cond.classLink RX7 17 RX8 ∈ GT := mGT 111 (by decide +kernel) (by decide)
theorem k_112 : Cond.instantiable RX8 9 ∈ GT := mGT 112 (by decide +kernel) (by decide)
theorem n_113 : Cond.methodLinkNest RX7 19 yX8_init "MeltingHeaps" ∈ NT := mNT 113 (by decide +kernel) (by decide)
theorem k_114 : Cond.instanceMethod yX8_init ∈ GT := mGT 114 (by decide +kernel) (by decide)
theorem k_115 : Cond.code yX8_init cX8_init 1 none ∈ GT := mGT 115 (by decide +kernel) (by decide)
theorem k_116 : Cond.methodLink RX8 3 Lib.objectInit ∈ GT := mGT 116 (by decide +kernel) (by decide)
theorem k_117 : Cond.fieldLink RX8 11 "MeltingHeaps$Tree" "keys" "[I" ∈ GT := mGT 117 (by decide +kernel) (by decide)
theorem k_118 : Cond.fieldLink RX8 15 "MeltingHeaps$Tree" "above" "[I" ∈ GT := mGT 118 (by decide +kernel) (by decide)
theorem k_119 : Cond.fieldLink RX8 18 "MeltingHeaps$Tree" "left" "[I" ∈ GT := mGT 119 (by decide +kernel) (by decide)
theorem k_120 : Cond.fieldLink RX8 21 "MeltingHeaps$Tree" "right" "[I" ∈ GT := mGT 120 (by decide +kernel) (by decide)
theorem k_121 : Cond.fieldLink RX8 24 "MeltingHeaps$Tree" "depth" "[I" ∈ GT := mGT 121 (by decide +kernel) (by decide)
theorem k_122 : Cond.fieldLink RX8 27 "MeltingHeaps$Tree" "under" "[I" ∈ GT := mGT 122 (by decide +kernel) (by decide)
theorem k_123 : Cond.fieldLink RX8 30 "MeltingHeaps$Tree" "way" "[I" ∈ GT := mGT 123 (by decide +kernel) (by decide)
theorem k_124 : Cond.fieldLink RX8 33 "MeltingHeaps$Tree" "size" "I" ∈ GT := mGT 124 (by decide +kernel) (by decide)
theorem k_125 : Cond.fieldLink RX8 37 "MeltingHeaps$Tree" "root" "I" ∈ GT := mGT 125 (by decide +kernel) (by decide)
theorem k_145 : Cond.arrayClass .int ∈ GT := mGT 145 (by decide +kernel) (by decide)
theorem k_146 : Cond.classLink RX7 24 RX9 ∈ GT := mGT 146 (by decide +kernel) (by decide)
theorem k_147 : Cond.instantiable RX9 5 ∈ GT := mGT 147 (by decide +kernel) (by decide)
theorem n_148 : Cond.methodLinkNest RX7 26 yX9_init "MeltingHeaps" ∈ NT := mNT 148 (by decide +kernel) (by decide)
theorem k_149 : Cond.instanceMethod yX9_init ∈ GT := mGT 149 (by decide +kernel) (by decide)
theorem k_150 : Cond.code yX9_init cX9_init 1 none ∈ GT := mGT 150 (by decide +kernel) (by decide)
theorem k_151 : Cond.methodLink RX9 1 Lib.objectInit ∈ GT := mGT 151 (by decide +kernel) (by decide)
theorem k_152 : Cond.fieldLink RX9 7 "MeltingHeaps$Weave" "runs" "I" ∈ GT := mGT 152 (by decide +kernel) (by decide)
theorem n_153 : Cond.fieldLinkNest RX10 230 "MeltingHeaps$Weave" "runs" "I" "MeltingHeaps" ∈ NT := mNT 153 (by decide +kernel) (by decide)
theorem k_154 : Cond.fieldLink RX9 13 "MeltingHeaps$Weave" "twins" "I" ∈ GT := mGT 154 (by decide +kernel) (by decide)
theorem n_155 : Cond.fieldLinkNest RX10 235 "MeltingHeaps$Weave" "twins" "I" "MeltingHeaps" ∈ NT := mNT 155 (by decide +kernel) (by decide)
theorem k_156 : Cond.fieldLink RX9 16 "MeltingHeaps$Weave" "cost" "I" ∈ GT := mGT 156 (by decide +kernel) (by decide)
theorem n_157 : Cond.fieldLinkNest RX7 116 "MeltingHeaps$Weave" "cost" "I" "MeltingHeaps" ∈ NT := mNT 157 (by decide +kernel) (by decide)
theorem n_158 : Cond.fieldLinkNest RX10 238 "MeltingHeaps$Weave" "cost" "I" "MeltingHeaps" ∈ NT := mNT 158 (by decide +kernel) (by decide)
theorem k_159 : Cond.fieldLink RX9 19 "MeltingHeaps$Weave" "longest" "I" ∈ GT := mGT 159 (by decide +kernel) (by decide)
theorem n_160 : Cond.fieldLinkNest RX10 244 "MeltingHeaps$Weave" "longest" "I" "MeltingHeaps" ∈ NT := mNT 160 (by decide +kernel) (by decide)
theorem k_161 : Cond.fieldLink RX9 22 "MeltingHeaps$Weave" "keys" "I" ∈ GT := mGT 161 (by decide +kernel) (by decide)
theorem n_162 : Cond.fieldLinkNest RX7 109 "MeltingHeaps$Weave" "keys" "I" "MeltingHeaps" ∈ NT := mNT 162 (by decide +kernel) (by decide)
theorem n_163 : Cond.fieldLinkNest RX10 241 "MeltingHeaps$Weave" "keys" "I" "MeltingHeaps" ∈ NT := mNT 163 (by decide +kernel) (by decide)
theorem k_175 : Cond.instantiable RX0 3 ∈ GT := mGT 175 (by decide +kernel) (by decide)
theorem n_176 : Cond.methodLinkNest RX7 45 yX0_init "MeltingHeaps" ∈ NT := mNT 176 (by decide +kernel) (by decide)
theorem k_177 : Cond.instanceMethod yX0_init ∈ GT := mGT 177 (by decide +kernel) (by decide)
theorem k_178 : Cond.code yX0_init cX0_init 1 none ∈ GT := mGT 178 (by decide +kernel) (by decide)
theorem k_179 : Cond.methodLink RX0 3 Lib.objectInit ∈ GT := mGT 179 (by decide +kernel) (by decide)
theorem k_180 : Cond.fieldLink RX0 9 "MeltingHeaps$Heap" "entries" "[I" ∈ GT := mGT 180 (by decide +kernel) (by decide)
theorem n_181 : Cond.fieldLinkNest RX6 39 "MeltingHeaps$Heap" "entries" "[I" "MeltingHeaps" ∈ NT := mNT 181 (by decide +kernel) (by decide)
theorem k_182 : Cond.fieldLink RX0 15 "MeltingHeaps$Heap" "size" "I" ∈ GT := mGT 182 (by decide +kernel) (by decide)
theorem n_183 : Cond.fieldLinkNest RX6 27 "MeltingHeaps$Heap" "size" "I" "MeltingHeaps" ∈ NT := mNT 183 (by decide +kernel) (by decide)
theorem n_184 : Cond.fieldLinkNest RX8 40 "MeltingHeaps$Heap" "size" "I" "MeltingHeaps" ∈ NT := mNT 184 (by decide +kernel) (by decide)
theorem n_185 : Cond.fieldLinkNest RX9 25 "MeltingHeaps$Heap" "size" "I" "MeltingHeaps" ∈ NT := mNT 185 (by decide +kernel) (by decide)
theorem n_186 : Cond.fieldLinkNest RX7 65 "MeltingHeaps$Heap" "size" "I" "MeltingHeaps" ∈ NT := mNT 186 (by decide +kernel) (by decide)
theorem n_187 : Cond.fieldLinkNest RX10 142 "MeltingHeaps$Heap" "size" "I" "MeltingHeaps" ∈ NT := mNT 187 (by decide +kernel) (by decide)
theorem k_188 : Cond.fieldLink RX0 19 "MeltingHeaps$Heap" "finger" "I" ∈ GT := mGT 188 (by decide +kernel) (by decide)
theorem n_189 : Cond.fieldLinkNest RX6 46 "MeltingHeaps$Heap" "finger" "I" "MeltingHeaps" ∈ NT := mNT 189 (by decide +kernel) (by decide)
theorem n_190 : Cond.fieldLinkNest RX10 165 "MeltingHeaps$Heap" "finger" "I" "MeltingHeaps" ∈ NT := mNT 190 (by decide +kernel) (by decide)
theorem n_191 : Cond.fieldLinkNest RX7 139 "MeltingHeaps$Heap" "finger" "I" "MeltingHeaps" ∈ NT := mNT 191 (by decide +kernel) (by decide)
theorem k_199 : Cond.classLink RX7 46 RX2 ∈ GT := mGT 199 (by decide +kernel) (by decide)
theorem k_200 : Cond.instantiable RX2 2 ∈ GT := mGT 200 (by decide +kernel) (by decide)
theorem k_201 : Cond.methodLink RX7 48 yX2_init ∈ GT := mGT 201 (by decide +kernel) (by decide)
theorem k_202 : Cond.instanceMethod yX2_init ∈ GT := mGT 202 (by decide +kernel) (by decide)
theorem k_203 : Cond.code yX2_init cX2_init 2 none ∈ GT := mGT 203 (by decide +kernel) (by decide)
theorem k_204 : Cond.methodLink RX2 3 Lib.objectInit ∈ GT := mGT 204 (by decide +kernel) (by decide)
theorem k_205 : Cond.fieldLink RX2 15 "MeltingHeaps$Parade" "heaps" "[LMeltingHeaps$Heap;" ∈ GT := mGT 205 (by decide +kernel) (by decide)
theorem k_206 : Cond.fieldLink RX2 9 "MeltingHeaps$Parade" "heads" "[I" ∈ GT := mGT 206 (by decide +kernel) (by decide)
theorem k_212 : Cond.fieldLink RX7 11 "MeltingHeaps$Store" "heaps" "[LMeltingHeaps$Heap;" ∈ GT := mGT 212 (by decide +kernel) (by decide)
theorem n_213 : Cond.fieldLinkNest RX6 21 "MeltingHeaps$Store" "heaps" "[LMeltingHeaps$Heap;" "MeltingHeaps" ∈ NT := mNT 213 (by decide +kernel) (by decide)
theorem n_214 : Cond.fieldLinkNest RX10 210 "MeltingHeaps$Store" "heaps" "[LMeltingHeaps$Heap;" "MeltingHeaps" ∈ NT := mNT 214 (by decide +kernel) (by decide)
theorem k_215 : Cond.fieldLink RX7 20 "MeltingHeaps$Store" "tree" "LMeltingHeaps$Tree;" ∈ GT := mGT 215 (by decide +kernel) (by decide)
theorem n_216 : Cond.fieldLinkNest RX10 283 "MeltingHeaps$Store" "tree" "LMeltingHeaps$Tree;" "MeltingHeaps" ∈ NT := mNT 216 (by decide +kernel) (by decide)
theorem k_217 : Cond.fieldLink RX7 27 "MeltingHeaps$Store" "weave" "LMeltingHeaps$Weave;" ∈ GT := mGT 217 (by decide +kernel) (by decide)
theorem k_218 : Cond.fieldLink RX7 51 "MeltingHeaps$Store" "parade" "LMeltingHeaps$Parade;" ∈ GT := mGT 218 (by decide +kernel) (by decide)
theorem n_219 : Cond.fieldLinkNest RX10 267 "MeltingHeaps$Store" "parade" "LMeltingHeaps$Parade;" "MeltingHeaps" ∈ NT := mNT 219 (by decide +kernel) (by decide)
theorem k_220 : Cond.fieldLink RX7 31 "MeltingHeaps$Store" "weights" "[I" ∈ GT := mGT 220 (by decide +kernel) (by decide)
theorem k_221 : Cond.fieldLink RX7 35 "MeltingHeaps$Store" "cheapestOne" "I" ∈ GT := mGT 221 (by decide +kernel) (by decide)
theorem n_222 : Cond.fieldLinkNest RX10 258 "MeltingHeaps$Store" "cheapestOne" "I" "MeltingHeaps" ∈ NT := mNT 222 (by decide +kernel) (by decide)
theorem k_223 : Cond.fieldLink RX7 39 "MeltingHeaps$Store" "cheapestOther" "I" ∈ GT := mGT 223 (by decide +kernel) (by decide)
theorem n_224 : Cond.fieldLinkNest RX10 261 "MeltingHeaps$Store" "cheapestOther" "I" "MeltingHeaps" ∈ NT := mNT 224 (by decide +kernel) (by decide)
theorem k_225 : Cond.fieldLink RX7 42 "MeltingHeaps$Store" "cheapestCost" "I" ∈ GT := mGT 225 (by decide +kernel) (by decide)
theorem n_226 : Cond.fieldLinkNest RX10 264 "MeltingHeaps$Store" "cheapestCost" "I" "MeltingHeaps" ∈ NT := mNT 226 (by decide +kernel) (by decide)
theorem k_244 : Cond.classLink RX10 16 RX3 ∈ GT := mGT 244 (by decide +kernel) (by decide)
theorem k_245 : Cond.instantiable RX3 3 ∈ GT := mGT 245 (by decide +kernel) (by decide)
theorem k_246 : Cond.methodLink RX10 18 yX3_init ∈ GT := mGT 246 (by decide +kernel) (by decide)
theorem k_247 : Cond.instanceMethod yX3_init ∈ GT := mGT 247 (by decide +kernel) (by decide)
theorem k_248 : Cond.code yX3_init cX3_init 2 none ∈ GT := mGT 248 (by decide +kernel) (by decide)
theorem k_249 : Cond.methodLink RX3 3 Lib.objectInit ∈ GT := mGT 249 (by decide +kernel) (by decide)
theorem k_250 : Cond.classLink RX3 11 RX6 ∈ GT := mGT 250 (by decide +kernel) (by decide)
theorem k_252 : Cond.instantiable RX6 3 ∈ GT := mGT 252 (by decide +kernel) (by decide)
theorem n_253 : Cond.methodLinkNest RX3 24 yX6_init "MeltingHeaps" ∈ NT := mNT 253 (by decide +kernel) (by decide)
theorem k_254 : Cond.instanceMethod yX6_init ∈ GT := mGT 254 (by decide +kernel) (by decide)
theorem k_255 : Cond.code yX6_init cX6_init 1 none ∈ GT := mGT 255 (by decide +kernel) (by decide)
theorem k_256 : Cond.methodLink RX6 3 Lib.objectInit ∈ GT := mGT 256 (by decide +kernel) (by decide)
theorem k_257 : Cond.fieldLink RX6 9 "MeltingHeaps$Snapshot" "entries" "[I" ∈ GT := mGT 257 (by decide +kernel) (by decide)
theorem k_258 : Cond.fieldLink RX6 15 "MeltingHeaps$Snapshot" "sizes" "[I" ∈ GT := mGT 258 (by decide +kernel) (by decide)
theorem k_259 : Cond.fieldLink RX6 18 "MeltingHeaps$Snapshot" "fingers" "[I" ∈ GT := mGT 259 (by decide +kernel) (by decide)
theorem k_267 : Cond.fieldLink RX3 13 "MeltingHeaps$Past" "rows" "[LMeltingHeaps$Snapshot;" ∈ GT := mGT 267 (by decide +kernel) (by decide)
theorem k_268 : Cond.fieldLink RX3 17 "MeltingHeaps$Past" "next" "I" ∈ GT := mGT 268 (by decide +kernel) (by decide)
theorem k_269 : Cond.fieldLink RX3 21 "MeltingHeaps$Past" "held" "I" ∈ GT := mGT 269 (by decide +kernel) (by decide)
theorem n_270 : Cond.fieldLinkNest RX10 132 "MeltingHeaps$Past" "held" "I" "MeltingHeaps" ∈ NT := mNT 270 (by decide +kernel) (by decide)
theorem k_278 : Cond.classLink RX10 23 RX4 ∈ GT := mGT 278 (by decide +kernel) (by decide)
theorem k_279 : Cond.instantiable RX4 2 ∈ GT := mGT 279 (by decide +kernel) (by decide)
theorem k_280 : Cond.methodLink RX10 25 yX4_init ∈ GT := mGT 280 (by decide +kernel) (by decide)
theorem k_281 : Cond.instanceMethod yX4_init ∈ GT := mGT 281 (by decide +kernel) (by decide)
theorem k_282 : Cond.code yX4_init cX4_init 2 none ∈ GT := mGT 282 (by decide +kernel) (by decide)
theorem k_283 : Cond.methodLink RX4 3 Lib.objectInit ∈ GT := mGT 283 (by decide +kernel) (by decide)
theorem k_284 : Cond.fieldLink RX4 9 "MeltingHeaps$Row" "bytes" "[B" ∈ GT := mGT 284 (by decide +kernel) (by decide)
theorem k_285 : Cond.fieldLink RX4 15 "MeltingHeaps$Row" "length" "I" ∈ GT := mGT 285 (by decide +kernel) (by decide)
theorem n_286 : Cond.fieldLinkNest RX10 65 "MeltingHeaps$Row" "length" "I" "MeltingHeaps" ∈ NT := mNT 286 (by decide +kernel) (by decide)
theorem n_287 : Cond.fieldLinkNest RX5 146 "MeltingHeaps$Row" "length" "I" "MeltingHeaps" ∈ NT := mNT 287 (by decide +kernel) (by decide)
theorem k_293 : Cond.arrayClass .byte ∈ GT := mGT 293 (by decide +kernel) (by decide)
theorem k_294 : Cond.classLink RX10 35 RX5 ∈ GT := mGT 294 (by decide +kernel) (by decide)
theorem k_295 : Cond.instantiable RX5 9 ∈ GT := mGT 295 (by decide +kernel) (by decide)
theorem k_296 : Cond.methodLink RX10 37 yX5_init ∈ GT := mGT 296 (by decide +kernel) (by decide)
theorem k_297 : Cond.instanceMethod yX5_init ∈ GT := mGT 297 (by decide +kernel) (by decide)
theorem k_298 : Cond.code yX5_init cX5_init 3 none ∈ GT := mGT 298 (by decide +kernel) (by decide)
theorem k_299 : Cond.methodLink RX5 3 Lib.objectInit ∈ GT := mGT 299 (by decide +kernel) (by decide)
theorem k_300 : Cond.fieldLink RX5 15 "MeltingHeaps$Script" "tape" "LMeltingHeaps$Row;" ∈ GT := mGT 300 (by decide +kernel) (by decide)
theorem k_301 : Cond.fieldLink RX5 19 "MeltingHeaps$Script" "store" "LMeltingHeaps$Store;" ∈ GT := mGT 301 (by decide +kernel) (by decide)
theorem k_302 : Cond.fieldLink RX5 9 "MeltingHeaps$Script" "numbers" "[I" ∈ GT := mGT 302 (by decide +kernel) (by decide)
theorem k_303 : Cond.fieldLink RX5 23 "MeltingHeaps$Script" "at" "I" ∈ GT := mGT 303 (by decide +kernel) (by decide)
theorem k_304 : Cond.fieldLink RX5 36 "MeltingHeaps$Script" "kind" "I" ∈ GT := mGT 304 (by decide +kernel) (by decide)
theorem k_305 : Cond.fieldLink RX5 42 "MeltingHeaps$Script" "place" "I" ∈ GT := mGT 305 (by decide +kernel) (by decide)
theorem k_306 : Cond.fieldLink RX5 116 "MeltingHeaps$Script" "value" "I" ∈ GT := mGT 306 (by decide +kernel) (by decide)
theorem k_307 : Cond.fieldLink RX5 27 "MeltingHeaps$Script" "faultKind" "I" ∈ GT := mGT 307 (by decide +kernel) (by decide)
theorem n_308 : Cond.fieldLinkNest RX10 82 "MeltingHeaps$Script" "faultKind" "I" "MeltingHeaps" ∈ NT := mNT 308 (by decide +kernel) (by decide)
theorem k_309 : Cond.fieldLink RX5 30 "MeltingHeaps$Script" "faultPlace" "I" ∈ GT := mGT 309 (by decide +kernel) (by decide)
theorem n_310 : Cond.fieldLinkNest RX10 83 "MeltingHeaps$Script" "faultPlace" "I" "MeltingHeaps" ∈ NT := mNT 310 (by decide +kernel) (by decide)
theorem k_330 : Cond.classLink RX10 44 RX6 ∈ GT := mGT 330 (by decide +kernel) (by decide)
theorem n_331 : Cond.methodLinkNest RX10 46 yX6_init "MeltingHeaps" ∈ NT := mNT 331 (by decide +kernel) (by decide)
theorem k_332 : Cond.classLink RX10 51 RX1 ∈ GT := mGT 332 (by decide +kernel) (by decide)
theorem k_334 : Cond.instantiable RX1 6 ∈ GT := mGT 334 (by decide +kernel) (by decide)
theorem n_335 : Cond.methodLinkNest RX10 57 yX1_init "MeltingHeaps" ∈ NT := mNT 335 (by decide +kernel) (by decide)
theorem k_336 : Cond.instanceMethod yX1_init ∈ GT := mGT 336 (by decide +kernel) (by decide)
theorem k_337 : Cond.code yX1_init cX1_init 1 none ∈ GT := mGT 337 (by decide +kernel) (by decide)
theorem k_338 : Cond.methodLink RX1 3 Lib.objectInit ∈ GT := mGT 338 (by decide +kernel) (by decide)
theorem k_339 : Cond.classLink RX1 9 RX6 ∈ GT := mGT 339 (by decide +kernel) (by decide)
theorem n_340 : Cond.methodLinkNest RX1 11 yX6_init "MeltingHeaps" ∈ NT := mNT 340 (by decide +kernel) (by decide)
theorem k_341 : Cond.classLink RX1 18 RX4 ∈ GT := mGT 341 (by decide +kernel) (by decide)
theorem k_342 : Cond.methodLink RX1 20 yX4_init ∈ GT := mGT 342 (by decide +kernel) (by decide)
theorem k_343 : Cond.fieldLink RX1 12 "MeltingHeaps$Image" "heaps" "LMeltingHeaps$Snapshot;" ∈ GT := mGT 343 (by decide +kernel) (by decide)
theorem n_344 : Cond.fieldLinkNest RX10 312 "MeltingHeaps$Image" "heaps" "LMeltingHeaps$Snapshot;" "MeltingHeaps" ∈ NT := mNT 344 (by decide +kernel) (by decide)
theorem k_345 : Cond.fieldLink RX1 23 "MeltingHeaps$Image" "tape" "LMeltingHeaps$Row;" ∈ GT := mGT 345 (by decide +kernel) (by decide)
theorem n_346 : Cond.fieldLinkNest RX10 314 "MeltingHeaps$Image" "tape" "LMeltingHeaps$Row;" "MeltingHeaps" ∈ NT := mNT 346 (by decide +kernel) (by decide)
theorem k_347 : Cond.fieldLink RX1 27 "MeltingHeaps$Image" "told" "LMeltingHeaps$Row;" ∈ GT := mGT 347 (by decide +kernel) (by decide)
theorem n_348 : Cond.fieldLinkNest RX10 319 "MeltingHeaps$Image" "told" "LMeltingHeaps$Row;" "MeltingHeaps" ∈ NT := mNT 348 (by decide +kernel) (by decide)
theorem k_349 : Cond.fieldLink RX1 30 "MeltingHeaps$Image" "taken" "Z" ∈ GT := mGT 349 (by decide +kernel) (by decide)
theorem n_350 : Cond.fieldLinkNest RX10 308 "MeltingHeaps$Image" "taken" "Z" "MeltingHeaps" ∈ NT := mNT 350 (by decide +kernel) (by decide)
theorem k_351 : Cond.fieldLink RX1 34 "MeltingHeaps$Image" "faultKind" "I" ∈ GT := mGT 351 (by decide +kernel) (by decide)
theorem n_352 : Cond.fieldLinkNest RX10 320 "MeltingHeaps$Image" "faultKind" "I" "MeltingHeaps" ∈ NT := mNT 352 (by decide +kernel) (by decide)
theorem k_353 : Cond.fieldLink RX1 38 "MeltingHeaps$Image" "faultPlace" "I" ∈ GT := mGT 353 (by decide +kernel) (by decide)
theorem n_354 : Cond.fieldLinkNest RX10 321 "MeltingHeaps$Image" "faultPlace" "I" "MeltingHeaps" ∈ NT := mNT 354 (by decide +kernel) (by decide)
theorem k_368 : Cond.fieldLink RX10 10 "MeltingHeaps" "store" "LMeltingHeaps$Store;" ∈ GT := mGT 368 (by decide +kernel) (by decide)
theorem k_369 : Cond.fieldLink RX10 19 "MeltingHeaps" "past" "LMeltingHeaps$Past;" ∈ GT := mGT 369 (by decide +kernel) (by decide)
theorem k_370 : Cond.fieldLink RX10 28 "MeltingHeaps" "tape" "LMeltingHeaps$Row;" ∈ GT := mGT 370 (by decide +kernel) (by decide)
theorem k_371 : Cond.fieldLink RX10 32 "MeltingHeaps" "told" "LMeltingHeaps$Row;" ∈ GT := mGT 371 (by decide +kernel) (by decide)
theorem k_372 : Cond.fieldLink RX10 40 "MeltingHeaps" "script" "LMeltingHeaps$Script;" ∈ GT := mGT 372 (by decide +kernel) (by decide)
theorem k_373 : Cond.fieldLink RX10 47 "MeltingHeaps" "beforeText" "LMeltingHeaps$Snapshot;" ∈ GT := mGT 373 (by decide +kernel) (by decide)
theorem k_374 : Cond.fieldLink RX10 53 "MeltingHeaps" "images" "[LMeltingHeaps$Image;" ∈ GT := mGT 374 (by decide +kernel) (by decide)
theorem k_375 : Cond.fieldLink RX10 58 "MeltingHeaps" "faultKind" "I" ∈ GT := mGT 375 (by decide +kernel) (by decide)
theorem k_376 : Cond.fieldLink RX10 62 "MeltingHeaps" "faultPlace" "I" ∈ GT := mGT 376 (by decide +kernel) (by decide)
theorem k_397 : Cond.instanceMethod yX10_feed ∈ GT := mGT 397 (by decide +kernel) (by decide)
theorem k_398 : Cond.selects RX10 yX10_feed yX10_feed ∈ GT := mGT 398 (by decide +kernel) (by decide)
theorem k_399 : Cond.code yX10_feed cX10_feed 6 (some .int) ∈ GT := mGT 399 (by decide +kernel) (by decide)
theorem k_400 : Cond.methodLink RX10 68 yX4_addFour ∈ GT := mGT 400 (by decide +kernel) (by decide)
theorem k_401 : Cond.instanceMethod yX4_addFour ∈ GT := mGT 401 (by decide +kernel) (by decide)
theorem k_402 : Cond.selects RX4 yX4_addFour yX4_addFour ∈ GT := mGT 402 (by decide +kernel) (by decide)
theorem k_403 : Cond.code yX4_addFour cX4_addFour 2 none ∈ GT := mGT 403 (by decide +kernel) (by decide)
theorem k_404 : Cond.methodLink RX4 19 yX4_add ∈ GT := mGT 404 (by decide +kernel) (by decide)
theorem k_405 : Cond.instanceMethod yX4_add ∈ GT := mGT 405 (by decide +kernel) (by decide)
theorem k_406 : Cond.selects RX4 yX4_add yX4_add ∈ GT := mGT 406 (by decide +kernel) (by decide)
theorem k_407 : Cond.code yX4_add cX4_add 2 none ∈ GT := mGT 407 (by decide +kernel) (by decide)
theorem k_409 : Cond.instanceMethod yX10_end ∈ GT := mGT 409 (by decide +kernel) (by decide)
theorem k_410 : Cond.selects RX10 yX10_end yX10_end ∈ GT := mGT 410 (by decide +kernel) (by decide)
theorem k_411 : Cond.code yX10_end cX10_end 2 (some .int) ∈ GT := mGT 411 (by decide +kernel) (by decide)
theorem k_413 : Cond.instanceMethod yX10_text ∈ GT := mGT 413 (by decide +kernel) (by decide)
theorem k_414 : Cond.selects RX10 yX10_text yX10_text ∈ GT := mGT 414 (by decide +kernel) (by decide)
theorem k_415 : Cond.code yX10_text cX10_text 1 (some .int) ∈ GT := mGT 415 (by decide +kernel) (by decide)
theorem k_416 : Cond.methodLink RX10 72 yX6_take ∈ GT := mGT 416 (by decide +kernel) (by decide)
theorem k_417 : Cond.instanceMethod yX6_take ∈ GT := mGT 417 (by decide +kernel) (by decide)
theorem k_418 : Cond.selects RX6 yX6_take yX6_take ∈ GT := mGT 418 (by decide +kernel) (by decide)
theorem k_419 : Cond.code yX6_take cX6_take 6 none ∈ GT := mGT 419 (by decide +kernel) (by decide)
theorem k_420 : Cond.methodLink RX6 33 Lib.Math.min.name ∈ GT := mGT 420 (by decide +kernel) (by decide)
theorem k_421 : Cond.static Lib.Math.min.name ∈ GT := mGT 421 (by decide +kernel) (by decide)
theorem k_422 : Cond.code Lib.Math.min.name Lib.Math.min.code 2 (some .int) ∈ GT := mGT 422 (by decide +kernel) (by decide)
theorem k_423 : Cond.methodLink RX6 40 arraycopyName ∈ GT := mGT 423 (by decide +kernel) (by decide)
theorem k_424 : Cond.static arraycopyName ∈ GT := mGT 424 (by decide +kernel) (by decide)
theorem k_425 : Cond.native arraycopyName ∈ GT := mGT 425 (by decide +kernel) (by decide)
theorem k_426 : Cond.methodLink RX10 76 yX7_empty ∈ GT := mGT 426 (by decide +kernel) (by decide)
theorem k_427 : Cond.instanceMethod yX7_empty ∈ GT := mGT 427 (by decide +kernel) (by decide)
theorem k_428 : Cond.selects RX7 yX7_empty yX7_empty ∈ GT := mGT 428 (by decide +kernel) (by decide)
theorem k_429 : Cond.code yX7_empty cX7_empty 2 none ∈ GT := mGT 429 (by decide +kernel) (by decide)
theorem k_430 : Cond.methodLink RX7 55 yX0_empty ∈ GT := mGT 430 (by decide +kernel) (by decide)
theorem k_431 : Cond.instanceMethod yX0_empty ∈ GT := mGT 431 (by decide +kernel) (by decide)
theorem k_432 : Cond.selects RX0 yX0_empty yX0_empty ∈ GT := mGT 432 (by decide +kernel) (by decide)
theorem k_433 : Cond.code yX0_empty cX0_empty 1 none ∈ GT := mGT 433 (by decide +kernel) (by decide)
theorem k_434 : Cond.methodLink RX10 79 yX5_perform ∈ GT := mGT 434 (by decide +kernel) (by decide)
theorem k_435 : Cond.instanceMethod yX5_perform ∈ GT := mGT 435 (by decide +kernel) (by decide)
theorem k_436 : Cond.selects RX5 yX5_perform yX5_perform ∈ GT := mGT 436 (by decide +kernel) (by decide)
theorem k_437 : Cond.code yX5_perform cX5_perform 2 none ∈ GT := mGT 437 (by decide +kernel) (by decide)
theorem k_438 : Cond.methodLink RX5 33 yX5_advance ∈ GT := mGT 438 (by decide +kernel) (by decide)
theorem k_440 : Cond.instanceMethod yX5_advance ∈ GT := mGT 440 (by decide +kernel) (by decide)
theorem k_441 : Cond.code yX5_advance cX5_advance 2 none ∈ GT := mGT 441 (by decide +kernel) (by decide)
theorem k_442 : Cond.methodLink RX5 96 yX4_byteAt ∈ GT := mGT 442 (by decide +kernel) (by decide)
theorem k_443 : Cond.instanceMethod yX4_byteAt ∈ GT := mGT 443 (by decide +kernel) (by decide)
theorem k_444 : Cond.selects RX4 yX4_byteAt yX4_byteAt ∈ GT := mGT 444 (by decide +kernel) (by decide)
theorem k_445 : Cond.code yX4_byteAt cX4_byteAt 2 (some .int) ∈ GT := mGT 445 (by decide +kernel) (by decide)
theorem k_446 : Cond.methodLink RX5 148 yX5_isBlank ∈ GT := mGT 446 (by decide +kernel) (by decide)
theorem k_447 : Cond.static yX5_isBlank ∈ GT := mGT 447 (by decide +kernel) (by decide)
theorem k_448 : Cond.code yX5_isBlank cX5_isBlank 1 (some .boolean) ∈ GT := mGT 448 (by decide +kernel) (by decide)
theorem k_449 : Cond.methodLink RX5 152 yX5_isLetter ∈ GT := mGT 449 (by decide +kernel) (by decide)
theorem k_450 : Cond.static yX5_isLetter ∈ GT := mGT 450 (by decide +kernel) (by decide)
theorem k_451 : Cond.code yX5_isLetter cX5_isLetter 1 (some .boolean) ∈ GT := mGT 451 (by decide +kernel) (by decide)
theorem k_452 : Cond.methodLink RX5 155 yX5_readWord ∈ GT := mGT 452 (by decide +kernel) (by decide)
theorem k_454 : Cond.instanceMethod yX5_readWord ∈ GT := mGT 454 (by decide +kernel) (by decide)
theorem k_455 : Cond.code yX5_readWord cX5_readWord 1 none ∈ GT := mGT 455 (by decide +kernel) (by decide)
theorem k_456 : Cond.methodLink RX5 158 yX5_isDigit ∈ GT := mGT 456 (by decide +kernel) (by decide)
theorem k_457 : Cond.static yX5_isDigit ∈ GT := mGT 457 (by decide +kernel) (by decide)
theorem k_458 : Cond.code yX5_isDigit cX5_isDigit 1 (some .boolean) ∈ GT := mGT 458 (by decide +kernel) (by decide)
theorem k_459 : Cond.methodLink RX5 161 yX5_readNumber ∈ GT := mGT 459 (by decide +kernel) (by decide)
theorem k_461 : Cond.instanceMethod yX5_readNumber ∈ GT := mGT 461 (by decide +kernel) (by decide)
theorem k_462 : Cond.code yX5_readNumber cX5_readNumber 1 none ∈ GT := mGT 462 (by decide +kernel) (by decide)
theorem k_463 : Cond.methodLink RX5 39 yX5_doLine ∈ GT := mGT 463 (by decide +kernel) (by decide)
theorem k_465 : Cond.instanceMethod yX5_doLine ∈ GT := mGT 465 (by decide +kernel) (by decide)
theorem k_466 : Cond.code yX5_doLine cX5_doLine 5 none ∈ GT := mGT 466 (by decide +kernel) (by decide)
theorem k_467 : Cond.methodLink RX5 45 yX5_lineHere ∈ GT := mGT 467 (by decide +kernel) (by decide)
theorem k_469 : Cond.instanceMethod yX5_lineHere ∈ GT := mGT 469 (by decide +kernel) (by decide)
theorem k_470 : Cond.code yX5_lineHere cX5_lineHere 1 (some .int) ∈ GT := mGT 470 (by decide +kernel) (by decide)
theorem k_472 : Cond.methodLink RX5 80 yX5_spells ∈ GT := mGT 472 (by decide +kernel) (by decide)
theorem k_474 : Cond.instanceMethod yX5_spells ∈ GT := mGT 474 (by decide +kernel) (by decide)
theorem k_475 : Cond.code yX5_spells cX5_spells 4 (some .boolean) ∈ GT := mGT 475 (by decide +kernel) (by decide)
theorem k_476 : Cond.methodLink RX5 57 yJ0_length_8abf5 ∈ GT := mGT 476 (by decide +kernel) (by decide)
theorem k_486 : Cond.methodLink RX5 62 yJ0_charAt_5068e ∈ GT := mGT 486 (by decide +kernel) (by decide)
theorem k_530 : Cond.methodLink RX5 49 yX5_fail ∈ GT := mGT 530 (by decide +kernel) (by decide)
theorem k_532 : Cond.instanceMethod yX5_fail ∈ GT := mGT 532 (by decide +kernel) (by decide)
theorem k_533 : Cond.code yX5_fail cX5_fail 3 none ∈ GT := mGT 533 (by decide +kernel) (by decide)
theorem k_534 : Cond.methodLink RX5 53 yX5_shapeOf ∈ GT := mGT 534 (by decide +kernel) (by decide)
theorem k_535 : Cond.static yX5_shapeOf ∈ GT := mGT 535 (by decide +kernel) (by decide)
theorem k_536 : Cond.code yX5_shapeOf cX5_shapeOf 1 (some (.object "java/lang/String")) ∈ GT := mGT 536 (by decide +kernel) (by decide)
theorem k_543 : Cond.methodLink RX5 66 yX5_takeArgument ∈ GT := mGT 543 (by decide +kernel) (by decide)
theorem k_545 : Cond.instanceMethod yX5_takeArgument ∈ GT := mGT 545 (by decide +kernel) (by decide)
theorem k_546 : Cond.code yX5_takeArgument cX5_takeArgument 4 (some .int) ∈ GT := mGT 546 (by decide +kernel) (by decide)
theorem k_547 : Cond.methodLink RX5 113 yX5_takeNumber ∈ GT := mGT 547 (by decide +kernel) (by decide)
theorem k_549 : Cond.instanceMethod yX5_takeNumber ∈ GT := mGT 549 (by decide +kernel) (by decide)
theorem k_550 : Cond.code yX5_takeNumber cX5_takeNumber 3 (some .int) ∈ GT := mGT 550 (by decide +kernel) (by decide)
theorem k_551 : Cond.methodLink RX5 70 yX5_putItem ∈ GT := mGT 551 (by decide +kernel) (by decide)
theorem k_553 : Cond.instanceMethod yX5_putItem ∈ GT := mGT 553 (by decide +kernel) (by decide)
theorem k_554 : Cond.code yX5_putItem cX5_putItem 6 none ∈ GT := mGT 554 (by decide +kernel) (by decide)
theorem k_555 : Cond.methodLink RX5 119 yX7_putKey ∈ GT := mGT 555 (by decide +kernel) (by decide)
theorem k_556 : Cond.instanceMethod yX7_putKey ∈ GT := mGT 556 (by decide +kernel) (by decide)
theorem k_557 : Cond.selects RX7 yX7_putKey yX7_putKey ∈ GT := mGT 557 (by decide +kernel) (by decide)
theorem k_558 : Cond.code yX7_putKey cX7_putKey 4 (some .int) ∈ GT := mGT 558 (by decide +kernel) (by decide)
theorem k_559 : Cond.methodLink RX7 68 yX7_heapAt ∈ GT := mGT 559 (by decide +kernel) (by decide)
theorem k_560 : Cond.instanceMethod yX7_heapAt ∈ GT := mGT 560 (by decide +kernel) (by decide)
theorem k_561 : Cond.selects RX7 yX7_heapAt yX7_heapAt ∈ GT := mGT 561 (by decide +kernel) (by decide)
theorem k_562 : Cond.code yX7_heapAt cX7_heapAt 2 (some (.object "MeltingHeaps$Heap")) ∈ GT := mGT 562 (by decide +kernel) (by decide)
theorem n_563 : Cond.methodLinkNest RX7 72 yX10_isKey "MeltingHeaps" ∈ NT := mNT 563 (by decide +kernel) (by decide)
theorem k_564 : Cond.static yX10_isKey ∈ GT := mGT 564 (by decide +kernel) (by decide)
theorem k_565 : Cond.code yX10_isKey cX10_isKey 1 (some .boolean) ∈ GT := mGT 565 (by decide +kernel) (by decide)
theorem k_566 : Cond.methodLink RX7 76 yX0_rankOf ∈ GT := mGT 566 (by decide +kernel) (by decide)
theorem k_567 : Cond.instanceMethod yX0_rankOf ∈ GT := mGT 567 (by decide +kernel) (by decide)
theorem k_568 : Cond.selects RX0 yX0_rankOf yX0_rankOf ∈ GT := mGT 568 (by decide +kernel) (by decide)
theorem k_569 : Cond.code yX0_rankOf cX0_rankOf 3 (some .int) ∈ GT := mGT 569 (by decide +kernel) (by decide)
theorem k_570 : Cond.methodLink RX0 22 yX0_below ∈ GT := mGT 570 (by decide +kernel) (by decide)
theorem k_571 : Cond.instanceMethod yX0_below ∈ GT := mGT 571 (by decide +kernel) (by decide)
theorem k_572 : Cond.selects RX0 yX0_below yX0_below ∈ GT := mGT 572 (by decide +kernel) (by decide)
theorem k_573 : Cond.code yX0_below cX0_below 3 (some .int) ∈ GT := mGT 573 (by decide +kernel) (by decide)
theorem k_574 : Cond.methodLink RX7 80 yX7_total ∈ GT := mGT 574 (by decide +kernel) (by decide)
theorem k_575 : Cond.instanceMethod yX7_total ∈ GT := mGT 575 (by decide +kernel) (by decide)
theorem k_576 : Cond.selects RX7 yX7_total yX7_total ∈ GT := mGT 576 (by decide +kernel) (by decide)
theorem k_577 : Cond.code yX7_total cX7_total 3 (some .int) ∈ GT := mGT 577 (by decide +kernel) (by decide)
theorem k_578 : Cond.methodLink RX7 84 yX0_insert ∈ GT := mGT 578 (by decide +kernel) (by decide)
theorem k_579 : Cond.instanceMethod yX0_insert ∈ GT := mGT 579 (by decide +kernel) (by decide)
theorem k_580 : Cond.selects RX0 yX0_insert yX0_insert ∈ GT := mGT 580 (by decide +kernel) (by decide)
theorem k_581 : Cond.code yX0_insert cX0_insert 3 (some .int) ∈ GT := mGT 581 (by decide +kernel) (by decide)
theorem k_582 : Cond.methodLink RX0 50 yX0_openGap ∈ GT := mGT 582 (by decide +kernel) (by decide)
theorem k_583 : Cond.instanceMethod yX0_openGap ∈ GT := mGT 583 (by decide +kernel) (by decide)
theorem k_584 : Cond.selects RX0 yX0_openGap yX0_openGap ∈ GT := mGT 584 (by decide +kernel) (by decide)
theorem k_585 : Cond.code yX0_openGap cX0_openGap 3 (some .boolean) ∈ GT := mGT 585 (by decide +kernel) (by decide)
theorem k_586 : Cond.methodLink RX0 44 arraycopyName ∈ GT := mGT 586 (by decide +kernel) (by decide)
theorem k_587 : Cond.methodLink RX5 74 yX5_act ∈ GT := mGT 587 (by decide +kernel) (by decide)
theorem k_589 : Cond.instanceMethod yX5_act ∈ GT := mGT 589 (by decide +kernel) (by decide)
theorem k_590 : Cond.code yX5_act cX5_act 2 (some .int) ∈ GT := mGT 590 (by decide +kernel) (by decide)
theorem k_591 : Cond.methodLink RX5 125 yX7_markStretch ∈ GT := mGT 591 (by decide +kernel) (by decide)
theorem k_592 : Cond.instanceMethod yX7_markStretch ∈ GT := mGT 592 (by decide +kernel) (by decide)
theorem k_593 : Cond.selects RX7 yX7_markStretch yX7_markStretch ∈ GT := mGT 593 (by decide +kernel) (by decide)
theorem k_594 : Cond.code yX7_markStretch cX7_markStretch 7 (some .int) ∈ GT := mGT 594 (by decide +kernel) (by decide)
theorem k_595 : Cond.methodLink RX7 130 yX0_markBetween ∈ GT := mGT 595 (by decide +kernel) (by decide)
theorem k_596 : Cond.instanceMethod yX0_markBetween ∈ GT := mGT 596 (by decide +kernel) (by decide)
theorem k_597 : Cond.selects RX0 yX0_markBetween yX0_markBetween ∈ GT := mGT 597 (by decide +kernel) (by decide)
theorem k_598 : Cond.code yX0_markBetween cX0_markBetween 7 (some .int) ∈ GT := mGT 598 (by decide +kernel) (by decide)
theorem k_599 : Cond.methodLink RX0 26 yX0_notAbove ∈ GT := mGT 599 (by decide +kernel) (by decide)
theorem k_600 : Cond.instanceMethod yX0_notAbove ∈ GT := mGT 600 (by decide +kernel) (by decide)
theorem k_601 : Cond.selects RX0 yX0_notAbove yX0_notAbove ∈ GT := mGT 601 (by decide +kernel) (by decide)
theorem k_602 : Cond.code yX0_notAbove cX0_notAbove 3 (some .int) ∈ GT := mGT 602 (by decide +kernel) (by decide)
theorem k_603 : Cond.methodLink RX5 129 yX7_cutAbove ∈ GT := mGT 603 (by decide +kernel) (by decide)
theorem k_604 : Cond.instanceMethod yX7_cutAbove ∈ GT := mGT 604 (by decide +kernel) (by decide)
theorem k_605 : Cond.selects RX7 yX7_cutAbove yX7_cutAbove ∈ GT := mGT 605 (by decide +kernel) (by decide)
theorem k_606 : Cond.code yX7_cutAbove cX7_cutAbove 8 (some .int) ∈ GT := mGT 606 (by decide +kernel) (by decide)
theorem k_607 : Cond.methodLink RX7 91 yX0_notAbove ∈ GT := mGT 607 (by decide +kernel) (by decide)
theorem k_608 : Cond.methodLink RX7 94 yX0_giveStretch ∈ GT := mGT 608 (by decide +kernel) (by decide)
theorem k_609 : Cond.instanceMethod yX0_giveStretch ∈ GT := mGT 609 (by decide +kernel) (by decide)
theorem k_610 : Cond.selects RX0 yX0_giveStretch yX0_giveStretch ∈ GT := mGT 610 (by decide +kernel) (by decide)
theorem k_611 : Cond.code yX0_giveStretch cX0_giveStretch 5 none ∈ GT := mGT 611 (by decide +kernel) (by decide)
theorem k_612 : Cond.methodLink RX0 54 yX0_closeGap ∈ GT := mGT 612 (by decide +kernel) (by decide)
theorem k_613 : Cond.instanceMethod yX0_closeGap ∈ GT := mGT 613 (by decide +kernel) (by decide)
theorem k_614 : Cond.selects RX0 yX0_closeGap yX0_closeGap ∈ GT := mGT 614 (by decide +kernel) (by decide)
theorem k_615 : Cond.code yX0_closeGap cX0_closeGap 3 none ∈ GT := mGT 615 (by decide +kernel) (by decide)
theorem k_616 : Cond.methodLink RX5 133 yX7_joinTo ∈ GT := mGT 616 (by decide +kernel) (by decide)
theorem k_617 : Cond.instanceMethod yX7_joinTo ∈ GT := mGT 617 (by decide +kernel) (by decide)
theorem k_618 : Cond.selects RX7 yX7_joinTo yX7_joinTo ∈ GT := mGT 618 (by decide +kernel) (by decide)
theorem k_619 : Cond.code yX7_joinTo cX7_joinTo 6 (some .int) ∈ GT := mGT 619 (by decide +kernel) (by decide)
theorem k_620 : Cond.methodLink RX7 98 yX7_whyNotJoin ∈ GT := mGT 620 (by decide +kernel) (by decide)
theorem k_621 : Cond.instanceMethod yX7_whyNotJoin ∈ GT := mGT 621 (by decide +kernel) (by decide)
theorem k_622 : Cond.selects RX7 yX7_whyNotJoin yX7_whyNotJoin ∈ GT := mGT 622 (by decide +kernel) (by decide)
theorem k_623 : Cond.code yX7_whyNotJoin cX7_whyNotJoin 3 (some .int) ∈ GT := mGT 623 (by decide +kernel) (by decide)
theorem k_624 : Cond.methodLink RX7 102 yX0_keyAt ∈ GT := mGT 624 (by decide +kernel) (by decide)
theorem k_625 : Cond.instanceMethod yX0_keyAt ∈ GT := mGT 625 (by decide +kernel) (by decide)
theorem k_626 : Cond.selects RX0 yX0_keyAt yX0_keyAt ∈ GT := mGT 626 (by decide +kernel) (by decide)
theorem k_627 : Cond.code yX0_keyAt cX0_keyAt 2 (some .int) ∈ GT := mGT 627 (by decide +kernel) (by decide)
theorem k_628 : Cond.methodLink RX5 136 yX7_meltTo ∈ GT := mGT 628 (by decide +kernel) (by decide)
theorem k_629 : Cond.instanceMethod yX7_meltTo ∈ GT := mGT 629 (by decide +kernel) (by decide)
theorem k_630 : Cond.selects RX7 yX7_meltTo yX7_meltTo ∈ GT := mGT 630 (by decide +kernel) (by decide)
theorem k_631 : Cond.code yX7_meltTo cX7_meltTo 6 (some .int) ∈ GT := mGT 631 (by decide +kernel) (by decide)
theorem k_632 : Cond.methodLink RX7 62 yX9_weave ∈ GT := mGT 632 (by decide +kernel) (by decide)
theorem k_633 : Cond.instanceMethod yX9_weave ∈ GT := mGT 633 (by decide +kernel) (by decide)
theorem k_634 : Cond.selects RX9 yX9_weave yX9_weave ∈ GT := mGT 634 (by decide +kernel) (by decide)
theorem k_635 : Cond.code yX9_weave cX9_weave 9 none ∈ GT := mGT 635 (by decide +kernel) (by decide)
theorem k_636 : Cond.methodLink RX9 30 yX0_keyAt ∈ GT := mGT 636 (by decide +kernel) (by decide)
theorem k_637 : Cond.methodLink RX9 34 yJ6_compare_7cf53 ∈ GT := mGT 637 (by decide +kernel) (by decide)
theorem k_638 : Cond.static yJ6_compare_7cf53 ∈ GT := mGT 638 (by decide +kernel) (by decide)
theorem k_639 : Cond.code yJ6_compare_7cf53 cJ6_compare_7cf53 2 (some .int) ∈ GT := mGT 639 (by decide +kernel) (by decide)
theorem k_640 : Cond.methodLink RX9 40 yX9_endRun ∈ GT := mGT 640 (by decide +kernel) (by decide)
theorem k_642 : Cond.instanceMethod yX9_endRun ∈ GT := mGT 642 (by decide +kernel) (by decide)
theorem k_643 : Cond.code yX9_endRun cX9_endRun 3 none ∈ GT := mGT 643 (by decide +kernel) (by decide)
theorem k_644 : Cond.methodLink RX9 44 Lib.Math.max.name ∈ GT := mGT 644 (by decide +kernel) (by decide)
theorem k_645 : Cond.static Lib.Math.max.name ∈ GT := mGT 645 (by decide +kernel) (by decide)
theorem k_646 : Cond.code Lib.Math.max.name Lib.Math.max.code 2 (some .int) ∈ GT := mGT 646 (by decide +kernel) (by decide)
theorem k_647 : Cond.methodLink RX7 105 yX7_whyNotMelt ∈ GT := mGT 647 (by decide +kernel) (by decide)
theorem k_648 : Cond.instanceMethod yX7_whyNotMelt ∈ GT := mGT 648 (by decide +kernel) (by decide)
theorem k_649 : Cond.selects RX7 yX7_whyNotMelt yX7_whyNotMelt ∈ GT := mGT 649 (by decide +kernel) (by decide)
theorem k_650 : Cond.code yX7_whyNotMelt cX7_whyNotMelt 3 (some .int) ∈ GT := mGT 650 (by decide +kernel) (by decide)
theorem k_651 : Cond.methodLink RX7 112 yX0_absorb ∈ GT := mGT 651 (by decide +kernel) (by decide)
theorem k_652 : Cond.instanceMethod yX0_absorb ∈ GT := mGT 652 (by decide +kernel) (by decide)
theorem k_653 : Cond.selects RX0 yX0_absorb yX0_absorb ∈ GT := mGT 653 (by decide +kernel) (by decide)
theorem k_654 : Cond.code yX0_absorb cX0_absorb 8 none ∈ GT := mGT 654 (by decide +kernel) (by decide)
theorem k_655 : Cond.methodLink RX0 41 Lib.Math.min.name ∈ GT := mGT 655 (by decide +kernel) (by decide)
theorem k_656 : Cond.methodLink RX0 38 yX0_keyAt ∈ GT := mGT 656 (by decide +kernel) (by decide)
theorem k_657 : Cond.methodLink RX0 58 yJ6_compare_7cf53 ∈ GT := mGT 657 (by decide +kernel) (by decide)
theorem k_658 : Cond.methodLink RX0 63 yX0_empty ∈ GT := mGT 658 (by decide +kernel) (by decide)
theorem k_659 : Cond.methodLink RX5 139 yX7_shiftBy ∈ GT := mGT 659 (by decide +kernel) (by decide)
theorem k_660 : Cond.instanceMethod yX7_shiftBy ∈ GT := mGT 660 (by decide +kernel) (by decide)
theorem k_661 : Cond.selects RX7 yX7_shiftBy yX7_shiftBy ∈ GT := mGT 661 (by decide +kernel) (by decide)
theorem k_662 : Cond.code yX7_shiftBy cX7_shiftBy 4 (some .int) ∈ GT := mGT 662 (by decide +kernel) (by decide)
theorem k_663 : Cond.methodLink RX7 119 yX0_shiftAll ∈ GT := mGT 663 (by decide +kernel) (by decide)
theorem k_664 : Cond.instanceMethod yX0_shiftAll ∈ GT := mGT 664 (by decide +kernel) (by decide)
theorem k_665 : Cond.selects RX0 yX0_shiftAll yX0_shiftAll ∈ GT := mGT 665 (by decide +kernel) (by decide)
theorem k_666 : Cond.code yX0_shiftAll cX0_shiftAll 3 none ∈ GT := mGT 666 (by decide +kernel) (by decide)
theorem k_667 : Cond.methodLink RX5 142 yX7_moveStretch ∈ GT := mGT 667 (by decide +kernel) (by decide)
theorem k_668 : Cond.instanceMethod yX7_moveStretch ∈ GT := mGT 668 (by decide +kernel) (by decide)
theorem k_669 : Cond.selects RX7 yX7_moveStretch yX7_moveStretch ∈ GT := mGT 669 (by decide +kernel) (by decide)
theorem k_670 : Cond.code yX7_moveStretch cX7_moveStretch 9 (some .int) ∈ GT := mGT 670 (by decide +kernel) (by decide)
theorem k_671 : Cond.methodLink RX7 123 yX0_howManyBetween ∈ GT := mGT 671 (by decide +kernel) (by decide)
theorem k_672 : Cond.instanceMethod yX0_howManyBetween ∈ GT := mGT 672 (by decide +kernel) (by decide)
theorem k_673 : Cond.selects RX0 yX0_howManyBetween yX0_howManyBetween ∈ GT := mGT 673 (by decide +kernel) (by decide)
theorem k_674 : Cond.code yX0_howManyBetween cX0_howManyBetween 3 (some .int) ∈ GT := mGT 674 (by decide +kernel) (by decide)
theorem k_675 : Cond.methodLink RX0 29 Lib.Math.max.name ∈ GT := mGT 675 (by decide +kernel) (by decide)
theorem k_676 : Cond.methodLink RX7 127 yX0_below ∈ GT := mGT 676 (by decide +kernel) (by decide)
theorem k_677 : Cond.methodLink RX10 84 yX6_give ∈ GT := mGT 677 (by decide +kernel) (by decide)
theorem k_678 : Cond.instanceMethod yX6_give ∈ GT := mGT 678 (by decide +kernel) (by decide)
theorem k_679 : Cond.selects RX6 yX6_give yX6_give ∈ GT := mGT 679 (by decide +kernel) (by decide)
theorem k_680 : Cond.code yX6_give cX6_give 6 none ∈ GT := mGT 680 (by decide +kernel) (by decide)
theorem k_681 : Cond.methodLink RX10 87 yX3_forget ∈ GT := mGT 681 (by decide +kernel) (by decide)
theorem k_682 : Cond.instanceMethod yX3_forget ∈ GT := mGT 682 (by decide +kernel) (by decide)
theorem k_683 : Cond.selects RX3 yX3_forget yX3_forget ∈ GT := mGT 683 (by decide +kernel) (by decide)
theorem k_684 : Cond.code yX3_forget cX3_forget 1 none ∈ GT := mGT 684 (by decide +kernel) (by decide)
theorem k_685 : Cond.methodLink RX10 90 yX7_total ∈ GT := mGT 685 (by decide +kernel) (by decide)
theorem k_687 : Cond.instanceMethod yX10_fault ∈ GT := mGT 687 (by decide +kernel) (by decide)
theorem k_688 : Cond.selects RX10 yX10_fault yX10_fault ∈ GT := mGT 688 (by decide +kernel) (by decide)
theorem k_689 : Cond.code yX10_fault cX10_fault 2 (some .int) ∈ GT := mGT 689 (by decide +kernel) (by decide)
theorem k_691 : Cond.instanceMethod yX10_put ∈ GT := mGT 691 (by decide +kernel) (by decide)
theorem k_692 : Cond.selects RX10 yX10_put yX10_put ∈ GT := mGT 692 (by decide +kernel) (by decide)
theorem k_693 : Cond.code yX10_put cX10_put 3 (some .int) ∈ GT := mGT 693 (by decide +kernel) (by decide)
theorem k_694 : Cond.methodLink RX10 94 yX3_prepare ∈ GT := mGT 694 (by decide +kernel) (by decide)
theorem k_695 : Cond.instanceMethod yX3_prepare ∈ GT := mGT 695 (by decide +kernel) (by decide)
theorem k_696 : Cond.selects RX3 yX3_prepare yX3_prepare ∈ GT := mGT 696 (by decide +kernel) (by decide)
theorem k_697 : Cond.code yX3_prepare cX3_prepare 2 none ∈ GT := mGT 697 (by decide +kernel) (by decide)
theorem k_698 : Cond.methodLink RX3 25 yX6_take ∈ GT := mGT 698 (by decide +kernel) (by decide)
theorem k_699 : Cond.methodLink RX10 97 yX7_putKey ∈ GT := mGT 699 (by decide +kernel) (by decide)
theorem k_700 : Cond.methodLink RX10 101 yX3_settle ∈ GT := mGT 700 (by decide +kernel) (by decide)
theorem k_701 : Cond.instanceMethod yX3_settle ∈ GT := mGT 701 (by decide +kernel) (by decide)
theorem k_702 : Cond.selects RX3 yX3_settle yX3_settle ∈ GT := mGT 702 (by decide +kernel) (by decide)
theorem k_703 : Cond.code yX3_settle cX3_settle 2 (some .int) ∈ GT := mGT 703 (by decide +kernel) (by decide)
theorem k_704 : Cond.methodLink RX3 29 Lib.Math.min.name ∈ GT := mGT 704 (by decide +kernel) (by decide)
theorem k_706 : Cond.instanceMethod yX10_drop ∈ GT := mGT 706 (by decide +kernel) (by decide)
theorem k_707 : Cond.selects RX10 yX10_drop yX10_drop ∈ GT := mGT 707 (by decide +kernel) (by decide)
theorem k_708 : Cond.code yX10_drop cX10_drop 3 (some .int) ∈ GT := mGT 708 (by decide +kernel) (by decide)
theorem k_709 : Cond.methodLink RX10 105 yX7_dropKey ∈ GT := mGT 709 (by decide +kernel) (by decide)
theorem k_710 : Cond.instanceMethod yX7_dropKey ∈ GT := mGT 710 (by decide +kernel) (by decide)
theorem k_711 : Cond.selects RX7 yX7_dropKey yX7_dropKey ∈ GT := mGT 711 (by decide +kernel) (by decide)
theorem k_712 : Cond.code yX7_dropKey cX7_dropKey 5 (some .int) ∈ GT := mGT 712 (by decide +kernel) (by decide)
theorem k_713 : Cond.methodLink RX7 87 yX0_closeGap ∈ GT := mGT 713 (by decide +kernel) (by decide)
theorem k_715 : Cond.instanceMethod yX10_cut ∈ GT := mGT 715 (by decide +kernel) (by decide)
theorem k_716 : Cond.selects RX10 yX10_cut yX10_cut ∈ GT := mGT 716 (by decide +kernel) (by decide)
theorem k_717 : Cond.code yX10_cut cX10_cut 4 (some .int) ∈ GT := mGT 717 (by decide +kernel) (by decide)
theorem k_718 : Cond.methodLink RX10 108 yX7_cutAbove ∈ GT := mGT 718 (by decide +kernel) (by decide)
theorem k_720 : Cond.instanceMethod yX10_join ∈ GT := mGT 720 (by decide +kernel) (by decide)
theorem k_721 : Cond.selects RX10 yX10_join yX10_join ∈ GT := mGT 721 (by decide +kernel) (by decide)
theorem k_722 : Cond.code yX10_join cX10_join 3 (some .int) ∈ GT := mGT 722 (by decide +kernel) (by decide)
theorem k_723 : Cond.methodLink RX10 112 yX7_joinTo ∈ GT := mGT 723 (by decide +kernel) (by decide)
theorem k_725 : Cond.instanceMethod yX10_melt ∈ GT := mGT 725 (by decide +kernel) (by decide)
theorem k_726 : Cond.selects RX10 yX10_melt yX10_melt ∈ GT := mGT 726 (by decide +kernel) (by decide)
theorem k_727 : Cond.code yX10_melt cX10_melt 3 (some .int) ∈ GT := mGT 727 (by decide +kernel) (by decide)
theorem k_728 : Cond.methodLink RX10 115 yX7_meltTo ∈ GT := mGT 728 (by decide +kernel) (by decide)
theorem k_730 : Cond.instanceMethod yX10_shift ∈ GT := mGT 730 (by decide +kernel) (by decide)
theorem k_731 : Cond.selects RX10 yX10_shift yX10_shift ∈ GT := mGT 731 (by decide +kernel) (by decide)
theorem k_732 : Cond.code yX10_shift cX10_shift 3 (some .int) ∈ GT := mGT 732 (by decide +kernel) (by decide)
theorem k_733 : Cond.methodLink RX10 118 yX7_shiftBy ∈ GT := mGT 733 (by decide +kernel) (by decide)
theorem k_735 : Cond.instanceMethod yX10_move ∈ GT := mGT 735 (by decide +kernel) (by decide)
theorem k_736 : Cond.selects RX10 yX10_move yX10_move ∈ GT := mGT 736 (by decide +kernel) (by decide)
theorem k_737 : Cond.code yX10_move cX10_move 5 (some .int) ∈ GT := mGT 737 (by decide +kernel) (by decide)
theorem k_738 : Cond.methodLink RX10 121 yX7_moveStretch ∈ GT := mGT 738 (by decide +kernel) (by decide)
theorem k_740 : Cond.instanceMethod yX10_mark ∈ GT := mGT 740 (by decide +kernel) (by decide)
theorem k_741 : Cond.selects RX10 yX10_mark yX10_mark ∈ GT := mGT 741 (by decide +kernel) (by decide)
theorem k_742 : Cond.code yX10_mark cX10_mark 5 (some .int) ∈ GT := mGT 742 (by decide +kernel) (by decide)
theorem k_743 : Cond.methodLink RX10 125 yX7_markStretch ∈ GT := mGT 743 (by decide +kernel) (by decide)
theorem k_745 : Cond.instanceMethod yX10_seek ∈ GT := mGT 745 (by decide +kernel) (by decide)
theorem k_746 : Cond.selects RX10 yX10_seek yX10_seek ∈ GT := mGT 746 (by decide +kernel) (by decide)
theorem k_747 : Cond.code yX10_seek cX10_seek 3 (some .int) ∈ GT := mGT 747 (by decide +kernel) (by decide)
theorem k_748 : Cond.methodLink RX10 129 yX7_seekFrom ∈ GT := mGT 748 (by decide +kernel) (by decide)
theorem k_749 : Cond.instanceMethod yX7_seekFrom ∈ GT := mGT 749 (by decide +kernel) (by decide)
theorem k_750 : Cond.selects RX7 yX7_seekFrom yX7_seekFrom ∈ GT := mGT 750 (by decide +kernel) (by decide)
theorem k_751 : Cond.code yX7_seekFrom cX7_seekFrom 6 (some .int) ∈ GT := mGT 751 (by decide +kernel) (by decide)
theorem k_752 : Cond.methodLink RX7 134 Lib.Math.max.name ∈ GT := mGT 752 (by decide +kernel) (by decide)
theorem k_753 : Cond.methodLink RX7 142 yX7_treeOf ∈ GT := mGT 753 (by decide +kernel) (by decide)
theorem k_754 : Cond.instanceMethod yX7_treeOf ∈ GT := mGT 754 (by decide +kernel) (by decide)
theorem k_755 : Cond.selects RX7 yX7_treeOf yX7_treeOf ∈ GT := mGT 755 (by decide +kernel) (by decide)
theorem k_756 : Cond.code yX7_treeOf cX7_treeOf 2 (some (.object "MeltingHeaps$Tree")) ∈ GT := mGT 756 (by decide +kernel) (by decide)
theorem k_757 : Cond.methodLink RX7 58 yX8_grow ∈ GT := mGT 757 (by decide +kernel) (by decide)
theorem k_758 : Cond.instanceMethod yX8_grow ∈ GT := mGT 758 (by decide +kernel) (by decide)
theorem k_759 : Cond.selects RX8 yX8_grow yX8_grow ∈ GT := mGT 759 (by decide +kernel) (by decide)
theorem k_760 : Cond.code yX8_grow cX8_grow 7 none ∈ GT := mGT 760 (by decide +kernel) (by decide)
theorem k_761 : Cond.methodLink RX8 43 yX0_keyAt ∈ GT := mGT 761 (by decide +kernel) (by decide)
theorem k_762 : Cond.methodLink RX8 47 yX8_addKey ∈ GT := mGT 762 (by decide +kernel) (by decide)
theorem k_764 : Cond.instanceMethod yX8_addKey ∈ GT := mGT 764 (by decide +kernel) (by decide)
theorem k_765 : Cond.code yX8_addKey cX8_addKey 2 none ∈ GT := mGT 765 (by decide +kernel) (by decide)
theorem k_766 : Cond.methodLink RX8 51 yX8_link ∈ GT := mGT 766 (by decide +kernel) (by decide)
theorem k_768 : Cond.instanceMethod yX8_link ∈ GT := mGT 768 (by decide +kernel) (by decide)
theorem k_769 : Cond.code yX8_link cX8_link 4 none ∈ GT := mGT 769 (by decide +kernel) (by decide)
theorem n_770 : Cond.methodLinkNest RX8 57 yX10_priority "MeltingHeaps" ∈ NT := mNT 770 (by decide +kernel) (by decide)
theorem k_771 : Cond.static yX10_priority ∈ GT := mGT 771 (by decide +kernel) (by decide)
theorem k_772 : Cond.code yX10_priority cX10_priority 1 (some .int) ∈ GT := mGT 772 (by decide +kernel) (by decide)
theorem k_773 : Cond.constant RX10 322 (40503 : Int32) ∈ GT := mGT 773 (by decide +kernel) (by decide)
theorem k_774 : Cond.constant RX10 323 (65535 : Int32) ∈ GT := mGT 774 (by decide +kernel) (by decide)
theorem k_775 : Cond.methodLink RX8 54 yX8_climb ∈ GT := mGT 775 (by decide +kernel) (by decide)
theorem k_777 : Cond.instanceMethod yX8_climb ∈ GT := mGT 777 (by decide +kernel) (by decide)
theorem k_778 : Cond.code yX8_climb cX8_climb 4 none ∈ GT := mGT 778 (by decide +kernel) (by decide)
theorem k_779 : Cond.methodLink RX7 146 yX8_steps ∈ GT := mGT 779 (by decide +kernel) (by decide)
theorem k_780 : Cond.instanceMethod yX8_steps ∈ GT := mGT 780 (by decide +kernel) (by decide)
theorem k_781 : Cond.selects RX8 yX8_steps yX8_steps ∈ GT := mGT 781 (by decide +kernel) (by decide)
theorem k_782 : Cond.code yX8_steps cX8_steps 6 (some .int) ∈ GT := mGT 782 (by decide +kernel) (by decide)
theorem k_783 : Cond.methodLink RX8 60 yX8_isNode ∈ GT := mGT 783 (by decide +kernel) (by decide)
theorem k_785 : Cond.instanceMethod yX8_isNode ∈ GT := mGT 785 (by decide +kernel) (by decide)
theorem k_786 : Cond.code yX8_isNode cX8_isNode 2 (some .boolean) ∈ GT := mGT 786 (by decide +kernel) (by decide)
theorem k_787 : Cond.methodLink RX8 67 Lib.Math.max.name ∈ GT := mGT 787 (by decide +kernel) (by decide)
theorem k_788 : Cond.methodLink RX8 73 Lib.Math.min.name ∈ GT := mGT 788 (by decide +kernel) (by decide)
theorem k_790 : Cond.instanceMethod yX10_undo ∈ GT := mGT 790 (by decide +kernel) (by decide)
theorem k_791 : Cond.selects RX10 yX10_undo yX10_undo ∈ GT := mGT 791 (by decide +kernel) (by decide)
theorem k_792 : Cond.code yX10_undo cX10_undo 1 (some .int) ∈ GT := mGT 792 (by decide +kernel) (by decide)
theorem k_793 : Cond.methodLink RX10 135 yX3_stepBack ∈ GT := mGT 793 (by decide +kernel) (by decide)
theorem k_794 : Cond.instanceMethod yX3_stepBack ∈ GT := mGT 794 (by decide +kernel) (by decide)
theorem k_795 : Cond.selects RX3 yX3_stepBack yX3_stepBack ∈ GT := mGT 795 (by decide +kernel) (by decide)
theorem k_796 : Cond.code yX3_stepBack cX3_stepBack 2 none ∈ GT := mGT 796 (by decide +kernel) (by decide)
theorem k_797 : Cond.methodLink RX3 35 yX6_give ∈ GT := mGT 797 (by decide +kernel) (by decide)
theorem k_799 : Cond.instanceMethod yX10_set ∈ GT := mGT 799 (by decide +kernel) (by decide)
theorem k_800 : Cond.selects RX10 yX10_set yX10_set ∈ GT := mGT 800 (by decide +kernel) (by decide)
theorem k_801 : Cond.code yX10_set cX10_set 4 (some .int) ∈ GT := mGT 801 (by decide +kernel) (by decide)
theorem k_802 : Cond.methodLink RX10 138 yX7_heapAt ∈ GT := mGT 802 (by decide +kernel) (by decide)
theorem k_803 : Cond.methodLink RX10 147 yX0_keyAt ∈ GT := mGT 803 (by decide +kernel) (by decide)
theorem k_804 : Cond.methodLink RX10 150 yX0_markedBetween ∈ GT := mGT 804 (by decide +kernel) (by decide)
theorem k_805 : Cond.instanceMethod yX0_markedBetween ∈ GT := mGT 805 (by decide +kernel) (by decide)
theorem k_806 : Cond.selects RX0 yX0_markedBetween yX0_markedBetween ∈ GT := mGT 806 (by decide +kernel) (by decide)
theorem k_807 : Cond.code yX0_markedBetween cX0_markedBetween 6 (some .int) ∈ GT := mGT 807 (by decide +kernel) (by decide)
theorem k_808 : Cond.methodLink RX0 35 yX0_markAt ∈ GT := mGT 808 (by decide +kernel) (by decide)
theorem k_809 : Cond.instanceMethod yX0_markAt ∈ GT := mGT 809 (by decide +kernel) (by decide)
theorem k_810 : Cond.selects RX0 yX0_markAt yX0_markAt ∈ GT := mGT 810 (by decide +kernel) (by decide)
theorem k_811 : Cond.code yX0_markAt cX0_markAt 2 (some .int) ∈ GT := mGT 811 (by decide +kernel) (by decide)
theorem k_812 : Cond.methodLink RX10 153 yX7_treeOf ∈ GT := mGT 812 (by decide +kernel) (by decide)
theorem k_813 : Cond.methodLink RX10 157 yX8_rootKey ∈ GT := mGT 813 (by decide +kernel) (by decide)
theorem k_814 : Cond.instanceMethod yX8_rootKey ∈ GT := mGT 814 (by decide +kernel) (by decide)
theorem k_815 : Cond.selects RX8 yX8_rootKey yX8_rootKey ∈ GT := mGT 815 (by decide +kernel) (by decide)
theorem k_816 : Cond.code yX8_rootKey cX8_rootKey 1 (some .int) ∈ GT := mGT 816 (by decide +kernel) (by decide)
theorem k_817 : Cond.methodLink RX8 64 yX8_keyOf ∈ GT := mGT 817 (by decide +kernel) (by decide)
theorem k_819 : Cond.instanceMethod yX8_keyOf ∈ GT := mGT 819 (by decide +kernel) (by decide)
theorem k_820 : Cond.code yX8_keyOf cX8_keyOf 2 (some .int) ∈ GT := mGT 820 (by decide +kernel) (by decide)
theorem k_821 : Cond.methodLink RX10 162 yX8_high ∈ GT := mGT 821 (by decide +kernel) (by decide)
theorem k_822 : Cond.instanceMethod yX8_high ∈ GT := mGT 822 (by decide +kernel) (by decide)
theorem k_823 : Cond.selects RX8 yX8_high yX8_high ∈ GT := mGT 823 (by decide +kernel) (by decide)
theorem k_824 : Cond.code yX8_high cX8_high 3 (some .int) ∈ GT := mGT 824 (by decide +kernel) (by decide)
theorem k_825 : Cond.methodLink RX10 168 yX0_leastDifference ∈ GT := mGT 825 (by decide +kernel) (by decide)
theorem k_826 : Cond.instanceMethod yX0_leastDifference ∈ GT := mGT 826 (by decide +kernel) (by decide)
theorem k_827 : Cond.selects RX0 yX0_leastDifference yX0_leastDifference ∈ GT := mGT 827 (by decide +kernel) (by decide)
theorem k_828 : Cond.code yX0_leastDifference cX0_leastDifference 4 (some .int) ∈ GT := mGT 828 (by decide +kernel) (by decide)
theorem k_829 : Cond.methodLink RX10 171 yX8_allDepths ∈ GT := mGT 829 (by decide +kernel) (by decide)
theorem k_830 : Cond.instanceMethod yX8_allDepths ∈ GT := mGT 830 (by decide +kernel) (by decide)
theorem k_831 : Cond.selects RX8 yX8_allDepths yX8_allDepths ∈ GT := mGT 831 (by decide +kernel) (by decide)
theorem k_832 : Cond.code yX8_allDepths cX8_allDepths 3 (some .int) ∈ GT := mGT 832 (by decide +kernel) (by decide)
theorem k_833 : Cond.methodLink RX10 174 yX0_stretches ∈ GT := mGT 833 (by decide +kernel) (by decide)
theorem k_834 : Cond.instanceMethod yX0_stretches ∈ GT := mGT 834 (by decide +kernel) (by decide)
theorem k_835 : Cond.selects RX0 yX0_stretches yX0_stretches ∈ GT := mGT 835 (by decide +kernel) (by decide)
theorem k_836 : Cond.code yX0_stretches cX0_stretches 3 (some .int) ∈ GT := mGT 836 (by decide +kernel) (by decide)
theorem k_837 : Cond.methodLink RX10 177 yX0_sum ∈ GT := mGT 837 (by decide +kernel) (by decide)
theorem k_838 : Cond.instanceMethod yX0_sum ∈ GT := mGT 838 (by decide +kernel) (by decide)
theorem k_839 : Cond.selects RX0 yX0_sum yX0_sum ∈ GT := mGT 839 (by decide +kernel) (by decide)
theorem k_840 : Cond.code yX0_sum cX0_sum 3 (some .int) ∈ GT := mGT 840 (by decide +kernel) (by decide)
theorem k_842 : Cond.instanceMethod yX10_key ∈ GT := mGT 842 (by decide +kernel) (by decide)
theorem k_843 : Cond.selects RX10 yX10_key yX10_key ∈ GT := mGT 843 (by decide +kernel) (by decide)
theorem k_844 : Cond.code yX10_key cX10_key 4 (some .int) ∈ GT := mGT 844 (by decide +kernel) (by decide)
theorem k_846 : Cond.instanceMethod yX10_of ∈ GT := mGT 846 (by decide +kernel) (by decide)
theorem k_847 : Cond.selects RX10 yX10_of yX10_of ∈ GT := mGT 847 (by decide +kernel) (by decide)
theorem k_848 : Cond.code yX10_of cX10_of 6 (some .int) ∈ GT := mGT 848 (by decide +kernel) (by decide)
theorem k_849 : Cond.methodLink RX10 180 yX0_rankOf ∈ GT := mGT 849 (by decide +kernel) (by decide)
theorem k_850 : Cond.methodLink RX10 183 yX0_markAt ∈ GT := mGT 850 (by decide +kernel) (by decide)
theorem k_851 : Cond.methodLink RX10 186 yX8_depthAt ∈ GT := mGT 851 (by decide +kernel) (by decide)
theorem k_852 : Cond.instanceMethod yX8_depthAt ∈ GT := mGT 852 (by decide +kernel) (by decide)
theorem k_853 : Cond.selects RX8 yX8_depthAt yX8_depthAt ∈ GT := mGT 853 (by decide +kernel) (by decide)
theorem k_854 : Cond.code yX8_depthAt cX8_depthAt 2 (some .int) ∈ GT := mGT 854 (by decide +kernel) (by decide)
theorem k_855 : Cond.methodLink RX10 189 yX8_keyAbove ∈ GT := mGT 855 (by decide +kernel) (by decide)
theorem k_856 : Cond.instanceMethod yX8_keyAbove ∈ GT := mGT 856 (by decide +kernel) (by decide)
theorem k_857 : Cond.selects RX8 yX8_keyAbove yX8_keyAbove ∈ GT := mGT 857 (by decide +kernel) (by decide)
theorem k_858 : Cond.code yX8_keyAbove cX8_keyAbove 2 (some .int) ∈ GT := mGT 858 (by decide +kernel) (by decide)
theorem k_859 : Cond.methodLink RX10 192 yX8_keyAtLeft ∈ GT := mGT 859 (by decide +kernel) (by decide)
theorem k_860 : Cond.instanceMethod yX8_keyAtLeft ∈ GT := mGT 860 (by decide +kernel) (by decide)
theorem k_861 : Cond.selects RX8 yX8_keyAtLeft yX8_keyAtLeft ∈ GT := mGT 861 (by decide +kernel) (by decide)
theorem k_862 : Cond.code yX8_keyAtLeft cX8_keyAtLeft 2 (some .int) ∈ GT := mGT 862 (by decide +kernel) (by decide)
theorem k_863 : Cond.methodLink RX10 195 yX8_keyAtRight ∈ GT := mGT 863 (by decide +kernel) (by decide)
theorem k_864 : Cond.instanceMethod yX8_keyAtRight ∈ GT := mGT 864 (by decide +kernel) (by decide)
theorem k_865 : Cond.selects RX8 yX8_keyAtRight yX8_keyAtRight ∈ GT := mGT 865 (by decide +kernel) (by decide)
theorem k_866 : Cond.code yX8_keyAtRight cX8_keyAtRight 2 (some .int) ∈ GT := mGT 866 (by decide +kernel) (by decide)
theorem k_867 : Cond.methodLink RX10 198 yX10_priority ∈ GT := mGT 867 (by decide +kernel) (by decide)
theorem k_868 : Cond.methodLink RX10 201 yX8_howManyBelow ∈ GT := mGT 868 (by decide +kernel) (by decide)
theorem k_869 : Cond.instanceMethod yX8_howManyBelow ∈ GT := mGT 869 (by decide +kernel) (by decide)
theorem k_870 : Cond.selects RX8 yX8_howManyBelow yX8_howManyBelow ∈ GT := mGT 870 (by decide +kernel) (by decide)
theorem k_871 : Cond.code yX8_howManyBelow cX8_howManyBelow 2 (some .int) ∈ GT := mGT 871 (by decide +kernel) (by decide)
theorem k_873 : Cond.instanceMethod yX10_within ∈ GT := mGT 873 (by decide +kernel) (by decide)
theorem k_874 : Cond.selects RX10 yX10_within yX10_within ∈ GT := mGT 874 (by decide +kernel) (by decide)
theorem k_875 : Cond.code yX10_within cX10_within 6 (some .int) ∈ GT := mGT 875 (by decide +kernel) (by decide)
theorem k_876 : Cond.methodLink RX10 204 yX0_howManyBetween ∈ GT := mGT 876 (by decide +kernel) (by decide)
theorem k_878 : Cond.instanceMethod yX10_far ∈ GT := mGT 878 (by decide +kernel) (by decide)
theorem k_879 : Cond.selects RX10 yX10_far yX10_far ∈ GT := mGT 879 (by decide +kernel) (by decide)
theorem k_880 : Cond.code yX10_far cX10_far 5 (some .int) ∈ GT := mGT 880 (by decide +kernel) (by decide)
theorem k_881 : Cond.methodLink RX10 207 yX8_steps ∈ GT := mGT 881 (by decide +kernel) (by decide)
theorem k_883 : Cond.instanceMethod yX10_where ∈ GT := mGT 883 (by decide +kernel) (by decide)
theorem k_884 : Cond.selects RX10 yX10_where yX10_where ∈ GT := mGT 884 (by decide +kernel) (by decide)
theorem k_885 : Cond.code yX10_where cX10_where 4 (some .int) ∈ GT := mGT 885 (by decide +kernel) (by decide)
theorem k_887 : Cond.instanceMethod yX10_count ∈ GT := mGT 887 (by decide +kernel) (by decide)
theorem k_888 : Cond.selects RX10 yX10_count yX10_count ∈ GT := mGT 888 (by decide +kernel) (by decide)
theorem k_889 : Cond.code yX10_count cX10_count 2 (some .int) ∈ GT := mGT 889 (by decide +kernel) (by decide)
theorem k_890 : Cond.methodLink RX10 214 yX7_notEmpty ∈ GT := mGT 890 (by decide +kernel) (by decide)
theorem k_891 : Cond.instanceMethod yX7_notEmpty ∈ GT := mGT 891 (by decide +kernel) (by decide)
theorem k_892 : Cond.selects RX7 yX7_notEmpty yX7_notEmpty ∈ GT := mGT 892 (by decide +kernel) (by decide)
theorem k_893 : Cond.code yX7_notEmpty cX7_notEmpty 3 (some .int) ∈ GT := mGT 893 (by decide +kernel) (by decide)
theorem k_894 : Cond.methodLink RX10 217 yX7_unlike ∈ GT := mGT 894 (by decide +kernel) (by decide)
theorem k_895 : Cond.instanceMethod yX7_unlike ∈ GT := mGT 895 (by decide +kernel) (by decide)
theorem k_896 : Cond.selects RX7 yX7_unlike yX7_unlike ∈ GT := mGT 896 (by decide +kernel) (by decide)
theorem k_897 : Cond.code yX7_unlike cX7_unlike 6 (some .int) ∈ GT := mGT 897 (by decide +kernel) (by decide)
theorem k_898 : Cond.methodLink RX7 152 yX2_begin ∈ GT := mGT 898 (by decide +kernel) (by decide)
theorem k_899 : Cond.instanceMethod yX2_begin ∈ GT := mGT 899 (by decide +kernel) (by decide)
theorem k_900 : Cond.selects RX2 yX2_begin yX2_begin ∈ GT := mGT 900 (by decide +kernel) (by decide)
theorem k_901 : Cond.code yX2_begin cX2_begin 2 none ∈ GT := mGT 901 (by decide +kernel) (by decide)
theorem k_902 : Cond.methodLink RX7 155 yX2_next ∈ GT := mGT 902 (by decide +kernel) (by decide)
theorem k_903 : Cond.instanceMethod yX2_next ∈ GT := mGT 903 (by decide +kernel) (by decide)
theorem k_904 : Cond.selects RX2 yX2_next yX2_next ∈ GT := mGT 904 (by decide +kernel) (by decide)
theorem k_905 : Cond.code yX2_next cX2_next 5 (some .int) ∈ GT := mGT 905 (by decide +kernel) (by decide)
theorem k_906 : Cond.methodLink RX2 19 yX0_keyAt ∈ GT := mGT 906 (by decide +kernel) (by decide)
theorem k_907 : Cond.methodLink RX10 220 yX7_allMarked ∈ GT := mGT 907 (by decide +kernel) (by decide)
theorem k_908 : Cond.instanceMethod yX7_allMarked ∈ GT := mGT 908 (by decide +kernel) (by decide)
theorem k_909 : Cond.selects RX7 yX7_allMarked yX7_allMarked ∈ GT := mGT 909 (by decide +kernel) (by decide)
theorem k_910 : Cond.code yX7_allMarked cX7_allMarked 3 (some .int) ∈ GT := mGT 910 (by decide +kernel) (by decide)
theorem k_911 : Cond.methodLink RX7 149 yX0_markedBetween ∈ GT := mGT 911 (by decide +kernel) (by decide)
theorem k_912 : Cond.methodLink RX10 223 yX7_huffman ∈ GT := mGT 912 (by decide +kernel) (by decide)
theorem k_913 : Cond.instanceMethod yX7_huffman ∈ GT := mGT 913 (by decide +kernel) (by decide)
theorem k_914 : Cond.selects RX7 yX7_huffman yX7_huffman ∈ GT := mGT 914 (by decide +kernel) (by decide)
theorem k_915 : Cond.code yX7_huffman cX7_huffman 6 (some .int) ∈ GT := mGT 915 (by decide +kernel) (by decide)
theorem k_916 : Cond.methodLink RX7 158 yX7_notEmpty ∈ GT := mGT 916 (by decide +kernel) (by decide)
theorem k_917 : Cond.methodLink RX7 161 yX7_lightest ∈ GT := mGT 917 (by decide +kernel) (by decide)
theorem k_919 : Cond.instanceMethod yX7_lightest ∈ GT := mGT 919 (by decide +kernel) (by decide)
theorem k_920 : Cond.code yX7_lightest cX7_lightest 4 (some .int) ∈ GT := mGT 920 (by decide +kernel) (by decide)
theorem k_921 : Cond.methodLink RX7 164 Lib.Math.min.name ∈ GT := mGT 921 (by decide +kernel) (by decide)
theorem k_923 : Cond.instanceMethod yX10_pair ∈ GT := mGT 923 (by decide +kernel) (by decide)
theorem k_924 : Cond.selects RX10 yX10_pair yX10_pair ∈ GT := mGT 924 (by decide +kernel) (by decide)
theorem k_925 : Cond.code yX10_pair cX10_pair 7 (some .int) ∈ GT := mGT 925 (by decide +kernel) (by decide)
theorem k_926 : Cond.methodLink RX10 226 yX7_weaveOf ∈ GT := mGT 926 (by decide +kernel) (by decide)
theorem k_927 : Cond.instanceMethod yX7_weaveOf ∈ GT := mGT 927 (by decide +kernel) (by decide)
theorem k_928 : Cond.selects RX7 yX7_weaveOf yX7_weaveOf ∈ GT := mGT 928 (by decide +kernel) (by decide)
theorem k_929 : Cond.code yX7_weaveOf cX7_weaveOf 3 (some (.object "MeltingHeaps$Weave")) ∈ GT := mGT 929 (by decide +kernel) (by decide)
theorem k_930 : Cond.methodLink RX10 247 yX7_whyNotJoin ∈ GT := mGT 930 (by decide +kernel) (by decide)
theorem k_931 : Cond.methodLink RX10 251 yX7_whyNotMelt ∈ GT := mGT 931 (by decide +kernel) (by decide)
theorem k_933 : Cond.instanceMethod yX10_cheapest ∈ GT := mGT 933 (by decide +kernel) (by decide)
theorem k_934 : Cond.selects RX10 yX10_cheapest yX10_cheapest ∈ GT := mGT 934 (by decide +kernel) (by decide)
theorem k_935 : Cond.code yX10_cheapest cX10_cheapest 2 (some .int) ∈ GT := mGT 935 (by decide +kernel) (by decide)
theorem k_936 : Cond.methodLink RX10 255 yX7_findCheapest ∈ GT := mGT 936 (by decide +kernel) (by decide)
theorem k_937 : Cond.instanceMethod yX7_findCheapest ∈ GT := mGT 937 (by decide +kernel) (by decide)
theorem k_938 : Cond.selects RX7 yX7_findCheapest yX7_findCheapest ∈ GT := mGT 938 (by decide +kernel) (by decide)
theorem k_939 : Cond.code yX7_findCheapest cX7_findCheapest 3 none ∈ GT := mGT 939 (by decide +kernel) (by decide)
theorem k_940 : Cond.methodLink RX7 167 yX7_takeIfCheaper ∈ GT := mGT 940 (by decide +kernel) (by decide)
theorem k_942 : Cond.instanceMethod yX7_takeIfCheaper ∈ GT := mGT 942 (by decide +kernel) (by decide)
theorem k_943 : Cond.code yX7_takeIfCheaper cX7_takeIfCheaper 4 none ∈ GT := mGT 943 (by decide +kernel) (by decide)
theorem k_945 : Cond.instanceMethod yX10_merged ∈ GT := mGT 945 (by decide +kernel) (by decide)
theorem k_946 : Cond.selects RX10 yX10_merged yX10_merged ∈ GT := mGT 946 (by decide +kernel) (by decide)
theorem k_947 : Cond.code yX10_merged cX10_merged 4 (some .int) ∈ GT := mGT 947 (by decide +kernel) (by decide)
theorem k_948 : Cond.methodLink RX10 271 yX2_begin ∈ GT := mGT 948 (by decide +kernel) (by decide)
theorem k_949 : Cond.methodLink RX10 276 yX2_next ∈ GT := mGT 949 (by decide +kernel) (by decide)
theorem k_951 : Cond.instanceMethod yX10_would ∈ GT := mGT 951 (by decide +kernel) (by decide)
theorem k_952 : Cond.selects RX10 yX10_would yX10_would ∈ GT := mGT 952 (by decide +kernel) (by decide)
theorem k_953 : Cond.code yX10_would cX10_would 6 (some .int) ∈ GT := mGT 953 (by decide +kernel) (by decide)
theorem k_954 : Cond.methodLink RX10 279 yX10_isKey ∈ GT := mGT 954 (by decide +kernel) (by decide)
theorem k_955 : Cond.methodLink RX10 287 yX8_grow ∈ GT := mGT 955 (by decide +kernel) (by decide)
theorem k_957 : Cond.instanceMethod yX10_halves ∈ GT := mGT 957 (by decide +kernel) (by decide)
theorem k_958 : Cond.selects RX10 yX10_halves yX10_halves ∈ GT := mGT 958 (by decide +kernel) (by decide)
theorem k_959 : Cond.code yX10_halves cX10_halves 3 (some .int) ∈ GT := mGT 959 (by decide +kernel) (by decide)
theorem k_961 : Cond.instanceMethod yX10_tell ∈ GT := mGT 961 (by decide +kernel) (by decide)
theorem k_962 : Cond.selects RX10 yX10_tell yX10_tell ∈ GT := mGT 962 (by decide +kernel) (by decide)
theorem k_963 : Cond.code yX10_tell cX10_tell 5 (some .int) ∈ GT := mGT 963 (by decide +kernel) (by decide)
theorem k_964 : Cond.methodLink RX10 291 yX0_lastToldWith ∈ GT := mGT 964 (by decide +kernel) (by decide)
theorem k_965 : Cond.instanceMethod yX0_lastToldWith ∈ GT := mGT 965 (by decide +kernel) (by decide)
theorem k_966 : Cond.selects RX0 yX0_lastToldWith yX0_lastToldWith ∈ GT := mGT 966 (by decide +kernel) (by decide)
theorem k_967 : Cond.code yX0_lastToldWith cX0_lastToldWith 3 (some .int) ∈ GT := mGT 967 (by decide +kernel) (by decide)
theorem k_968 : Cond.methodLink RX10 294 yX4_add ∈ GT := mGT 968 (by decide +kernel) (by decide)
theorem k_969 : Cond.methodLink RX10 297 yX4_addNumber ∈ GT := mGT 969 (by decide +kernel) (by decide)
theorem k_970 : Cond.instanceMethod yX4_addNumber ∈ GT := mGT 970 (by decide +kernel) (by decide)
theorem k_971 : Cond.selects RX4 yX4_addNumber yX4_addNumber ∈ GT := mGT 971 (by decide +kernel) (by decide)
theorem k_972 : Cond.code yX4_addNumber cX4_addNumber 5 none ∈ GT := mGT 972 (by decide +kernel) (by decide)
theorem k_973 : Cond.methodLink RX10 300 Lib.Math.max.name ∈ GT := mGT 973 (by decide +kernel) (by decide)
theorem k_975 : Cond.instanceMethod yX10_octet ∈ GT := mGT 975 (by decide +kernel) (by decide)
theorem k_976 : Cond.selects RX10 yX10_octet yX10_octet ∈ GT := mGT 976 (by decide +kernel) (by decide)
theorem k_977 : Cond.code yX10_octet cX10_octet 2 (some .int) ∈ GT := mGT 977 (by decide +kernel) (by decide)
theorem k_978 : Cond.methodLink RX10 305 yX4_byteAt ∈ GT := mGT 978 (by decide +kernel) (by decide)
theorem k_980 : Cond.instanceMethod yX10_image ∈ GT := mGT 980 (by decide +kernel) (by decide)
theorem k_981 : Cond.selects RX10 yX10_image yX10_image ∈ GT := mGT 981 (by decide +kernel) (by decide)
theorem k_982 : Cond.code yX10_image cX10_image 3 (some .boolean) ∈ GT := mGT 982 (by decide +kernel) (by decide)
theorem k_983 : Cond.methodLink RX10 315 yX4_copy ∈ GT := mGT 983 (by decide +kernel) (by decide)
theorem k_984 : Cond.instanceMethod yX4_copy ∈ GT := mGT 984 (by decide +kernel) (by decide)
theorem k_985 : Cond.selects RX4 yX4_copy yX4_copy ∈ GT := mGT 985 (by decide +kernel) (by decide)
theorem k_986 : Cond.code yX4_copy cX4_copy 2 none ∈ GT := mGT 986 (by decide +kernel) (by decide)
theorem k_987 : Cond.methodLink RX4 23 Lib.Math.min.name ∈ GT := mGT 987 (by decide +kernel) (by decide)
theorem k_988 : Cond.methodLink RX4 29 arraycopyName ∈ GT := mGT 988 (by decide +kernel) (by decide)
theorem k_990 : Cond.instanceMethod yX10_again ∈ GT := mGT 990 (by decide +kernel) (by decide)
theorem k_991 : Cond.selects RX10 yX10_again yX10_again ∈ GT := mGT 991 (by decide +kernel) (by decide)
theorem k_992 : Cond.code yX10_again cX10_again 3 (some .boolean) ∈ GT := mGT 992 (by decide +kernel) (by decide)
theorem k_996 : Cond.instanceMethod yX11_init ∈ GT := mGT 996 (by decide +kernel) (by decide)
theorem k_997 : Cond.code yX11_init cX11_init 1 none ∈ GT := mGT 997 (by decide +kernel) (by decide)
theorem k_998 : Cond.methodLink RX11 1 Lib.objectInit ∈ GT := mGT 998 (by decide +kernel) (by decide)
theorem k_999 : Cond.methodLink RX11 33 yX11_empties ∈ GT := mGT 999 (by decide +kernel) (by decide)
theorem k_1001 : Cond.instanceMethod yX11_empties ∈ GT := mGT 1001 (by decide +kernel) (by decide)
theorem k_1002 : Cond.code yX11_empties cX11_empties 3 none ∈ GT := mGT 1002 (by decide +kernel) (by decide)
theorem k_1003 : Cond.fieldLink RX11 7 "MeltingHeapsModel" "all" "[I" ∈ GT := mGT 1003 (by decide +kernel) (by decide)
theorem k_1004 : Cond.fieldLink RX11 13 "MeltingHeapsModel" "tape" "[I" ∈ GT := mGT 1004 (by decide +kernel) (by decide)
theorem k_1005 : Cond.fieldLink RX11 16 "MeltingHeapsModel" "told" "[I" ∈ GT := mGT 1005 (by decide +kernel) (by decide)
theorem k_1006 : Cond.fieldLink RX11 19 "MeltingHeapsModel" "isImage" "[Z" ∈ GT := mGT 1006 (by decide +kernel) (by decide)
theorem k_1007 : Cond.fieldLink RX11 218 "MeltingHeapsModel" "taped" "I" ∈ GT := mGT 1007 (by decide +kernel) (by decide)
theorem k_1008 : Cond.fieldLink RX11 224 "MeltingHeapsModel" "toldMany" "I" ∈ GT := mGT 1008 (by decide +kernel) (by decide)
theorem k_1009 : Cond.fieldLink RX11 233 "MeltingHeapsModel" "faultKind" "I" ∈ GT := mGT 1009 (by decide +kernel) (by decide)
theorem k_1010 : Cond.fieldLink RX11 23 "MeltingHeapsModel" "faultPlace" "I" ∈ GT := mGT 1010 (by decide +kernel) (by decide)
theorem k_1011 : Cond.fieldLink RX11 151 "MeltingHeapsModel" "undos" "I" ∈ GT := mGT 1011 (by decide +kernel) (by decide)
theorem k_1012 : Cond.fieldLink RX11 41 "MeltingHeapsModel" "b" "I" ∈ GT := mGT 1012 (by decide +kernel) (by decide)
theorem k_1013 : Cond.fieldLink RX11 27 "MeltingHeapsModel" "row" "[I" ∈ GT := mGT 1013 (by decide +kernel) (by decide)
theorem k_1014 : Cond.fieldLink RX11 62 "MeltingHeapsModel" "rowMany" "I" ∈ GT := mGT 1014 (by decide +kernel) (by decide)
theorem k_1015 : Cond.fieldLink RX11 70 "MeltingHeapsModel" "wayFrom" "I" ∈ GT := mGT 1015 (by decide +kernel) (by decide)
theorem k_1016 : Cond.fieldLink RX11 73 "MeltingHeapsModel" "wayLast" "I" ∈ GT := mGT 1016 (by decide +kernel) (by decide)
theorem k_1017 : Cond.fieldLink RX11 76 "MeltingHeapsModel" "wayAbove" "I" ∈ GT := mGT 1017 (by decide +kernel) (by decide)
theorem k_1018 : Cond.fieldLink RX11 79 "MeltingHeapsModel" "wayDeep" "I" ∈ GT := mGT 1018 (by decide +kernel) (by decide)
theorem k_1019 : Cond.fieldLink RX11 94 "MeltingHeapsModel" "runs" "I" ∈ GT := mGT 1019 (by decide +kernel) (by decide)
theorem k_1020 : Cond.fieldLink RX11 100 "MeltingHeapsModel" "cost" "I" ∈ GT := mGT 1020 (by decide +kernel) (by decide)
theorem k_1021 : Cond.fieldLink RX11 97 "MeltingHeapsModel" "longest" "I" ∈ GT := mGT 1021 (by decide +kernel) (by decide)
theorem k_1022 : Cond.fieldLink RX11 91 "MeltingHeapsModel" "run" "I" ∈ GT := mGT 1022 (by decide +kernel) (by decide)
theorem k_1023 : Cond.fieldLink RX11 103 "MeltingHeapsModel" "runOf" "I" ∈ GT := mGT 1023 (by decide +kernel) (by decide)
theorem k_1024 : Cond.fieldLink RX11 30 "MeltingHeapsModel" "sizes" "[I" ∈ GT := mGT 1024 (by decide +kernel) (by decide)
theorem k_1025 : Cond.fieldLink RX11 236 "MeltingHeapsModel" "size0" "I" ∈ GT := mGT 1025 (by decide +kernel) (by decide)
theorem k_1026 : Cond.fieldLink RX11 239 "MeltingHeapsModel" "next" "I" ∈ GT := mGT 1026 (by decide +kernel) (by decide)
theorem k_1027 : Cond.fieldLink RX11 252 "MeltingHeapsModel" "token" "I" ∈ GT := mGT 1027 (by decide +kernel) (by decide)
theorem k_1028 : Cond.fieldLink RX11 245 "MeltingHeapsModel" "place" "I" ∈ GT := mGT 1028 (by decide +kernel) (by decide)
theorem k_1029 : Cond.fieldLink RX11 248 "MeltingHeapsModel" "value" "J" ∈ GT := mGT 1029 (by decide +kernel) (by decide)
theorem k_1085 : Cond.arrayClass .boolean ∈ GT := mGT 1085 (by decide +kernel) (by decide)
theorem k_1087 : Cond.instanceMethod yX11_put ∈ GT := mGT 1087 (by decide +kernel) (by decide)
theorem k_1088 : Cond.selects RX11 yX11_put yX11_put ∈ GT := mGT 1088 (by decide +kernel) (by decide)
theorem k_1089 : Cond.code yX11_put cX11_put 4 (some .int) ∈ GT := mGT 1089 (by decide +kernel) (by decide)
theorem k_1090 : Cond.methodLink RX11 160 yX11_refusesPut ∈ GT := mGT 1090 (by decide +kernel) (by decide)
theorem k_1092 : Cond.instanceMethod yX11_refusesPut ∈ GT := mGT 1092 (by decide +kernel) (by decide)
theorem k_1093 : Cond.code yX11_refusesPut cX11_refusesPut 3 (some .int) ∈ GT := mGT 1093 (by decide +kernel) (by decide)
theorem k_1094 : Cond.methodLink RX11 112 yX11_isSet ∈ GT := mGT 1094 (by decide +kernel) (by decide)
theorem k_1095 : Cond.static yX11_isSet ∈ GT := mGT 1095 (by decide +kernel) (by decide)
theorem k_1096 : Cond.code yX11_isSet cX11_isSet 1 (some .boolean) ∈ GT := mGT 1096 (by decide +kernel) (by decide)
theorem k_1097 : Cond.methodLink RX11 37 yX11_isIn ∈ GT := mGT 1097 (by decide +kernel) (by decide)
theorem k_1098 : Cond.static yX11_isIn ∈ GT := mGT 1098 (by decide +kernel) (by decide)
theorem k_1099 : Cond.code yX11_isIn cX11_isIn 3 (some .boolean) ∈ GT := mGT 1099 (by decide +kernel) (by decide)
theorem k_1100 : Cond.methodLink RX11 116 yX11_isKey ∈ GT := mGT 1100 (by decide +kernel) (by decide)
theorem k_1101 : Cond.static yX11_isKey ∈ GT := mGT 1101 (by decide +kernel) (by decide)
theorem k_1102 : Cond.code yX11_isKey cX11_isKey 1 (some .boolean) ∈ GT := mGT 1102 (by decide +kernel) (by decide)
theorem k_1103 : Cond.methodLink RX11 59 yX11_placeOf ∈ GT := mGT 1103 (by decide +kernel) (by decide)
theorem k_1105 : Cond.instanceMethod yX11_placeOf ∈ GT := mGT 1105 (by decide +kernel) (by decide)
theorem k_1106 : Cond.code yX11_placeOf cX11_placeOf 4 (some .int) ∈ GT := mGT 1106 (by decide +kernel) (by decide)
theorem k_1107 : Cond.methodLink RX11 52 yX11_below ∈ GT := mGT 1107 (by decide +kernel) (by decide)
theorem k_1109 : Cond.instanceMethod yX11_below ∈ GT := mGT 1109 (by decide +kernel) (by decide)
theorem k_1110 : Cond.code yX11_below cX11_below 4 (some .int) ∈ GT := mGT 1110 (by decide +kernel) (by decide)
theorem k_1111 : Cond.methodLink RX11 44 yX11_many ∈ GT := mGT 1111 (by decide +kernel) (by decide)
theorem k_1113 : Cond.instanceMethod yX11_many ∈ GT := mGT 1113 (by decide +kernel) (by decide)
theorem k_1114 : Cond.code yX11_many cX11_many 2 (some .int) ∈ GT := mGT 1114 (by decide +kernel) (by decide)
theorem k_1115 : Cond.methodLink RX11 48 yX11_keyAt ∈ GT := mGT 1115 (by decide +kernel) (by decide)
theorem k_1117 : Cond.instanceMethod yX11_keyAt ∈ GT := mGT 1117 (by decide +kernel) (by decide)
theorem k_1118 : Cond.code yX11_keyAt cX11_keyAt 3 (some .int) ∈ GT := mGT 1118 (by decide +kernel) (by decide)
theorem k_1119 : Cond.methodLink RX11 119 yX11_total ∈ GT := mGT 1119 (by decide +kernel) (by decide)
theorem k_1121 : Cond.instanceMethod yX11_total ∈ GT := mGT 1121 (by decide +kernel) (by decide)
theorem k_1122 : Cond.code yX11_total cX11_total 3 (some .int) ∈ GT := mGT 1122 (by decide +kernel) (by decide)
theorem k_1123 : Cond.methodLink RX11 163 yX11_begins ∈ GT := mGT 1123 (by decide +kernel) (by decide)
theorem k_1125 : Cond.instanceMethod yX11_begins ∈ GT := mGT 1125 (by decide +kernel) (by decide)
theorem k_1126 : Cond.code yX11_begins cX11_begins 2 (some .int) ∈ GT := mGT 1126 (by decide +kernel) (by decide)
theorem k_1127 : Cond.methodLink RX11 157 yX11_keeps ∈ GT := mGT 1127 (by decide +kernel) (by decide)
theorem k_1129 : Cond.instanceMethod yX11_keeps ∈ GT := mGT 1129 (by decide +kernel) (by decide)
theorem k_1130 : Cond.code yX11_keeps cX11_keeps 1 none ∈ GT := mGT 1130 (by decide +kernel) (by decide)
theorem k_1131 : Cond.methodLink RX11 154 yX11_copies ∈ GT := mGT 1131 (by decide +kernel) (by decide)
theorem k_1133 : Cond.instanceMethod yX11_copies ∈ GT := mGT 1133 (by decide +kernel) (by decide)
theorem k_1134 : Cond.code yX11_copies cX11_copies 5 none ∈ GT := mGT 1134 (by decide +kernel) (by decide)
theorem k_1135 : Cond.methodLink RX11 144 yX11_puts ∈ GT := mGT 1135 (by decide +kernel) (by decide)
theorem k_1137 : Cond.instanceMethod yX11_puts ∈ GT := mGT 1137 (by decide +kernel) (by decide)
theorem k_1138 : Cond.code yX11_puts cX11_puts 7 none ∈ GT := mGT 1138 (by decide +kernel) (by decide)
theorem k_1139 : Cond.methodLink RX11 55 yX11_points ∈ GT := mGT 1139 (by decide +kernel) (by decide)
theorem k_1141 : Cond.instanceMethod yX11_points ∈ GT := mGT 1141 (by decide +kernel) (by decide)
theorem k_1142 : Cond.code yX11_points cX11_points 3 none ∈ GT := mGT 1142 (by decide +kernel) (by decide)
theorem k_1144 : Cond.instanceMethod yX11_drop ∈ GT := mGT 1144 (by decide +kernel) (by decide)
theorem k_1145 : Cond.selects RX11 yX11_drop yX11_drop ∈ GT := mGT 1145 (by decide +kernel) (by decide)
theorem k_1146 : Cond.code yX11_drop cX11_drop 4 (some .int) ∈ GT := mGT 1146 (by decide +kernel) (by decide)
theorem k_1147 : Cond.methodLink RX11 141 yX11_drops ∈ GT := mGT 1147 (by decide +kernel) (by decide)
theorem k_1149 : Cond.instanceMethod yX11_drops ∈ GT := mGT 1149 (by decide +kernel) (by decide)
theorem k_1150 : Cond.code yX11_drops cX11_drops 5 none ∈ GT := mGT 1150 (by decide +kernel) (by decide)
theorem k_1152 : Cond.instanceMethod yX11_cut ∈ GT := mGT 1152 (by decide +kernel) (by decide)
theorem k_1153 : Cond.selects RX11 yX11_cut yX11_cut ∈ GT := mGT 1153 (by decide +kernel) (by decide)
theorem k_1154 : Cond.code yX11_cut cX11_cut 5 (some .int) ∈ GT := mGT 1154 (by decide +kernel) (by decide)
theorem k_1155 : Cond.methodLink RX11 166 yX11_refusesCut ∈ GT := mGT 1155 (by decide +kernel) (by decide)
theorem k_1157 : Cond.instanceMethod yX11_refusesCut ∈ GT := mGT 1157 (by decide +kernel) (by decide)
theorem k_1158 : Cond.code yX11_refusesCut cX11_refusesCut 4 (some .int) ∈ GT := mGT 1158 (by decide +kernel) (by decide)
theorem k_1159 : Cond.methodLink RX11 123 yX11_areTwo ∈ GT := mGT 1159 (by decide +kernel) (by decide)
theorem k_1161 : Cond.instanceMethod yX11_areTwo ∈ GT := mGT 1161 (by decide +kernel) (by decide)
theorem k_1162 : Cond.code yX11_areTwo cX11_areTwo 3 (some .boolean) ∈ GT := mGT 1162 (by decide +kernel) (by decide)
theorem k_1163 : Cond.methodLink RX11 127 yX11_counted ∈ GT := mGT 1163 (by decide +kernel) (by decide)
theorem k_1165 : Cond.instanceMethod yX11_counted ∈ GT := mGT 1165 (by decide +kernel) (by decide)
theorem k_1166 : Cond.code yX11_counted cX11_counted 6 (some .int) ∈ GT := mGT 1166 (by decide +kernel) (by decide)
theorem k_1167 : Cond.methodLink RX11 169 yX11_goOver ∈ GT := mGT 1167 (by decide +kernel) (by decide)
theorem k_1169 : Cond.instanceMethod yX11_goOver ∈ GT := mGT 1169 (by decide +kernel) (by decide)
theorem k_1170 : Cond.code yX11_goOver cX11_goOver 11 (some .int) ∈ GT := mGT 1170 (by decide +kernel) (by decide)
theorem k_1171 : Cond.methodLink RX11 134 yX11_markAt ∈ GT := mGT 1171 (by decide +kernel) (by decide)
theorem k_1173 : Cond.instanceMethod yX11_markAt ∈ GT := mGT 1173 (by decide +kernel) (by decide)
theorem k_1174 : Cond.code yX11_markAt cX11_markAt 3 (some .int) ∈ GT := mGT 1174 (by decide +kernel) (by decide)
theorem k_1176 : Cond.instanceMethod yX11_join ∈ GT := mGT 1176 (by decide +kernel) (by decide)
theorem k_1177 : Cond.selects RX11 yX11_join yX11_join ∈ GT := mGT 1177 (by decide +kernel) (by decide)
theorem k_1178 : Cond.code yX11_join cX11_join 4 (some .int) ∈ GT := mGT 1178 (by decide +kernel) (by decide)
theorem k_1179 : Cond.methodLink RX11 173 yX11_refusesJoin ∈ GT := mGT 1179 (by decide +kernel) (by decide)
theorem k_1181 : Cond.instanceMethod yX11_refusesJoin ∈ GT := mGT 1181 (by decide +kernel) (by decide)
theorem k_1182 : Cond.code yX11_refusesJoin cX11_refusesJoin 3 (some .int) ∈ GT := mGT 1182 (by decide +kernel) (by decide)
theorem k_1184 : Cond.instanceMethod yX11_melt ∈ GT := mGT 1184 (by decide +kernel) (by decide)
theorem k_1185 : Cond.selects RX11 yX11_melt yX11_melt ∈ GT := mGT 1185 (by decide +kernel) (by decide)
theorem k_1186 : Cond.code yX11_melt cX11_melt 6 (some .int) ∈ GT := mGT 1186 (by decide +kernel) (by decide)
theorem k_1187 : Cond.methodLink RX11 176 yX11_refusesMelt ∈ GT := mGT 1187 (by decide +kernel) (by decide)
theorem k_1189 : Cond.instanceMethod yX11_refusesMelt ∈ GT := mGT 1189 (by decide +kernel) (by decide)
theorem k_1190 : Cond.code yX11_refusesMelt cX11_refusesMelt 3 (some .int) ∈ GT := mGT 1190 (by decide +kernel) (by decide)
theorem k_1191 : Cond.methodLink RX11 131 yX11_twins ∈ GT := mGT 1191 (by decide +kernel) (by decide)
theorem k_1193 : Cond.instanceMethod yX11_twins ∈ GT := mGT 1193 (by decide +kernel) (by decide)
theorem k_1194 : Cond.code yX11_twins cX11_twins 5 (some .int) ∈ GT := mGT 1194 (by decide +kernel) (by decide)
theorem k_1195 : Cond.methodLink RX11 179 yX11_laysRuns ∈ GT := mGT 1195 (by decide +kernel) (by decide)
theorem k_1197 : Cond.instanceMethod yX11_laysRuns ∈ GT := mGT 1197 (by decide +kernel) (by decide)
theorem k_1198 : Cond.code yX11_laysRuns cX11_laysRuns 7 none ∈ GT := mGT 1198 (by decide +kernel) (by decide)
theorem k_1199 : Cond.methodLink RX11 109 yX11_goes ∈ GT := mGT 1199 (by decide +kernel) (by decide)
theorem k_1201 : Cond.instanceMethod yX11_goes ∈ GT := mGT 1201 (by decide +kernel) (by decide)
theorem k_1202 : Cond.code yX11_goes cX11_goes 2 none ∈ GT := mGT 1202 (by decide +kernel) (by decide)
theorem k_1203 : Cond.methodLink RX11 106 yX11_endsRun ∈ GT := mGT 1203 (by decide +kernel) (by decide)
theorem k_1205 : Cond.instanceMethod yX11_endsRun ∈ GT := mGT 1205 (by decide +kernel) (by decide)
theorem k_1206 : Cond.code yX11_endsRun cX11_endsRun 2 none ∈ GT := mGT 1206 (by decide +kernel) (by decide)
theorem k_1208 : Cond.instanceMethod yX11_shift ∈ GT := mGT 1208 (by decide +kernel) (by decide)
theorem k_1209 : Cond.selects RX11 yX11_shift yX11_shift ∈ GT := mGT 1209 (by decide +kernel) (by decide)
theorem k_1210 : Cond.code yX11_shift cX11_shift 4 (some .int) ∈ GT := mGT 1210 (by decide +kernel) (by decide)
theorem k_1211 : Cond.methodLink RX11 182 yX11_refusesShift ∈ GT := mGT 1211 (by decide +kernel) (by decide)
theorem k_1213 : Cond.instanceMethod yX11_refusesShift ∈ GT := mGT 1213 (by decide +kernel) (by decide)
theorem k_1214 : Cond.code yX11_refusesShift cX11_refusesShift 3 (some .int) ∈ GT := mGT 1214 (by decide +kernel) (by decide)
theorem k_1215 : Cond.methodLink RX11 185 yX11_shifts ∈ GT := mGT 1215 (by decide +kernel) (by decide)
theorem k_1217 : Cond.instanceMethod yX11_shifts ∈ GT := mGT 1217 (by decide +kernel) (by decide)
theorem k_1218 : Cond.code yX11_shifts cX11_shifts 4 none ∈ GT := mGT 1218 (by decide +kernel) (by decide)
theorem k_1219 : Cond.methodLink RX11 148 yX11_finger ∈ GT := mGT 1219 (by decide +kernel) (by decide)
theorem k_1221 : Cond.instanceMethod yX11_finger ∈ GT := mGT 1221 (by decide +kernel) (by decide)
theorem k_1222 : Cond.code yX11_finger cX11_finger 2 (some .int) ∈ GT := mGT 1222 (by decide +kernel) (by decide)
theorem k_1224 : Cond.instanceMethod yX11_move ∈ GT := mGT 1224 (by decide +kernel) (by decide)
theorem k_1225 : Cond.selects RX11 yX11_move yX11_move ∈ GT := mGT 1225 (by decide +kernel) (by decide)
theorem k_1226 : Cond.code yX11_move cX11_move 6 (some .int) ∈ GT := mGT 1226 (by decide +kernel) (by decide)
theorem k_1227 : Cond.methodLink RX11 188 yX11_refusesMove ∈ GT := mGT 1227 (by decide +kernel) (by decide)
theorem k_1229 : Cond.instanceMethod yX11_refusesMove ∈ GT := mGT 1229 (by decide +kernel) (by decide)
theorem k_1230 : Cond.code yX11_refusesMove cX11_refusesMove 7 (some .int) ∈ GT := mGT 1230 (by decide +kernel) (by decide)
theorem k_1232 : Cond.instanceMethod yX11_mark ∈ GT := mGT 1232 (by decide +kernel) (by decide)
theorem k_1233 : Cond.selects RX11 yX11_mark yX11_mark ∈ GT := mGT 1233 (by decide +kernel) (by decide)
theorem k_1234 : Cond.code yX11_mark cX11_mark 6 (some .int) ∈ GT := mGT 1234 (by decide +kernel) (by decide)
theorem k_1235 : Cond.methodLink RX11 191 yX11_refusesMark ∈ GT := mGT 1235 (by decide +kernel) (by decide)
theorem k_1237 : Cond.instanceMethod yX11_refusesMark ∈ GT := mGT 1237 (by decide +kernel) (by decide)
theorem k_1238 : Cond.code yX11_refusesMark cX11_refusesMark 5 (some .int) ∈ GT := mGT 1238 (by decide +kernel) (by decide)
theorem k_1239 : Cond.methodLink RX11 137 yX11_marked ∈ GT := mGT 1239 (by decide +kernel) (by decide)
theorem k_1241 : Cond.instanceMethod yX11_marked ∈ GT := mGT 1241 (by decide +kernel) (by decide)
theorem k_1242 : Cond.code yX11_marked cX11_marked 8 (some .int) ∈ GT := mGT 1242 (by decide +kernel) (by decide)
theorem k_1244 : Cond.instanceMethod yX11_seek ∈ GT := mGT 1244 (by decide +kernel) (by decide)
theorem k_1245 : Cond.selects RX11 yX11_seek yX11_seek ∈ GT := mGT 1245 (by decide +kernel) (by decide)
theorem k_1246 : Cond.code yX11_seek cX11_seek 6 (some .int) ∈ GT := mGT 1246 (by decide +kernel) (by decide)
theorem k_1247 : Cond.methodLink RX11 194 yX11_laysRow ∈ GT := mGT 1247 (by decide +kernel) (by decide)
theorem k_1249 : Cond.instanceMethod yX11_laysRow ∈ GT := mGT 1249 (by decide +kernel) (by decide)
theorem k_1250 : Cond.code yX11_laysRow cX11_laysRow 3 none ∈ GT := mGT 1250 (by decide +kernel) (by decide)
theorem k_1251 : Cond.methodLink RX11 197 yX11_farOf ∈ GT := mGT 1251 (by decide +kernel) (by decide)
theorem k_1253 : Cond.instanceMethod yX11_farOf ∈ GT := mGT 1253 (by decide +kernel) (by decide)
theorem k_1254 : Cond.code yX11_farOf cX11_farOf 5 (some .int) ∈ GT := mGT 1254 (by decide +kernel) (by decide)
theorem k_1255 : Cond.methodLink RX11 88 yX11_depth ∈ GT := mGT 1255 (by decide +kernel) (by decide)
theorem k_1257 : Cond.instanceMethod yX11_depth ∈ GT := mGT 1257 (by decide +kernel) (by decide)
theorem k_1258 : Cond.code yX11_depth cX11_depth 2 (some .int) ∈ GT := mGT 1258 (by decide +kernel) (by decide)
theorem k_1259 : Cond.methodLink RX11 85 yX11_goesTo ∈ GT := mGT 1259 (by decide +kernel) (by decide)
theorem k_1261 : Cond.instanceMethod yX11_goesTo ∈ GT := mGT 1261 (by decide +kernel) (by decide)
theorem k_1262 : Cond.code yX11_goesTo cX11_goesTo 3 none ∈ GT := mGT 1262 (by decide +kernel) (by decide)
theorem k_1263 : Cond.methodLink RX11 82 yX11_ahead ∈ GT := mGT 1263 (by decide +kernel) (by decide)
theorem k_1265 : Cond.instanceMethod yX11_ahead ∈ GT := mGT 1265 (by decide +kernel) (by decide)
theorem k_1266 : Cond.code yX11_ahead cX11_ahead 5 (some .int) ∈ GT := mGT 1266 (by decide +kernel) (by decide)
theorem k_1267 : Cond.methodLink RX11 67 yX11_priority ∈ GT := mGT 1267 (by decide +kernel) (by decide)
theorem k_1268 : Cond.static yX11_priority ∈ GT := mGT 1268 (by decide +kernel) (by decide)
theorem k_1269 : Cond.code yX11_priority cX11_priority 1 (some .int) ∈ GT := mGT 1269 (by decide +kernel) (by decide)
theorem k_1270 : Cond.constant RX11 65 (40503 : Int32) ∈ GT := mGT 1270 (by decide +kernel) (by decide)
theorem k_1271 : Cond.constant RX11 66 (65536 : Int32) ∈ GT := mGT 1271 (by decide +kernel) (by decide)
theorem k_1273 : Cond.instanceMethod yX11_undo ∈ GT := mGT 1273 (by decide +kernel) (by decide)
theorem k_1274 : Cond.selects RX11 yX11_undo yX11_undo ∈ GT := mGT 1274 (by decide +kernel) (by decide)
theorem k_1275 : Cond.code yX11_undo cX11_undo 1 (some .int) ∈ GT := mGT 1275 (by decide +kernel) (by decide)
theorem k_1277 : Cond.instanceMethod yX11_set ∈ GT := mGT 1277 (by decide +kernel) (by decide)
theorem k_1278 : Cond.selects RX11 yX11_set yX11_set ∈ GT := mGT 1278 (by decide +kernel) (by decide)
theorem k_1279 : Cond.code yX11_set cX11_set 3 (some .int) ∈ GT := mGT 1279 (by decide +kernel) (by decide)
theorem k_1280 : Cond.methodLink RX11 200 yX11_high ∈ GT := mGT 1280 (by decide +kernel) (by decide)
theorem k_1282 : Cond.instanceMethod yX11_high ∈ GT := mGT 1282 (by decide +kernel) (by decide)
theorem k_1283 : Cond.code yX11_high cX11_high 3 (some .int) ∈ GT := mGT 1283 (by decide +kernel) (by decide)
theorem k_1284 : Cond.methodLink RX11 203 yX11_summed ∈ GT := mGT 1284 (by decide +kernel) (by decide)
theorem k_1286 : Cond.instanceMethod yX11_summed ∈ GT := mGT 1286 (by decide +kernel) (by decide)
theorem k_1287 : Cond.code yX11_summed cX11_summed 7 (some .int) ∈ GT := mGT 1287 (by decide +kernel) (by decide)
theorem k_1289 : Cond.instanceMethod yX11_key ∈ GT := mGT 1289 (by decide +kernel) (by decide)
theorem k_1290 : Cond.selects RX11 yX11_key yX11_key ∈ GT := mGT 1290 (by decide +kernel) (by decide)
theorem k_1291 : Cond.code yX11_key cX11_key 3 (some .int) ∈ GT := mGT 1291 (by decide +kernel) (by decide)
theorem k_1293 : Cond.instanceMethod yX11_of ∈ GT := mGT 1293 (by decide +kernel) (by decide)
theorem k_1294 : Cond.selects RX11 yX11_of yX11_of ∈ GT := mGT 1294 (by decide +kernel) (by decide)
theorem k_1295 : Cond.code yX11_of cX11_of 5 (some .int) ∈ GT := mGT 1295 (by decide +kernel) (by decide)
theorem k_1296 : Cond.methodLink RX11 206 yX11_keyOf ∈ GT := mGT 1296 (by decide +kernel) (by decide)
theorem k_1298 : Cond.instanceMethod yX11_keyOf ∈ GT := mGT 1298 (by decide +kernel) (by decide)
theorem k_1299 : Cond.code yX11_keyOf cX11_keyOf 2 (some .int) ∈ GT := mGT 1299 (by decide +kernel) (by decide)
theorem k_1301 : Cond.instanceMethod yX11_within ∈ GT := mGT 1301 (by decide +kernel) (by decide)
theorem k_1302 : Cond.selects RX11 yX11_within yX11_within ∈ GT := mGT 1302 (by decide +kernel) (by decide)
theorem k_1303 : Cond.code yX11_within cX11_within 7 (some .int) ∈ GT := mGT 1303 (by decide +kernel) (by decide)
theorem k_1305 : Cond.instanceMethod yX11_far ∈ GT := mGT 1305 (by decide +kernel) (by decide)
theorem k_1306 : Cond.selects RX11 yX11_far yX11_far ∈ GT := mGT 1306 (by decide +kernel) (by decide)
theorem k_1307 : Cond.code yX11_far cX11_far 4 (some .int) ∈ GT := mGT 1307 (by decide +kernel) (by decide)
theorem k_1309 : Cond.instanceMethod yX11_where ∈ GT := mGT 1309 (by decide +kernel) (by decide)
theorem k_1310 : Cond.selects RX11 yX11_where yX11_where ∈ GT := mGT 1310 (by decide +kernel) (by decide)
theorem k_1311 : Cond.code yX11_where cX11_where 4 (some .int) ∈ GT := mGT 1311 (by decide +kernel) (by decide)
theorem k_1313 : Cond.instanceMethod yX11_count ∈ GT := mGT 1313 (by decide +kernel) (by decide)
theorem k_1314 : Cond.selects RX11 yX11_count yX11_count ∈ GT := mGT 1314 (by decide +kernel) (by decide)
theorem k_1315 : Cond.code yX11_count cX11_count 5 (some .int) ∈ GT := mGT 1315 (by decide +kernel) (by decide)
theorem k_1316 : Cond.methodLink RX11 215 yX11_unlike ∈ GT := mGT 1316 (by decide +kernel) (by decide)
theorem k_1318 : Cond.instanceMethod yX11_unlike ∈ GT := mGT 1318 (by decide +kernel) (by decide)
theorem k_1319 : Cond.code yX11_unlike cX11_unlike 4 (some .int) ∈ GT := mGT 1319 (by decide +kernel) (by decide)
theorem k_1320 : Cond.methodLink RX11 209 yX11_where ∈ GT := mGT 1320 (by decide +kernel) (by decide)
theorem k_1321 : Cond.methodLink RX11 221 yX11_huffman ∈ GT := mGT 1321 (by decide +kernel) (by decide)
theorem k_1323 : Cond.instanceMethod yX11_huffman ∈ GT := mGT 1323 (by decide +kernel) (by decide)
theorem k_1324 : Cond.code yX11_huffman cX11_huffman 5 (some .int) ∈ GT := mGT 1324 (by decide +kernel) (by decide)
theorem k_1325 : Cond.methodLink RX11 212 yX11_fewest ∈ GT := mGT 1325 (by decide +kernel) (by decide)
theorem k_1327 : Cond.instanceMethod yX11_fewest ∈ GT := mGT 1327 (by decide +kernel) (by decide)
theorem k_1328 : Cond.code yX11_fewest cX11_fewest 4 (some .int) ∈ GT := mGT 1328 (by decide +kernel) (by decide)
theorem k_1330 : Cond.instanceMethod yX11_pair ∈ GT := mGT 1330 (by decide +kernel) (by decide)
theorem k_1331 : Cond.selects RX11 yX11_pair yX11_pair ∈ GT := mGT 1331 (by decide +kernel) (by decide)
theorem k_1332 : Cond.code yX11_pair cX11_pair 4 (some .int) ∈ GT := mGT 1332 (by decide +kernel) (by decide)
theorem k_1334 : Cond.instanceMethod yX11_cheapest ∈ GT := mGT 1334 (by decide +kernel) (by decide)
theorem k_1335 : Cond.selects RX11 yX11_cheapest yX11_cheapest ∈ GT := mGT 1335 (by decide +kernel) (by decide)
theorem k_1336 : Cond.code yX11_cheapest cX11_cheapest 7 (some .int) ∈ GT := mGT 1336 (by decide +kernel) (by decide)
theorem k_1338 : Cond.instanceMethod yX11_merged ∈ GT := mGT 1338 (by decide +kernel) (by decide)
theorem k_1339 : Cond.selects RX11 yX11_merged yX11_merged ∈ GT := mGT 1339 (by decide +kernel) (by decide)
theorem k_1340 : Cond.code yX11_merged cX11_merged 6 (some .int) ∈ GT := mGT 1340 (by decide +kernel) (by decide)
theorem k_1342 : Cond.instanceMethod yX11_would ∈ GT := mGT 1342 (by decide +kernel) (by decide)
theorem k_1343 : Cond.selects RX11 yX11_would yX11_would ∈ GT := mGT 1343 (by decide +kernel) (by decide)
theorem k_1344 : Cond.code yX11_would cX11_would 6 (some .int) ∈ GT := mGT 1344 (by decide +kernel) (by decide)
theorem k_1346 : Cond.instanceMethod yX11_halves ∈ GT := mGT 1346 (by decide +kernel) (by decide)
theorem k_1347 : Cond.selects RX11 yX11_halves yX11_halves ∈ GT := mGT 1347 (by decide +kernel) (by decide)
theorem k_1348 : Cond.code yX11_halves cX11_halves 2 (some .int) ∈ GT := mGT 1348 (by decide +kernel) (by decide)
theorem k_1350 : Cond.instanceMethod yX11_tell ∈ GT := mGT 1350 (by decide +kernel) (by decide)
theorem k_1351 : Cond.selects RX11 yX11_tell yX11_tell ∈ GT := mGT 1351 (by decide +kernel) (by decide)
theorem k_1352 : Cond.code yX11_tell cX11_tell 4 (some .int) ∈ GT := mGT 1352 (by decide +kernel) (by decide)
theorem k_1353 : Cond.methodLink RX11 227 yX11_tells ∈ GT := mGT 1353 (by decide +kernel) (by decide)
theorem k_1355 : Cond.instanceMethod yX11_tells ∈ GT := mGT 1355 (by decide +kernel) (by decide)
theorem k_1356 : Cond.code yX11_tells cX11_tells 2 none ∈ GT := mGT 1356 (by decide +kernel) (by decide)
theorem k_1357 : Cond.methodLink RX11 230 yX11_number ∈ GT := mGT 1357 (by decide +kernel) (by decide)
theorem k_1359 : Cond.instanceMethod yX11_number ∈ GT := mGT 1359 (by decide +kernel) (by decide)
theorem k_1360 : Cond.code yX11_number cX11_number 3 none ∈ GT := mGT 1360 (by decide +kernel) (by decide)
theorem k_1362 : Cond.instanceMethod yX11_octet ∈ GT := mGT 1362 (by decide +kernel) (by decide)
theorem k_1363 : Cond.selects RX11 yX11_octet yX11_octet ∈ GT := mGT 1363 (by decide +kernel) (by decide)
theorem k_1364 : Cond.code yX11_octet cX11_octet 2 (some .int) ∈ GT := mGT 1364 (by decide +kernel) (by decide)
theorem k_1366 : Cond.instanceMethod yX11_feed ∈ GT := mGT 1366 (by decide +kernel) (by decide)
theorem k_1367 : Cond.selects RX11 yX11_feed yX11_feed ∈ GT := mGT 1367 (by decide +kernel) (by decide)
theorem k_1368 : Cond.code yX11_feed cX11_feed 8 (some .int) ∈ GT := mGT 1368 (by decide +kernel) (by decide)
theorem k_1370 : Cond.instanceMethod yX11_end ∈ GT := mGT 1370 (by decide +kernel) (by decide)
theorem k_1371 : Cond.selects RX11 yX11_end yX11_end ∈ GT := mGT 1371 (by decide +kernel) (by decide)
theorem k_1372 : Cond.code yX11_end cX11_end 2 (some .int) ∈ GT := mGT 1372 (by decide +kernel) (by decide)
theorem k_1374 : Cond.instanceMethod yX11_fault ∈ GT := mGT 1374 (by decide +kernel) (by decide)
theorem k_1375 : Cond.selects RX11 yX11_fault yX11_fault ∈ GT := mGT 1375 (by decide +kernel) (by decide)
theorem k_1376 : Cond.code yX11_fault cX11_fault 2 (some .int) ∈ GT := mGT 1376 (by decide +kernel) (by decide)
theorem k_1378 : Cond.instanceMethod yX11_text ∈ GT := mGT 1378 (by decide +kernel) (by decide)
theorem k_1379 : Cond.selects RX11 yX11_text yX11_text ∈ GT := mGT 1379 (by decide +kernel) (by decide)
theorem k_1380 : Cond.code yX11_text cX11_text 1 (some .int) ∈ GT := mGT 1380 (by decide +kernel) (by decide)
theorem k_1381 : Cond.methodLink RX11 275 yX11_takes ∈ GT := mGT 1381 (by decide +kernel) (by decide)
theorem k_1383 : Cond.instanceMethod yX11_takes ∈ GT := mGT 1383 (by decide +kernel) (by decide)
theorem k_1384 : Cond.code yX11_takes cX11_takes 2 none ∈ GT := mGT 1384 (by decide +kernel) (by decide)
theorem k_1385 : Cond.methodLink RX11 242 yX11_byteAt ∈ GT := mGT 1385 (by decide +kernel) (by decide)
theorem k_1387 : Cond.instanceMethod yX11_byteAt ∈ GT := mGT 1387 (by decide +kernel) (by decide)
theorem k_1388 : Cond.code yX11_byteAt cX11_byteAt 2 (some .int) ∈ GT := mGT 1388 (by decide +kernel) (by decide)
theorem k_1389 : Cond.methodLink RX11 255 yX11_isLetter ∈ GT := mGT 1389 (by decide +kernel) (by decide)
theorem k_1390 : Cond.static yX11_isLetter ∈ GT := mGT 1390 (by decide +kernel) (by decide)
theorem k_1391 : Cond.code yX11_isLetter cX11_isLetter 1 (some .boolean) ∈ GT := mGT 1391 (by decide +kernel) (by decide)
theorem k_1392 : Cond.constantLong RX11 258 (27 : Int64) ∈ GT := mGT 1392 (by decide +kernel) (by decide)
theorem k_1393 : Cond.constantLong RX11 260 (97 : Int64) ∈ GT := mGT 1393 (by decide +kernel) (by decide)
theorem k_1394 : Cond.constantLong RX11 262 (-1 : Int64) ∈ GT := mGT 1394 (by decide +kernel) (by decide)
theorem k_1395 : Cond.methodLink RX11 264 yX11_isDigit ∈ GT := mGT 1395 (by decide +kernel) (by decide)
theorem k_1396 : Cond.static yX11_isDigit ∈ GT := mGT 1396 (by decide +kernel) (by decide)
theorem k_1397 : Cond.code yX11_isDigit cX11_isDigit 1 (some .boolean) ∈ GT := mGT 1397 (by decide +kernel) (by decide)
theorem k_1398 : Cond.constantLong RX11 267 (10 : Int64) ∈ GT := mGT 1398 (by decide +kernel) (by decide)
theorem k_1399 : Cond.constantLong RX11 269 (48 : Int64) ∈ GT := mGT 1399 (by decide +kernel) (by decide)
theorem k_1400 : Cond.methodLink RX11 271 yX11_isGood ∈ GT := mGT 1400 (by decide +kernel) (by decide)
theorem k_1402 : Cond.instanceMethod yX11_isGood ∈ GT := mGT 1402 (by decide +kernel) (by decide)
theorem k_1403 : Cond.code yX11_isGood cX11_isGood 1 (some .boolean) ∈ GT := mGT 1403 (by decide +kernel) (by decide)
theorem k_1404 : Cond.methodLink RX11 321 yX11_readsLine ∈ GT := mGT 1404 (by decide +kernel) (by decide)
theorem k_1406 : Cond.instanceMethod yX11_readsLine ∈ GT := mGT 1406 (by decide +kernel) (by decide)
theorem k_1407 : Cond.code yX11_readsLine cX11_readsLine 4 none ∈ GT := mGT 1407 (by decide +kernel) (by decide)
theorem k_1408 : Cond.constantLong RX11 308 (14006 : Int64) ∈ GT := mGT 1408 (by decide +kernel) (by decide)
theorem k_1409 : Cond.methodLink RX11 310 yX11_hasWord ∈ GT := mGT 1409 (by decide +kernel) (by decide)
theorem k_1411 : Cond.instanceMethod yX11_hasWord ∈ GT := mGT 1411 (by decide +kernel) (by decide)
theorem k_1412 : Cond.code yX11_hasWord cX11_hasWord 4 (some .boolean) ∈ GT := mGT 1412 (by decide +kernel) (by decide)
theorem k_1413 : Cond.methodLink RX11 314 yX11_readsSet ∈ GT := mGT 1413 (by decide +kernel) (by decide)
theorem k_1415 : Cond.instanceMethod yX11_readsSet ∈ GT := mGT 1415 (by decide +kernel) (by decide)
theorem k_1416 : Cond.code yX11_readsSet cX11_readsSet 2 none ∈ GT := mGT 1416 (by decide +kernel) (by decide)
theorem k_1417 : Cond.methodLink RX11 287 yX11_setNumber ∈ GT := mGT 1417 (by decide +kernel) (by decide)
theorem k_1419 : Cond.instanceMethod yX11_setNumber ∈ GT := mGT 1419 (by decide +kernel) (by decide)
theorem k_1420 : Cond.code yX11_setNumber cX11_setNumber 3 (some .int) ∈ GT := mGT 1420 (by decide +kernel) (by decide)
theorem k_1421 : Cond.methodLink RX11 281 yX11_numeral ∈ GT := mGT 1421 (by decide +kernel) (by decide)
theorem k_1423 : Cond.instanceMethod yX11_numeral ∈ GT := mGT 1423 (by decide +kernel) (by decide)
theorem k_1424 : Cond.code yX11_numeral cX11_numeral 2 (some .int) ∈ GT := mGT 1424 (by decide +kernel) (by decide)
theorem k_1425 : Cond.methodLink RX11 278 yX11_fails ∈ GT := mGT 1425 (by decide +kernel) (by decide)
theorem k_1427 : Cond.instanceMethod yX11_fails ∈ GT := mGT 1427 (by decide +kernel) (by decide)
theorem k_1428 : Cond.code yX11_fails cX11_fails 3 none ∈ GT := mGT 1428 (by decide +kernel) (by decide)
theorem k_1429 : Cond.methodLink RX11 290 yX11_readsKeys ∈ GT := mGT 1429 (by decide +kernel) (by decide)
theorem k_1431 : Cond.instanceMethod yX11_readsKeys ∈ GT := mGT 1431 (by decide +kernel) (by decide)
theorem k_1432 : Cond.code yX11_readsKeys cX11_readsKeys 7 none ∈ GT := mGT 1432 (by decide +kernel) (by decide)
theorem k_1433 : Cond.methodLink RX11 284 yX11_hasSign ∈ GT := mGT 1433 (by decide +kernel) (by decide)
theorem k_1435 : Cond.instanceMethod yX11_hasSign ∈ GT := mGT 1435 (by decide +kernel) (by decide)
theorem k_1436 : Cond.code yX11_hasSign cX11_hasSign 3 (some .boolean) ∈ GT := mGT 1436 (by decide +kernel) (by decide)
theorem k_1437 : Cond.methodLink RX11 293 yX11_ends ∈ GT := mGT 1437 (by decide +kernel) (by decide)
theorem k_1439 : Cond.instanceMethod yX11_ends ∈ GT := mGT 1439 (by decide +kernel) (by decide)
theorem k_1440 : Cond.code yX11_ends cX11_ends 1 none ∈ GT := mGT 1440 (by decide +kernel) (by decide)
theorem k_1441 : Cond.constantLong RX11 304 (257105 : Int64) ∈ GT := mGT 1441 (by decide +kernel) (by decide)
theorem k_1442 : Cond.constantLong RX11 302 (2774 : Int64) ∈ GT := mGT 1442 (by decide +kernel) (by decide)
theorem k_1443 : Cond.constantLong RX11 298 (208022 : Int64) ∈ GT := mGT 1443 (by decide +kernel) (by decide)
theorem k_1444 : Cond.constantLong RX11 300 (259868 : Int64) ∈ GT := mGT 1444 (by decide +kernel) (by decide)
theorem k_1445 : Cond.constantLong RX11 296 (10261586 : Int64) ∈ GT := mGT 1445 (by decide +kernel) (by decide)
theorem k_1446 : Cond.constantLong RX11 306 (267413 : Int64) ∈ GT := mGT 1446 (by decide +kernel) (by decide)
theorem k_1447 : Cond.methodLink RX11 317 yX11_readsAct ∈ GT := mGT 1447 (by decide +kernel) (by decide)
theorem k_1449 : Cond.instanceMethod yX11_readsAct ∈ GT := mGT 1449 (by decide +kernel) (by decide)
theorem k_1450 : Cond.code yX11_readsAct cX11_readsAct 10 (some .int) ∈ GT := mGT 1450 (by decide +kernel) (by decide)
theorem k_1452 : Cond.instanceMethod yX11_image ∈ GT := mGT 1452 (by decide +kernel) (by decide)
theorem k_1453 : Cond.selects RX11 yX11_image yX11_image ∈ GT := mGT 1453 (by decide +kernel) (by decide)
theorem k_1454 : Cond.code yX11_image cX11_image 4 (some .boolean) ∈ GT := mGT 1454 (by decide +kernel) (by decide)
theorem k_1456 : Cond.instanceMethod yX11_again ∈ GT := mGT 1456 (by decide +kernel) (by decide)
theorem k_1457 : Cond.selects RX11 yX11_again yX11_again ∈ GT := mGT 1457 (by decide +kernel) (by decide)
theorem k_1458 : Cond.code yX11_again cX11_again 4 (some .boolean) ∈ GT := mGT 1458 (by decide +kernel) (by decide)
theorem iX0 : ∀ x ∈ u_ws RX0 TX0 3, x ∈ GT := fun x h => List.mem_filter.mpr ⟨((goodIn_rr (u_ws RX0 TX0 3) [192, 194, 196] (by decide +kernel) (by decide +kernel)) x h).1, ((goodIn_rr (u_ws RX0 TX0 3) [192, 194, 196] (by decide +kernel) (by decide +kernel)) x h).2⟩
theorem iX1 : ∀ x ∈ u_ws RX1 TX1 6, x ∈ GT := fun x h => List.mem_filter.mpr ⟨((goodIn_rr (u_ws RX1 TX1 6) [355, 357, 359, 361, 363, 365] (by decide +kernel) (by decide +kernel)) x h).1, ((goodIn_rr (u_ws RX1 TX1 6) [355, 357, 359, 361, 363, 365] (by decide +kernel) (by decide +kernel)) x h).2⟩
theorem iX2 : ∀ x ∈ u_ws RX2 TX2 2, x ∈ GT := fun x h => List.mem_filter.mpr ⟨((goodIn_rr (u_ws RX2 TX2 2) [207, 209] (by decide +kernel) (by decide +kernel)) x h).1, ((goodIn_rr (u_ws RX2 TX2 2) [207, 209] (by decide +kernel) (by decide +kernel)) x h).2⟩
theorem iX3 : ∀ x ∈ u_ws RX3 TX3 3, x ∈ GT := fun x h => List.mem_filter.mpr ⟨((goodIn_rr (u_ws RX3 TX3 3) [271, 273, 275] (by decide +kernel) (by decide +kernel)) x h).1, ((goodIn_rr (u_ws RX3 TX3 3) [271, 273, 275] (by decide +kernel) (by decide +kernel)) x h).2⟩
theorem iX4 : ∀ x ∈ u_ws RX4 TX4 2, x ∈ GT := fun x h => List.mem_filter.mpr ⟨((goodIn_rr (u_ws RX4 TX4 2) [288, 290] (by decide +kernel) (by decide +kernel)) x h).1, ((goodIn_rr (u_ws RX4 TX4 2) [288, 290] (by decide +kernel) (by decide +kernel)) x h).2⟩
theorem iX5 : ∀ x ∈ u_ws RX5 TX5 9, x ∈ GT := fun x h => List.mem_filter.mpr ⟨((goodIn_rr (u_ws RX5 TX5 9) [311, 313, 315, 317, 319, 321, 323, 325, 327] (by decide +kernel) (by decide +kernel)) x h).1, ((goodIn_rr (u_ws RX5 TX5 9) [311, 313, 315, 317, 319, 321, 323, 325, 327] (by decide +kernel) (by decide +kernel)) x h).2⟩
theorem iX6 : ∀ x ∈ u_ws RX6 TX6 3, x ∈ GT := fun x h => List.mem_filter.mpr ⟨((goodIn_rr (u_ws RX6 TX6 3) [260, 262, 264] (by decide +kernel) (by decide +kernel)) x h).1, ((goodIn_rr (u_ws RX6 TX6 3) [260, 262, 264] (by decide +kernel) (by decide +kernel)) x h).2⟩
theorem iX7 : ∀ x ∈ u_ws RX7 TX7 8, x ∈ GT := fun x h => List.mem_filter.mpr ⟨((goodIn_rr (u_ws RX7 TX7 8) [227, 229, 231, 233, 235, 237, 239, 241] (by decide +kernel) (by decide +kernel)) x h).1, ((goodIn_rr (u_ws RX7 TX7 8) [227, 229, 231, 233, 235, 237, 239, 241] (by decide +kernel) (by decide +kernel)) x h).2⟩
theorem iX8 : ∀ x ∈ u_ws RX8 TX8 9, x ∈ GT := fun x h => List.mem_filter.mpr ⟨((goodIn_rr (u_ws RX8 TX8 9) [126, 128, 130, 132, 134, 136, 138, 140, 142] (by decide +kernel) (by decide +kernel)) x h).1, ((goodIn_rr (u_ws RX8 TX8 9) [126, 128, 130, 132, 134, 136, 138, 140, 142] (by decide +kernel) (by decide +kernel)) x h).2⟩
theorem iX9 : ∀ x ∈ u_ws RX9 TX9 5, x ∈ GT := fun x h => List.mem_filter.mpr ⟨((goodIn_rr (u_ws RX9 TX9 5) [164, 166, 168, 170, 172] (by decide +kernel) (by decide +kernel)) x h).1, ((goodIn_rr (u_ws RX9 TX9 5) [164, 166, 168, 170, 172] (by decide +kernel) (by decide +kernel)) x h).2⟩
theorem iX10 : ∀ x ∈ u_ws RX10 TX10 9, x ∈ GT := fun x h => List.mem_filter.mpr ⟨((goodIn_rr (u_ws RX10 TX10 9) [377, 379, 381, 383, 385, 387, 389, 391, 393] (by decide +kernel) (by decide +kernel)) x h).1, ((goodIn_rr (u_ws RX10 TX10 9) [377, 379, 381, 383, 385, 387, 389, 391, 393] (by decide +kernel) (by decide +kernel)) x h).2⟩
theorem iX11 : ∀ x ∈ u_ws RX11 TX11 27, x ∈ GT := fun x h => List.mem_filter.mpr ⟨((goodIn_rr (u_ws RX11 TX11 27) [1030, 1032, 1034, 1036, 1038, 1040, 1042, 1044, 1046, 1048, 1050, 1052, 1054, 1056, 1058, 1060, 1062, 1064, 1066, 1068, 1070, 1072, 1074, 1076, 1078, 1080, 1082] (by decide +kernel) (by decide +kernel)) x h).1, ((goodIn_rr (u_ws RX11 TX11 27) [1030, 1032, 1034, 1036, 1038, 1040, 1042, 1044, 1046, 1048, 1050, 1052, 1054, 1056, 1058, 1060, 1062, 1064, 1066, 1068, 1070, 1072, 1074, 1076, 1078, 1080, 1082] (by decide +kernel) (by decide +kernel)) x h).2⟩
abbrev rmX0_init : Room := { frames := 1, cells := 1, slots := 60, locals := 40 }
theorem ys_X0_init : YI yX0_init cX0_init 1 rmX0_init 1 60 0 := ⟨k_178, k_80, k_177, rfl, ⟨by decide, by decide, by decide +kernel⟩, ⟨rfl, rfl⟩⟩
abbrev rmX0_empty : Room := { frames := 0, cells := 0, slots := 0, locals := 0 }
theorem ys_X0_empty : YV yX0_empty cX0_empty 1 none rmX0_empty 0 0 := ⟨k_433, k_80, k_431, k_432, ⟨_, _, rfl⟩, ⟨by decide, by decide, by decide +kernel⟩, ⟨rfl, rfl⟩⟩
abbrev rmX0_keyAt : Room := { frames := 0, cells := 0, slots := 0, locals := 0 }
theorem ys_X0_keyAt : YV yX0_keyAt cX0_keyAt 2 (some .int) rmX0_keyAt 0 1 := ⟨k_627, k_80, k_625, k_626, ⟨_, _, rfl⟩, ⟨by decide, by decide, by decide +kernel⟩, ⟨rfl, rfl⟩⟩
abbrev rmX0_markAt : Room := { frames := 0, cells := 0, slots := 0, locals := 0 }
theorem ys_X0_markAt : YV yX0_markAt cX0_markAt 2 (some .int) rmX0_markAt 0 1 := ⟨k_811, k_80, k_809, k_810, ⟨_, _, rfl⟩, ⟨by decide, by decide, by decide +kernel⟩, ⟨rfl, rfl⟩⟩
abbrev rmX0_below : Room := { frames := 0, cells := 0, slots := 0, locals := 0 }
theorem ys_X0_below : YV yX0_below cX0_below 3 (some .int) rmX0_below 0 1 := ⟨k_573, k_80, k_571, k_572, ⟨_, _, rfl⟩, ⟨by decide, by decide, by decide +kernel⟩, ⟨rfl, rfl⟩⟩
abbrev rmX0_notAbove : Room := { frames := 0, cells := 0, slots := 0, locals := 0 }
theorem ys_X0_notAbove : YV yX0_notAbove cX0_notAbove 3 (some .int) rmX0_notAbove 0 1 := ⟨k_602, k_80, k_600, k_601, ⟨_, _, rfl⟩, ⟨by decide, by decide, by decide +kernel⟩, ⟨rfl, rfl⟩⟩
abbrev rmX0_rankOf : Room := { frames := 1, cells := 0, slots := 0, locals := 22 }
theorem ys_X0_rankOf : YV yX0_rankOf cX0_rankOf 3 (some .int) rmX0_rankOf 0 1 := ⟨k_569, k_80, k_567, k_568, ⟨_, _, rfl⟩, ⟨by decide, by decide, by decide +kernel⟩, ⟨rfl, rfl⟩⟩
abbrev rmX0_howManyBetween : Room := { frames := 1, cells := 0, slots := 0, locals := 40 }
theorem ys_X0_howManyBetween : YV yX0_howManyBetween cX0_howManyBetween 3 (some .int) rmX0_howManyBetween 0 2 := ⟨k_674, k_80, k_672, k_673, ⟨_, _, rfl⟩, ⟨by decide, by decide, by decide +kernel⟩, ⟨rfl, rfl⟩⟩
abbrev rmX0_markedBetween : Room := { frames := 1, cells := 0, slots := 0, locals := 22 }
theorem ys_X0_markedBetween : YV yX0_markedBetween cX0_markedBetween 6 (some .int) rmX0_markedBetween 0 2 := ⟨k_807, k_80, k_805, k_806, ⟨_, _, rfl⟩, ⟨by decide, by decide, by decide +kernel⟩, ⟨rfl, rfl⟩⟩
abbrev rmX0_leastDifference : Room := { frames := 1, cells := 0, slots := 0, locals := 40 }
theorem ys_X0_leastDifference : YV yX0_leastDifference cX0_leastDifference 4 (some .int) rmX0_leastDifference 0 0 := ⟨k_828, k_80, k_826, k_827, ⟨_, _, rfl⟩, ⟨by decide, by decide, by decide +kernel⟩, ⟨rfl, rfl⟩⟩
abbrev rmX0_stretches : Room := { frames := 1, cells := 0, slots := 0, locals := 21 }
theorem ys_X0_stretches : YV yX0_stretches cX0_stretches 3 (some .int) rmX0_stretches 0 0 := ⟨k_836, k_80, k_834, k_835, ⟨_, _, rfl⟩, ⟨by decide, by decide, by decide +kernel⟩, ⟨rfl, rfl⟩⟩
abbrev rmX0_sum : Room := { frames := 1, cells := 0, slots := 0, locals := 21 }
theorem ys_X0_sum : YV yX0_sum cX0_sum 3 (some .int) rmX0_sum 0 0 := ⟨k_840, k_80, k_838, k_839, ⟨_, _, rfl⟩, ⟨by decide, by decide, by decide +kernel⟩, ⟨rfl, rfl⟩⟩
abbrev rmX0_lastToldWith : Room := { frames := 1, cells := 0, slots := 0, locals := 40 }
theorem ys_X0_lastToldWith : YV yX0_lastToldWith cX0_lastToldWith 3 (some .int) rmX0_lastToldWith 0 1 := ⟨k_967, k_80, k_965, k_966, ⟨_, _, rfl⟩, ⟨by decide, by decide, by decide +kernel⟩, ⟨rfl, rfl⟩⟩
abbrev rmX0_openGap : Room := { frames := 1, cells := 0, slots := 0, locals := 40 }
theorem ys_X0_openGap : YV yX0_openGap cX0_openGap 3 (some .boolean) rmX0_openGap 0 2 := ⟨k_585, k_80, k_583, k_584, ⟨_, _, rfl⟩, ⟨by decide, by decide, by decide +kernel⟩, ⟨rfl, rfl⟩⟩
abbrev rmX0_closeGap : Room := { frames := 1, cells := 0, slots := 0, locals := 40 }
theorem ys_X0_closeGap : YV yX0_closeGap cX0_closeGap 3 none rmX0_closeGap 0 2 := ⟨k_615, k_80, k_613, k_614, ⟨_, _, rfl⟩, ⟨by decide, by decide, by decide +kernel⟩, ⟨rfl, rfl⟩⟩
abbrev rmX0_insert : Room := { frames := 2, cells := 0, slots := 0, locals := 62 }
theorem ys_X0_insert : YV yX0_insert cX0_insert 3 (some .int) rmX0_insert 0 1 := ⟨k_581, k_80, k_579, k_580, ⟨_, _, rfl⟩, ⟨by decide, by decide, by decide +kernel⟩, ⟨rfl, rfl⟩⟩
abbrev rmX0_giveStretch : Room := { frames := 2, cells := 0, slots := 0, locals := 62 }
theorem ys_X0_giveStretch : YV yX0_giveStretch cX0_giveStretch 5 none rmX0_giveStretch 0 3 := ⟨k_611, k_80, k_609, k_610, ⟨_, _, rfl⟩, ⟨by decide, by decide, by decide +kernel⟩, ⟨rfl, rfl⟩⟩
abbrev rmJ6_compare_7cf53 : Room := { frames := 0, cells := 0, slots := 0, locals := 0 }
theorem ys_J6_compare_7cf53 : YS yJ6_compare_7cf53 cJ6_compare_7cf53 2 (some .int) rmJ6_compare_7cf53 2 := ⟨k_639, k_94, k_638, ⟨by decide, by decide, by decide +kernel⟩, ⟨rfl, rfl⟩⟩
abbrev rmX0_absorb : Room := { frames := 1, cells := 0, slots := 0, locals := 40 }
theorem ys_X0_absorb : YV yX0_absorb cX0_absorb 8 none rmX0_absorb 0 2 := ⟨k_654, k_80, k_652, k_653, ⟨_, _, rfl⟩, ⟨by decide, by decide, by decide +kernel⟩, ⟨rfl, rfl⟩⟩
abbrev rmX0_shiftAll : Room := { frames := 0, cells := 0, slots := 0, locals := 0 }
theorem ys_X0_shiftAll : YV yX0_shiftAll cX0_shiftAll 3 none rmX0_shiftAll 0 1 := ⟨k_666, k_80, k_664, k_665, ⟨_, _, rfl⟩, ⟨by decide, by decide, by decide +kernel⟩, ⟨rfl, rfl⟩⟩
abbrev rmX0_markBetween : Room := { frames := 1, cells := 0, slots := 0, locals := 22 }
theorem ys_X0_markBetween : YV yX0_markBetween cX0_markBetween 7 (some .int) rmX0_markBetween 0 3 := ⟨k_598, k_80, k_596, k_597, ⟨_, _, rfl⟩, ⟨by decide, by decide, by decide +kernel⟩, ⟨rfl, rfl⟩⟩
abbrev rmX6_init : Room := { frames := 1, cells := 3, slots := 256, locals := 40 }
theorem ys_X6_init : YI yX6_init cX6_init 1 rmX6_init 3 256 0 := ⟨k_255, k_83, k_254, rfl, ⟨by decide, by decide, by decide +kernel⟩, ⟨rfl, rfl⟩⟩
abbrev rmX4_init : Room := { frames := 1, cells := 0, slots := 0, locals := 40 }
theorem ys_X4_init : YI yX4_init cX4_init 2 rmX4_init 0 0 1 := ⟨k_282, k_84, k_281, rfl, ⟨by decide, by decide, by decide +kernel⟩, ⟨rfl, rfl⟩⟩
abbrev rmX1_init : Room := { frames := 2, cells := 8, slots := 1423, locals := 61 }
theorem ys_X1_init : YI yX1_init cX1_init 1 rmX1_init 8 1423 0 := ⟨k_337, k_86, k_336, rfl, ⟨by decide, by decide, by decide +kernel⟩, ⟨rfl, rfl⟩⟩
abbrev rmX2_init : Room := { frames := 1, cells := 1, slots := 8, locals := 40 }
theorem ys_X2_init : YI yX2_init cX2_init 2 rmX2_init 1 8 1 := ⟨k_203, k_81, k_202, rfl, ⟨by decide, by decide, by decide +kernel⟩, ⟨rfl, rfl⟩⟩
abbrev rmX2_begin : Room := { frames := 0, cells := 0, slots := 0, locals := 0 }
theorem ys_X2_begin : YV yX2_begin cX2_begin 2 none rmX2_begin 2 0 := ⟨k_901, k_81, k_899, k_900, ⟨_, _, rfl⟩, ⟨by decide, by decide, by decide +kernel⟩, ⟨rfl, rfl⟩⟩
abbrev rmX2_next : Room := { frames := 1, cells := 0, slots := 0, locals := 21 }
theorem ys_X2_next : YV yX2_next cX2_next 5 (some .int) rmX2_next 2 0 := ⟨k_905, k_81, k_903, k_904, ⟨_, _, rfl⟩, ⟨by decide, by decide, by decide +kernel⟩, ⟨rfl, rfl⟩⟩
abbrev rmX3_init : Room := { frames := 2, cells := 53, slots := 3380, locals := 60 }
theorem ys_X3_init : YI yX3_init cX3_init 2 rmX3_init 53 3380 0 := ⟨k_248, k_82, k_247, rfl, ⟨by decide, by decide, by decide +kernel⟩, ⟨rfl, rfl⟩⟩
abbrev rmX6_take : Room := { frames := 1, cells := 0, slots := 0, locals := 40 }
theorem ys_X6_take : YV yX6_take cX6_take 6 none rmX6_take 6 1 := ⟨k_419, k_83, k_417, k_418, ⟨_, _, rfl⟩, ⟨by decide, by decide, by decide +kernel⟩, ⟨rfl, rfl⟩⟩
abbrev rmX3_prepare : Room := { frames := 2, cells := 0, slots := 0, locals := 65 }
theorem ys_X3_prepare : YV yX3_prepare cX3_prepare 2 none rmX3_prepare 3 1 := ⟨k_697, k_82, k_695, k_696, ⟨_, _, rfl⟩, ⟨by decide, by decide, by decide +kernel⟩, ⟨rfl, rfl⟩⟩
abbrev rmX3_settle : Room := { frames := 1, cells := 0, slots := 0, locals := 40 }
theorem ys_X3_settle : YV yX3_settle cX3_settle 2 (some .int) rmX3_settle 3 1 := ⟨k_703, k_82, k_701, k_702, ⟨_, _, rfl⟩, ⟨by decide, by decide, by decide +kernel⟩, ⟨rfl, rfl⟩⟩
abbrev rmX6_give : Room := { frames := 1, cells := 0, slots := 0, locals := 40 }
theorem ys_X6_give : YV yX6_give cX6_give 6 none rmX6_give 6 1 := ⟨k_680, k_83, k_678, k_679, ⟨_, _, rfl⟩, ⟨by decide, by decide, by decide +kernel⟩, ⟨rfl, rfl⟩⟩
abbrev rmX3_stepBack : Room := { frames := 2, cells := 0, slots := 0, locals := 65 }
theorem ys_X3_stepBack : YV yX3_stepBack cX3_stepBack 2 none rmX3_stepBack 3 1 := ⟨k_796, k_82, k_794, k_795, ⟨_, _, rfl⟩, ⟨by decide, by decide, by decide +kernel⟩, ⟨rfl, rfl⟩⟩
abbrev rmX3_forget : Room := { frames := 0, cells := 0, slots := 0, locals := 0 }
theorem ys_X3_forget : YV yX3_forget cX3_forget 1 none rmX3_forget 3 0 := ⟨k_684, k_82, k_682, k_683, ⟨_, _, rfl⟩, ⟨by decide, by decide, by decide +kernel⟩, ⟨rfl, rfl⟩⟩
abbrev rmX4_byteAt : Room := { frames := 0, cells := 0, slots := 0, locals := 0 }
theorem ys_X4_byteAt : YV yX4_byteAt cX4_byteAt 2 (some .int) rmX4_byteAt 4 1 := ⟨k_445, k_84, k_443, k_444, ⟨_, _, rfl⟩, ⟨by decide, by decide, by decide +kernel⟩, ⟨rfl, rfl⟩⟩
abbrev rmX4_add : Room := { frames := 0, cells := 0, slots := 0, locals := 0 }
theorem ys_X4_add : YV yX4_add cX4_add 2 none rmX4_add 4 1 := ⟨k_407, k_84, k_405, k_406, ⟨_, _, rfl⟩, ⟨by decide, by decide, by decide +kernel⟩, ⟨rfl, rfl⟩⟩
abbrev rmX4_addFour : Room := { frames := 1, cells := 0, slots := 0, locals := 21 }
theorem ys_X4_addFour : YV yX4_addFour cX4_addFour 2 none rmX4_addFour 4 1 := ⟨k_403, k_84, k_401, k_402, ⟨_, _, rfl⟩, ⟨by decide, by decide, by decide +kernel⟩, ⟨rfl, rfl⟩⟩
abbrev rmX4_addNumber : Room := { frames := 1, cells := 0, slots := 0, locals := 21 }
theorem ys_X4_addNumber : YV yX4_addNumber cX4_addNumber 5 none rmX4_addNumber 4 1 := ⟨k_972, k_84, k_970, k_971, ⟨_, _, rfl⟩, ⟨by decide, by decide, by decide +kernel⟩, ⟨rfl, rfl⟩⟩
abbrev rmX4_copy : Room := { frames := 1, cells := 0, slots := 0, locals := 40 }
theorem ys_X4_copy : YV yX4_copy cX4_copy 2 none rmX4_copy 4 1 := ⟨k_986, k_84, k_984, k_985, ⟨_, _, rfl⟩, ⟨by decide, by decide, by decide +kernel⟩, ⟨rfl, rfl⟩⟩
abbrev rmX5_init : Room := { frames := 1, cells := 1, slots := 4, locals := 40 }
theorem ys_X5_init : YI yX5_init cX5_init 3 rmX5_init 1 4 2 := ⟨k_298, k_85, k_297, rfl, ⟨by decide, by decide, by decide +kernel⟩, ⟨rfl, rfl⟩⟩
abbrev rmX5_isBlank : Room := { frames := 0, cells := 0, slots := 0, locals := 0 }
theorem ys_X5_isBlank : YS yX5_isBlank cX5_isBlank 1 (some .boolean) rmX5_isBlank 1 := ⟨k_448, k_85, k_447, ⟨by decide, by decide, by decide +kernel⟩, ⟨rfl, rfl⟩⟩
abbrev rmX5_isLetter : Room := { frames := 0, cells := 0, slots := 0, locals := 0 }
theorem ys_X5_isLetter : YS yX5_isLetter cX5_isLetter 1 (some .boolean) rmX5_isLetter 1 := ⟨k_451, k_85, k_450, ⟨by decide, by decide, by decide +kernel⟩, ⟨rfl, rfl⟩⟩
abbrev rmX5_readWord : Room := { frames := 1, cells := 0, slots := 0, locals := 21 }
theorem ys_X5_readWord : YV yX5_readWord cX5_readWord 1 none rmX5_readWord 5 0 := ⟨k_455, k_85, k_454, k_1, ⟨_, _, rfl⟩, ⟨by decide, by decide, by decide +kernel⟩, ⟨rfl, rfl⟩⟩
abbrev rmX5_isDigit : Room := { frames := 0, cells := 0, slots := 0, locals := 0 }
theorem ys_X5_isDigit : YS yX5_isDigit cX5_isDigit 1 (some .boolean) rmX5_isDigit 1 := ⟨k_458, k_85, k_457, ⟨by decide, by decide, by decide +kernel⟩, ⟨rfl, rfl⟩⟩
abbrev rmX5_readNumber : Room := { frames := 1, cells := 0, slots := 0, locals := 21 }
theorem ys_X5_readNumber : YV yX5_readNumber cX5_readNumber 1 none rmX5_readNumber 5 0 := ⟨k_462, k_85, k_461, k_2, ⟨_, _, rfl⟩, ⟨by decide, by decide, by decide +kernel⟩, ⟨rfl, rfl⟩⟩
abbrev rmX5_advance : Room := { frames := 2, cells := 0, slots := 0, locals := 41 }
theorem ys_X5_advance : YV yX5_advance cX5_advance 2 none rmX5_advance 5 0 := ⟨k_441, k_85, k_440, k_0, ⟨_, _, rfl⟩, ⟨by decide, by decide, by decide +kernel⟩, ⟨rfl, rfl⟩⟩
abbrev rmX5_spells : Room := { frames := 6, cells := 0, slots := 0, locals := 153 }
theorem ys_X5_spells : YV yX5_spells cX5_spells 4 (some .boolean) rmX5_spells 5 1 := ⟨k_475, k_85, k_474, k_5, ⟨_, _, rfl⟩, ⟨by decide, by decide, by decide +kernel⟩, ⟨rfl, rfl⟩⟩
abbrev rmX5_lineHere : Room := { frames := 7, cells := 0, slots := 0, locals := 176 }
theorem ys_X5_lineHere : YV yX5_lineHere cX5_lineHere 1 (some .int) rmX5_lineHere 5 0 := ⟨k_470, k_85, k_469, k_4, ⟨_, _, rfl⟩, ⟨by decide, by decide, by decide +kernel⟩, ⟨rfl, rfl⟩⟩
abbrev rmX5_fail : Room := { frames := 0, cells := 0, slots := 0, locals := 0 }
theorem ys_X5_fail : YV yX5_fail cX5_fail 3 none rmX5_fail 5 2 := ⟨k_533, k_85, k_532, k_6, ⟨_, _, rfl⟩, ⟨by decide, by decide, by decide +kernel⟩, ⟨rfl, rfl⟩⟩
abbrev rmX5_shapeOf : Room := { frames := 0, cells := 0, slots := 0, locals := 0 }
theorem ys_X5_shapeOf : YS yX5_shapeOf cX5_shapeOf 1 (some (.object "java/lang/String")) rmX5_shapeOf 1 := ⟨k_536, k_85, k_535, ⟨by decide, by decide, by decide +kernel⟩, ⟨rfl, rfl⟩⟩
abbrev rmX5_takeNumber : Room := { frames := 3, cells := 0, slots := 0, locals := 62 }
theorem ys_X5_takeNumber : YV yX5_takeNumber cX5_takeNumber 3 (some .int) rmX5_takeNumber 5 1 := ⟨k_550, k_85, k_549, k_8, ⟨_, _, rfl⟩, ⟨by decide, by decide, by decide +kernel⟩, ⟨rfl, rfl⟩⟩
abbrev rmX5_takeArgument : Room := { frames := 4, cells := 0, slots := 0, locals := 84 }
theorem ys_X5_takeArgument : YV yX5_takeArgument cX5_takeArgument 4 (some .int) rmX5_takeArgument 5 1 := ⟨k_546, k_85, k_545, k_7, ⟨_, _, rfl⟩, ⟨by decide, by decide, by decide +kernel⟩, ⟨rfl, rfl⟩⟩
abbrev rmX7_heapAt : Room := { frames := 0, cells := 0, slots := 0, locals := 0 }
theorem ys_X7_heapAt : YV yX7_heapAt cX7_heapAt 2 (some (.object "MeltingHeaps$Heap")) rmX7_heapAt 7 1 := ⟨k_562, k_77, k_560, k_561, ⟨_, _, rfl⟩, ⟨by decide, by decide, by decide +kernel⟩, ⟨rfl, rfl⟩⟩
abbrev rmX10_isKey : Room := { frames := 0, cells := 0, slots := 0, locals := 0 }
theorem ys_X10_isKey : YS yX10_isKey cX10_isKey 1 (some .boolean) rmX10_isKey 1 := ⟨k_565, k_76, k_564, ⟨by decide, by decide, by decide +kernel⟩, ⟨rfl, rfl⟩⟩
abbrev rmX7_total : Room := { frames := 0, cells := 0, slots := 0, locals := 0 }
theorem ys_X7_total : YV yX7_total cX7_total 3 (some .int) rmX7_total 7 0 := ⟨k_577, k_77, k_575, k_576, ⟨_, _, rfl⟩, ⟨by decide, by decide, by decide +kernel⟩, ⟨rfl, rfl⟩⟩
abbrev rmX7_putKey : Room := { frames := 3, cells := 0, slots := 0, locals := 84 }
theorem ys_X7_putKey : YV yX7_putKey cX7_putKey 4 (some .int) rmX7_putKey 7 2 := ⟨k_558, k_77, k_556, k_557, ⟨_, _, rfl⟩, ⟨by decide, by decide, by decide +kernel⟩, ⟨rfl, rfl⟩⟩
abbrev rmX5_putItem : Room := { frames := 4, cells := 0, slots := 0, locals := 107 }
theorem ys_X5_putItem : YV yX5_putItem cX5_putItem 6 none rmX5_putItem 5 1 := ⟨k_554, k_85, k_553, k_9, ⟨_, _, rfl⟩, ⟨by decide, by decide, by decide +kernel⟩, ⟨rfl, rfl⟩⟩
abbrev rmX7_markStretch : Room := { frames := 2, cells := 0, slots := 0, locals := 48 }
theorem ys_X7_markStretch : YV yX7_markStretch cX7_markStretch 7 (some .int) rmX7_markStretch 7 4 := ⟨k_594, k_77, k_592, k_593, ⟨_, _, rfl⟩, ⟨by decide, by decide, by decide +kernel⟩, ⟨rfl, rfl⟩⟩
abbrev rmX7_cutAbove : Room := { frames := 3, cells := 0, slots := 0, locals := 86 }
theorem ys_X7_cutAbove : YV yX7_cutAbove cX7_cutAbove 8 (some .int) rmX7_cutAbove 7 3 := ⟨k_606, k_77, k_604, k_605, ⟨_, _, rfl⟩, ⟨by decide, by decide, by decide +kernel⟩, ⟨rfl, rfl⟩⟩
abbrev rmX7_whyNotJoin : Room := { frames := 1, cells := 0, slots := 0, locals := 21 }
theorem ys_X7_whyNotJoin : YV yX7_whyNotJoin cX7_whyNotJoin 3 (some .int) rmX7_whyNotJoin 7 2 := ⟨k_623, k_77, k_621, k_622, ⟨_, _, rfl⟩, ⟨by decide, by decide, by decide +kernel⟩, ⟨rfl, rfl⟩⟩
abbrev rmX7_joinTo : Room := { frames := 3, cells := 0, slots := 0, locals := 86 }
theorem ys_X7_joinTo : YV yX7_joinTo cX7_joinTo 6 (some .int) rmX7_joinTo 7 2 := ⟨k_619, k_77, k_617, k_618, ⟨_, _, rfl⟩, ⟨by decide, by decide, by decide +kernel⟩, ⟨rfl, rfl⟩⟩
abbrev rmX9_endRun : Room := { frames := 1, cells := 0, slots := 0, locals := 40 }
theorem ys_X9_endRun : YV yX9_endRun cX9_endRun 3 none rmX9_endRun 9 1 := ⟨k_643, k_79, k_642, k_11, ⟨_, _, rfl⟩, ⟨by decide, by decide, by decide +kernel⟩, ⟨rfl, rfl⟩⟩
abbrev rmX9_weave : Room := { frames := 2, cells := 0, slots := 0, locals := 62 }
theorem ys_X9_weave : YV yX9_weave cX9_weave 9 none rmX9_weave 9 2 := ⟨k_635, k_79, k_633, k_634, ⟨_, _, rfl⟩, ⟨by decide, by decide, by decide +kernel⟩, ⟨rfl, rfl⟩⟩
abbrev rmX7_whyNotMelt : Room := { frames := 0, cells := 0, slots := 0, locals := 0 }
theorem ys_X7_whyNotMelt : YV yX7_whyNotMelt cX7_whyNotMelt 3 (some .int) rmX7_whyNotMelt 7 2 := ⟨k_650, k_77, k_648, k_649, ⟨_, _, rfl⟩, ⟨by decide, by decide, by decide +kernel⟩, ⟨rfl, rfl⟩⟩
abbrev rmX7_meltTo : Room := { frames := 3, cells := 0, slots := 0, locals := 90 }
theorem ys_X7_meltTo : YV yX7_meltTo cX7_meltTo 6 (some .int) rmX7_meltTo 7 2 := ⟨k_631, k_77, k_629, k_630, ⟨_, _, rfl⟩, ⟨by decide, by decide, by decide +kernel⟩, ⟨rfl, rfl⟩⟩
abbrev rmX7_shiftBy : Room := { frames := 1, cells := 0, slots := 0, locals := 22 }
theorem ys_X7_shiftBy : YV yX7_shiftBy cX7_shiftBy 4 (some .int) rmX7_shiftBy 7 2 := ⟨k_662, k_77, k_660, k_661, ⟨_, _, rfl⟩, ⟨by decide, by decide, by decide +kernel⟩, ⟨rfl, rfl⟩⟩
abbrev rmX7_moveStretch : Room := { frames := 3, cells := 0, slots := 0, locals := 86 }
theorem ys_X7_moveStretch : YV yX7_moveStretch cX7_moveStretch 9 (some .int) rmX7_moveStretch 7 4 := ⟨k_670, k_77, k_668, k_669, ⟨_, _, rfl⟩, ⟨by decide, by decide, by decide +kernel⟩, ⟨rfl, rfl⟩⟩
abbrev rmX5_act : Room := { frames := 4, cells := 0, slots := 0, locals := 115 }
theorem ys_X5_act : YV yX5_act cX5_act 2 (some .int) rmX5_act 5 1 := ⟨k_590, k_85, k_589, k_10, ⟨_, _, rfl⟩, ⟨by decide, by decide, by decide +kernel⟩, ⟨rfl, rfl⟩⟩
abbrev rmX5_doLine : Room := { frames := 8, cells := 0, slots := 0, locals := 196 }
theorem ys_X5_doLine : YV yX5_doLine cX5_doLine 5 none rmX5_doLine 5 0 := ⟨k_466, k_85, k_465, k_3, ⟨_, _, rfl⟩, ⟨by decide, by decide, by decide +kernel⟩, ⟨rfl, rfl⟩⟩
abbrev rmX5_perform : Room := { frames := 9, cells := 0, slots := 0, locals := 220 }
theorem ys_X5_perform : YV yX5_perform cX5_perform 2 none rmX5_perform 5 0 := ⟨k_437, k_85, k_435, k_436, ⟨_, _, rfl⟩, ⟨by decide, by decide, by decide +kernel⟩, ⟨rfl, rfl⟩⟩
abbrev rmX8_init : Room := { frames := 1, cells := 7, slots := 427, locals := 40 }
theorem ys_X8_init : YI yX8_init cX8_init 1 rmX8_init 7 427 0 := ⟨k_115, k_78, k_114, rfl, ⟨by decide, by decide, by decide +kernel⟩, ⟨rfl, rfl⟩⟩
abbrev rmX9_init : Room := { frames := 1, cells := 0, slots := 0, locals := 40 }
theorem ys_X9_init : YI yX9_init cX9_init 1 rmX9_init 0 0 0 := ⟨k_150, k_79, k_149, rfl, ⟨by decide, by decide, by decide +kernel⟩, ⟨rfl, rfl⟩⟩
abbrev rmX7_init : Room := { frames := 2, cells := 29, slots := 971, locals := 61 }
theorem ys_X7_init : YI yX7_init cX7_init 2 rmX7_init 29 971 0 := ⟨k_107, k_77, k_106, rfl, ⟨by decide, by decide, by decide +kernel⟩, ⟨rfl, rfl⟩⟩
abbrev rmX7_empty : Room := { frames := 1, cells := 0, slots := 0, locals := 20 }
theorem ys_X7_empty : YV yX7_empty cX7_empty 2 none rmX7_empty 7 0 := ⟨k_429, k_77, k_427, k_428, ⟨_, _, rfl⟩, ⟨by decide, by decide, by decide +kernel⟩, ⟨rfl, rfl⟩⟩
abbrev rmX8_addKey : Room := { frames := 0, cells := 0, slots := 0, locals := 0 }
theorem ys_X8_addKey : YV yX8_addKey cX8_addKey 2 none rmX8_addKey 8 1 := ⟨k_765, k_78, k_764, k_12, ⟨_, _, rfl⟩, ⟨by decide, by decide, by decide +kernel⟩, ⟨rfl, rfl⟩⟩
abbrev rmX10_priority : Room := { frames := 0, cells := 0, slots := 0, locals := 0 }
theorem ys_X10_priority : YS yX10_priority cX10_priority 1 (some .int) rmX10_priority 1 := ⟨k_772, k_76, k_771, ⟨by decide, by decide, by decide +kernel⟩, ⟨rfl, rfl⟩⟩
abbrev rmX8_link : Room := { frames := 1, cells := 0, slots := 0, locals := 20 }
theorem ys_X8_link : YV yX8_link cX8_link 4 none rmX8_link 8 0 := ⟨k_769, k_78, k_768, k_13, ⟨_, _, rfl⟩, ⟨by decide, by decide, by decide +kernel⟩, ⟨rfl, rfl⟩⟩
abbrev rmX8_climb : Room := { frames := 0, cells := 0, slots := 0, locals := 0 }
theorem ys_X8_climb : YV yX8_climb cX8_climb 4 none rmX8_climb 8 0 := ⟨k_778, k_78, k_777, k_14, ⟨_, _, rfl⟩, ⟨by decide, by decide, by decide +kernel⟩, ⟨rfl, rfl⟩⟩
abbrev rmX8_grow : Room := { frames := 2, cells := 0, slots := 0, locals := 43 }
theorem ys_X8_grow : YV yX8_grow cX8_grow 7 none rmX8_grow 8 3 := ⟨k_760, k_78, k_758, k_759, ⟨_, _, rfl⟩, ⟨by decide, by decide, by decide +kernel⟩, ⟨rfl, rfl⟩⟩
abbrev rmX7_treeOf : Room := { frames := 3, cells := 0, slots := 0, locals := 69 }
theorem ys_X7_treeOf : YV yX7_treeOf cX7_treeOf 2 (some (.object "MeltingHeaps$Tree")) rmX7_treeOf 7 1 := ⟨k_756, k_77, k_754, k_755, ⟨_, _, rfl⟩, ⟨by decide, by decide, by decide +kernel⟩, ⟨rfl, rfl⟩⟩
abbrev rmX7_weaveOf : Room := { frames := 3, cells := 0, slots := 0, locals := 90 }
theorem ys_X7_weaveOf : YV yX7_weaveOf cX7_weaveOf 3 (some (.object "MeltingHeaps$Weave")) rmX7_weaveOf 7 2 := ⟨k_929, k_77, k_927, k_928, ⟨_, _, rfl⟩, ⟨by decide, by decide, by decide +kernel⟩, ⟨rfl, rfl⟩⟩
abbrev rmX7_dropKey : Room := { frames := 2, cells := 0, slots := 0, locals := 62 }
theorem ys_X7_dropKey : YV yX7_dropKey cX7_dropKey 5 (some .int) rmX7_dropKey 7 2 := ⟨k_712, k_77, k_710, k_711, ⟨_, _, rfl⟩, ⟨by decide, by decide, by decide +kernel⟩, ⟨rfl, rfl⟩⟩
abbrev rmX8_isNode : Room := { frames := 0, cells := 0, slots := 0, locals := 0 }
theorem ys_X8_isNode : YV yX8_isNode cX8_isNode 2 (some .boolean) rmX8_isNode 8 1 := ⟨k_786, k_78, k_785, k_15, ⟨_, _, rfl⟩, ⟨by decide, by decide, by decide +kernel⟩, ⟨rfl, rfl⟩⟩
abbrev rmX8_steps : Room := { frames := 1, cells := 0, slots := 0, locals := 40 }
theorem ys_X8_steps : YV yX8_steps cX8_steps 6 (some .int) rmX8_steps 8 2 := ⟨k_782, k_78, k_780, k_781, ⟨_, _, rfl⟩, ⟨by decide, by decide, by decide +kernel⟩, ⟨rfl, rfl⟩⟩
abbrev rmX7_seekFrom : Room := { frames := 4, cells := 0, slots := 0, locals := 90 }
theorem ys_X7_seekFrom : YV yX7_seekFrom cX7_seekFrom 6 (some .int) rmX7_seekFrom 7 2 := ⟨k_751, k_77, k_749, k_750, ⟨_, _, rfl⟩, ⟨by decide, by decide, by decide +kernel⟩, ⟨rfl, rfl⟩⟩
abbrev rmX7_notEmpty : Room := { frames := 0, cells := 0, slots := 0, locals := 0 }
theorem ys_X7_notEmpty : YV yX7_notEmpty cX7_notEmpty 3 (some .int) rmX7_notEmpty 7 0 := ⟨k_893, k_77, k_891, k_892, ⟨_, _, rfl⟩, ⟨by decide, by decide, by decide +kernel⟩, ⟨rfl, rfl⟩⟩
abbrev rmX7_allMarked : Room := { frames := 2, cells := 0, slots := 0, locals := 47 }
theorem ys_X7_allMarked : YV yX7_allMarked cX7_allMarked 3 (some .int) rmX7_allMarked 7 0 := ⟨k_910, k_77, k_908, k_909, ⟨_, _, rfl⟩, ⟨by decide, by decide, by decide +kernel⟩, ⟨rfl, rfl⟩⟩
abbrev rmX7_unlike : Room := { frames := 2, cells := 0, slots := 0, locals := 45 }
theorem ys_X7_unlike : YV yX7_unlike cX7_unlike 6 (some .int) rmX7_unlike 7 0 := ⟨k_897, k_77, k_895, k_896, ⟨_, _, rfl⟩, ⟨by decide, by decide, by decide +kernel⟩, ⟨rfl, rfl⟩⟩
abbrev rmX7_lightest : Room := { frames := 0, cells := 0, slots := 0, locals := 0 }
theorem ys_X7_lightest : YV yX7_lightest cX7_lightest 4 (some .int) rmX7_lightest 7 1 := ⟨k_920, k_77, k_919, k_17, ⟨_, _, rfl⟩, ⟨by decide, by decide, by decide +kernel⟩, ⟨rfl, rfl⟩⟩
abbrev rmX7_huffman : Room := { frames := 1, cells := 0, slots := 0, locals := 40 }
theorem ys_X7_huffman : YV yX7_huffman cX7_huffman 6 (some .int) rmX7_huffman 7 0 := ⟨k_915, k_77, k_913, k_914, ⟨_, _, rfl⟩, ⟨by decide, by decide, by decide +kernel⟩, ⟨rfl, rfl⟩⟩
abbrev rmX7_takeIfCheaper : Room := { frames := 1, cells := 0, slots := 0, locals := 22 }
theorem ys_X7_takeIfCheaper : YV yX7_takeIfCheaper cX7_takeIfCheaper 4 none rmX7_takeIfCheaper 7 2 := ⟨k_943, k_77, k_942, k_18, ⟨_, _, rfl⟩, ⟨by decide, by decide, by decide +kernel⟩, ⟨rfl, rfl⟩⟩
abbrev rmX7_findCheapest : Room := { frames := 3, cells := 0, slots := 0, locals := 90 }
theorem ys_X7_findCheapest : YV yX7_findCheapest cX7_findCheapest 3 none rmX7_findCheapest 7 0 := ⟨k_939, k_77, k_937, k_938, ⟨_, _, rfl⟩, ⟨by decide, by decide, by decide +kernel⟩, ⟨rfl, rfl⟩⟩
abbrev rmX8_keyOf : Room := { frames := 1, cells := 0, slots := 0, locals := 21 }
theorem ys_X8_keyOf : YV yX8_keyOf cX8_keyOf 2 (some .int) rmX8_keyOf 8 1 := ⟨k_820, k_78, k_819, k_16, ⟨_, _, rfl⟩, ⟨by decide, by decide, by decide +kernel⟩, ⟨rfl, rfl⟩⟩
abbrev rmX8_rootKey : Room := { frames := 2, cells := 0, slots := 0, locals := 42 }
theorem ys_X8_rootKey : YV yX8_rootKey cX8_rootKey 1 (some .int) rmX8_rootKey 8 0 := ⟨k_816, k_78, k_814, k_815, ⟨_, _, rfl⟩, ⟨by decide, by decide, by decide +kernel⟩, ⟨rfl, rfl⟩⟩
abbrev rmX8_depthAt : Room := { frames := 1, cells := 0, slots := 0, locals := 21 }
theorem ys_X8_depthAt : YV yX8_depthAt cX8_depthAt 2 (some .int) rmX8_depthAt 8 1 := ⟨k_854, k_78, k_852, k_853, ⟨_, _, rfl⟩, ⟨by decide, by decide, by decide +kernel⟩, ⟨rfl, rfl⟩⟩
abbrev rmX8_keyAbove : Room := { frames := 2, cells := 0, slots := 0, locals := 42 }
theorem ys_X8_keyAbove : YV yX8_keyAbove cX8_keyAbove 2 (some .int) rmX8_keyAbove 8 1 := ⟨k_858, k_78, k_856, k_857, ⟨_, _, rfl⟩, ⟨by decide, by decide, by decide +kernel⟩, ⟨rfl, rfl⟩⟩
abbrev rmX8_keyAtLeft : Room := { frames := 2, cells := 0, slots := 0, locals := 42 }
theorem ys_X8_keyAtLeft : YV yX8_keyAtLeft cX8_keyAtLeft 2 (some .int) rmX8_keyAtLeft 8 1 := ⟨k_862, k_78, k_860, k_861, ⟨_, _, rfl⟩, ⟨by decide, by decide, by decide +kernel⟩, ⟨rfl, rfl⟩⟩
abbrev rmX8_keyAtRight : Room := { frames := 2, cells := 0, slots := 0, locals := 42 }
theorem ys_X8_keyAtRight : YV yX8_keyAtRight cX8_keyAtRight 2 (some .int) rmX8_keyAtRight 8 1 := ⟨k_866, k_78, k_864, k_865, ⟨_, _, rfl⟩, ⟨by decide, by decide, by decide +kernel⟩, ⟨rfl, rfl⟩⟩
abbrev rmX8_howManyBelow : Room := { frames := 1, cells := 0, slots := 0, locals := 21 }
theorem ys_X8_howManyBelow : YV yX8_howManyBelow cX8_howManyBelow 2 (some .int) rmX8_howManyBelow 8 1 := ⟨k_871, k_78, k_869, k_870, ⟨_, _, rfl⟩, ⟨by decide, by decide, by decide +kernel⟩, ⟨rfl, rfl⟩⟩
abbrev rmX8_high : Room := { frames := 1, cells := 0, slots := 0, locals := 40 }
theorem ys_X8_high : YV yX8_high cX8_high 3 (some .int) rmX8_high 8 0 := ⟨k_824, k_78, k_822, k_823, ⟨_, _, rfl⟩, ⟨by decide, by decide, by decide +kernel⟩, ⟨rfl, rfl⟩⟩
abbrev rmX8_allDepths : Room := { frames := 0, cells := 0, slots := 0, locals := 0 }
theorem ys_X8_allDepths : YV yX8_allDepths cX8_allDepths 3 (some .int) rmX8_allDepths 8 0 := ⟨k_832, k_78, k_830, k_831, ⟨_, _, rfl⟩, ⟨by decide, by decide, by decide +kernel⟩, ⟨rfl, rfl⟩⟩
abbrev rmX10_init : Room := { frames := 3, cells := 122, slots := 10088, locals := 82 }
theorem ys_X10_init : YI yX10_init cX10_init 2 rmX10_init 122 10088 0 := ⟨k_99, k_76, k_98, rfl, ⟨by decide, by decide, by decide +kernel⟩, ⟨rfl, rfl⟩⟩
abbrev rmX10_feed : Room := { frames := 2, cells := 0, slots := 0, locals := 42 }
theorem ys_X10_feed : YV yX10_feed cX10_feed 6 (some .int) rmX10_feed 10 5 := ⟨k_399, k_76, k_397, k_398, ⟨_, _, rfl⟩, ⟨by decide, by decide, by decide +kernel⟩, ⟨rfl, rfl⟩⟩
abbrev rmX10_end : Room := { frames := 0, cells := 0, slots := 0, locals := 0 }
theorem ys_X10_end : YV yX10_end cX10_end 2 (some .int) rmX10_end 10 1 := ⟨k_411, k_76, k_409, k_410, ⟨_, _, rfl⟩, ⟨by decide, by decide, by decide +kernel⟩, ⟨rfl, rfl⟩⟩
abbrev rmX10_text : Room := { frames := 10, cells := 0, slots := 0, locals := 241 }
theorem ys_X10_text : YV yX10_text cX10_text 1 (some .int) rmX10_text 10 0 := ⟨k_415, k_76, k_413, k_414, ⟨_, _, rfl⟩, ⟨by decide, by decide, by decide +kernel⟩, ⟨rfl, rfl⟩⟩
abbrev rmX10_fault : Room := { frames := 0, cells := 0, slots := 0, locals := 0 }
theorem ys_X10_fault : YV yX10_fault cX10_fault 2 (some .int) rmX10_fault 10 1 := ⟨k_689, k_76, k_687, k_688, ⟨_, _, rfl⟩, ⟨by decide, by decide, by decide +kernel⟩, ⟨rfl, rfl⟩⟩
abbrev rmX10_put : Room := { frames := 4, cells := 0, slots := 0, locals := 107 }
theorem ys_X10_put : YV yX10_put cX10_put 3 (some .int) rmX10_put 10 2 := ⟨k_693, k_76, k_691, k_692, ⟨_, _, rfl⟩, ⟨by decide, by decide, by decide +kernel⟩, ⟨rfl, rfl⟩⟩
abbrev rmX10_drop : Room := { frames := 3, cells := 0, slots := 0, locals := 86 }
theorem ys_X10_drop : YV yX10_drop cX10_drop 3 (some .int) rmX10_drop 10 2 := ⟨k_708, k_76, k_706, k_707, ⟨_, _, rfl⟩, ⟨by decide, by decide, by decide +kernel⟩, ⟨rfl, rfl⟩⟩
abbrev rmX10_cut : Room := { frames := 4, cells := 0, slots := 0, locals := 113 }
theorem ys_X10_cut : YV yX10_cut cX10_cut 4 (some .int) rmX10_cut 10 3 := ⟨k_717, k_76, k_715, k_716, ⟨_, _, rfl⟩, ⟨by decide, by decide, by decide +kernel⟩, ⟨rfl, rfl⟩⟩
abbrev rmX10_join : Room := { frames := 4, cells := 0, slots := 0, locals := 111 }
theorem ys_X10_join : YV yX10_join cX10_join 3 (some .int) rmX10_join 10 2 := ⟨k_722, k_76, k_720, k_721, ⟨_, _, rfl⟩, ⟨by decide, by decide, by decide +kernel⟩, ⟨rfl, rfl⟩⟩
abbrev rmX10_melt : Room := { frames := 4, cells := 0, slots := 0, locals := 115 }
theorem ys_X10_melt : YV yX10_melt cX10_melt 3 (some .int) rmX10_melt 10 2 := ⟨k_727, k_76, k_725, k_726, ⟨_, _, rfl⟩, ⟨by decide, by decide, by decide +kernel⟩, ⟨rfl, rfl⟩⟩
abbrev rmX10_shift : Room := { frames := 3, cells := 0, slots := 0, locals := 86 }
theorem ys_X10_shift : YV yX10_shift cX10_shift 3 (some .int) rmX10_shift 10 2 := ⟨k_732, k_76, k_730, k_731, ⟨_, _, rfl⟩, ⟨by decide, by decide, by decide +kernel⟩, ⟨rfl, rfl⟩⟩
abbrev rmX10_move : Room := { frames := 4, cells := 0, slots := 0, locals := 114 }
theorem ys_X10_move : YV yX10_move cX10_move 5 (some .int) rmX10_move 10 4 := ⟨k_737, k_76, k_735, k_736, ⟨_, _, rfl⟩, ⟨by decide, by decide, by decide +kernel⟩, ⟨rfl, rfl⟩⟩
abbrev rmX10_mark : Room := { frames := 3, cells := 0, slots := 0, locals := 86 }
theorem ys_X10_mark : YV yX10_mark cX10_mark 5 (some .int) rmX10_mark 10 4 := ⟨k_742, k_76, k_740, k_741, ⟨_, _, rfl⟩, ⟨by decide, by decide, by decide +kernel⟩, ⟨rfl, rfl⟩⟩
abbrev rmX10_seek : Room := { frames := 5, cells := 0, slots := 0, locals := 115 }
theorem ys_X10_seek : YV yX10_seek cX10_seek 3 (some .int) rmX10_seek 10 2 := ⟨k_747, k_76, k_745, k_746, ⟨_, _, rfl⟩, ⟨by decide, by decide, by decide +kernel⟩, ⟨rfl, rfl⟩⟩
abbrev rmX10_undo : Room := { frames := 3, cells := 0, slots := 0, locals := 86 }
theorem ys_X10_undo : YV yX10_undo cX10_undo 1 (some .int) rmX10_undo 10 0 := ⟨k_792, k_76, k_790, k_791, ⟨_, _, rfl⟩, ⟨by decide, by decide, by decide +kernel⟩, ⟨rfl, rfl⟩⟩
abbrev rmX10_set : Room := { frames := 4, cells := 0, slots := 0, locals := 90 }
theorem ys_X10_set : YV yX10_set cX10_set 4 (some .int) rmX10_set 10 2 := ⟨k_801, k_76, k_799, k_800, ⟨_, _, rfl⟩, ⟨by decide, by decide, by decide +kernel⟩, ⟨rfl, rfl⟩⟩
abbrev rmX10_key : Room := { frames := 1, cells := 0, slots := 0, locals := 21 }
theorem ys_X10_key : YV yX10_key cX10_key 4 (some .int) rmX10_key 10 2 := ⟨k_844, k_76, k_842, k_843, ⟨_, _, rfl⟩, ⟨by decide, by decide, by decide +kernel⟩, ⟨rfl, rfl⟩⟩
abbrev rmX10_of : Room := { frames := 4, cells := 0, slots := 0, locals := 90 }
theorem ys_X10_of : YV yX10_of cX10_of 6 (some .int) rmX10_of 10 3 := ⟨k_848, k_76, k_846, k_847, ⟨_, _, rfl⟩, ⟨by decide, by decide, by decide +kernel⟩, ⟨rfl, rfl⟩⟩
abbrev rmX10_within : Room := { frames := 2, cells := 0, slots := 0, locals := 62 }
theorem ys_X10_within : YV yX10_within cX10_within 6 (some .int) rmX10_within 10 4 := ⟨k_875, k_76, k_873, k_874, ⟨_, _, rfl⟩, ⟨by decide, by decide, by decide +kernel⟩, ⟨rfl, rfl⟩⟩
abbrev rmX10_far : Room := { frames := 4, cells := 0, slots := 0, locals := 90 }
theorem ys_X10_far : YV yX10_far cX10_far 5 (some .int) rmX10_far 10 3 := ⟨k_880, k_76, k_878, k_879, ⟨_, _, rfl⟩, ⟨by decide, by decide, by decide +kernel⟩, ⟨rfl, rfl⟩⟩
abbrev rmX10_where : Room := { frames := 2, cells := 0, slots := 0, locals := 44 }
theorem ys_X10_where : YV yX10_where cX10_where 4 (some .int) rmX10_where 10 1 := ⟨k_885, k_76, k_883, k_884, ⟨_, _, rfl⟩, ⟨by decide, by decide, by decide +kernel⟩, ⟨rfl, rfl⟩⟩
abbrev rmX10_count : Room := { frames := 3, cells := 0, slots := 0, locals := 70 }
theorem ys_X10_count : YV yX10_count cX10_count 2 (some .int) rmX10_count 10 1 := ⟨k_889, k_76, k_887, k_888, ⟨_, _, rfl⟩, ⟨by decide, by decide, by decide +kernel⟩, ⟨rfl, rfl⟩⟩
abbrev rmX10_pair : Room := { frames := 4, cells := 0, slots := 0, locals := 112 }
theorem ys_X10_pair : YV yX10_pair cX10_pair 7 (some .int) rmX10_pair 10 3 := ⟨k_925, k_76, k_923, k_924, ⟨_, _, rfl⟩, ⟨by decide, by decide, by decide +kernel⟩, ⟨rfl, rfl⟩⟩
abbrev rmX10_cheapest : Room := { frames := 4, cells := 0, slots := 0, locals := 112 }
theorem ys_X10_cheapest : YV yX10_cheapest cX10_cheapest 2 (some .int) rmX10_cheapest 10 1 := ⟨k_935, k_76, k_933, k_934, ⟨_, _, rfl⟩, ⟨by decide, by decide, by decide +kernel⟩, ⟨rfl, rfl⟩⟩
abbrev rmX10_merged : Room := { frames := 2, cells := 0, slots := 0, locals := 45 }
theorem ys_X10_merged : YV yX10_merged cX10_merged 4 (some .int) rmX10_merged 10 1 := ⟨k_947, k_76, k_945, k_946, ⟨_, _, rfl⟩, ⟨by decide, by decide, by decide +kernel⟩, ⟨rfl, rfl⟩⟩
abbrev rmX10_would : Room := { frames := 3, cells := 0, slots := 0, locals := 69 }
theorem ys_X10_would : YV yX10_would cX10_would 6 (some .int) rmX10_would 10 3 := ⟨k_953, k_76, k_951, k_952, ⟨_, _, rfl⟩, ⟨by decide, by decide, by decide +kernel⟩, ⟨rfl, rfl⟩⟩
abbrev rmX10_halves : Room := { frames := 1, cells := 0, slots := 0, locals := 21 }
theorem ys_X10_halves : YV yX10_halves cX10_halves 3 (some .int) rmX10_halves 10 1 := ⟨k_959, k_76, k_957, k_958, ⟨_, _, rfl⟩, ⟨by decide, by decide, by decide +kernel⟩, ⟨rfl, rfl⟩⟩
abbrev rmX10_tell : Room := { frames := 2, cells := 0, slots := 0, locals := 62 }
theorem ys_X10_tell : YV yX10_tell cX10_tell 5 (some .int) rmX10_tell 10 1 := ⟨k_963, k_76, k_961, k_962, ⟨_, _, rfl⟩, ⟨by decide, by decide, by decide +kernel⟩, ⟨rfl, rfl⟩⟩
abbrev rmX10_octet : Room := { frames := 1, cells := 0, slots := 0, locals := 21 }
theorem ys_X10_octet : YV yX10_octet cX10_octet 2 (some .int) rmX10_octet 10 1 := ⟨k_977, k_76, k_975, k_976, ⟨_, _, rfl⟩, ⟨by decide, by decide, by decide +kernel⟩, ⟨rfl, rfl⟩⟩
abbrev rmX10_image : Room := { frames := 2, cells := 0, slots := 0, locals := 65 }
theorem ys_X10_image : YV yX10_image cX10_image 3 (some .boolean) rmX10_image 10 1 := ⟨k_982, k_76, k_980, k_981, ⟨_, _, rfl⟩, ⟨by decide, by decide, by decide +kernel⟩, ⟨rfl, rfl⟩⟩
abbrev rmX10_again : Room := { frames := 2, cells := 0, slots := 0, locals := 65 }
theorem ys_X10_again : YV yX10_again cX10_again 3 (some .boolean) rmX10_again 10 1 := ⟨k_992, k_76, k_990, k_991, ⟨_, _, rfl⟩, ⟨by decide, by decide, by decide +kernel⟩, ⟨rfl, rfl⟩⟩
abbrev rmX11_empties : Room := { frames := 0, cells := 0, slots := 0, locals := 0 }
theorem ys_X11_empties : YV yX11_empties cX11_empties 3 none rmX11_empties 11 1 := ⟨k_1002, k_87, k_1001, k_19, ⟨_, _, rfl⟩, ⟨by decide, by decide, by decide +kernel⟩, ⟨rfl, rfl⟩⟩
abbrev rmX11_init : Room := { frames := 1, cells := 6, slots := 21479, locals := 40 }
theorem ys_X11_init : YI yX11_init cX11_init 1 rmX11_init 6 21479 0 := ⟨k_997, k_87, k_996, rfl, ⟨by decide, by decide, by decide +kernel⟩, ⟨rfl, rfl⟩⟩
abbrev rmX11_isIn : Room := { frames := 0, cells := 0, slots := 0, locals := 0 }
theorem ys_X11_isIn : YS yX11_isIn cX11_isIn 3 (some .boolean) rmX11_isIn 3 := ⟨k_1099, k_87, k_1098, ⟨by decide, by decide, by decide +kernel⟩, ⟨rfl, rfl⟩⟩
abbrev rmX11_copies : Room := { frames := 0, cells := 0, slots := 0, locals := 0 }
theorem ys_X11_copies : YV yX11_copies cX11_copies 5 none rmX11_copies 11 3 := ⟨k_1134, k_87, k_1133, k_28, ⟨_, _, rfl⟩, ⟨by decide, by decide, by decide +kernel⟩, ⟨rfl, rfl⟩⟩
abbrev rmX11_isSet : Room := { frames := 1, cells := 0, slots := 0, locals := 22 }
theorem ys_X11_isSet : YS yX11_isSet cX11_isSet 1 (some .boolean) rmX11_isSet 1 := ⟨k_1096, k_87, k_1095, ⟨by decide, by decide, by decide +kernel⟩, ⟨rfl, rfl⟩⟩
abbrev rmX11_isKey : Room := { frames := 1, cells := 0, slots := 0, locals := 22 }
theorem ys_X11_isKey : YS yX11_isKey cX11_isKey 1 (some .boolean) rmX11_isKey 1 := ⟨k_1102, k_87, k_1101, ⟨by decide, by decide, by decide +kernel⟩, ⟨rfl, rfl⟩⟩
abbrev rmX11_many : Room := { frames := 0, cells := 0, slots := 0, locals := 0 }
theorem ys_X11_many : YV yX11_many cX11_many 2 (some .int) rmX11_many 11 1 := ⟨k_1114, k_87, k_1113, k_23, ⟨_, _, rfl⟩, ⟨by decide, by decide, by decide +kernel⟩, ⟨rfl, rfl⟩⟩
abbrev rmX11_keyAt : Room := { frames := 0, cells := 0, slots := 0, locals := 0 }
theorem ys_X11_keyAt : YV yX11_keyAt cX11_keyAt 3 (some .int) rmX11_keyAt 11 2 := ⟨k_1118, k_87, k_1117, k_24, ⟨_, _, rfl⟩, ⟨by decide, by decide, by decide +kernel⟩, ⟨rfl, rfl⟩⟩
abbrev rmX11_markAt : Room := { frames := 0, cells := 0, slots := 0, locals := 0 }
theorem ys_X11_markAt : YV yX11_markAt cX11_markAt 3 (some .int) rmX11_markAt 11 2 := ⟨k_1174, k_87, k_1173, k_36, ⟨_, _, rfl⟩, ⟨by decide, by decide, by decide +kernel⟩, ⟨rfl, rfl⟩⟩
abbrev rmX11_finger : Room := { frames := 0, cells := 0, slots := 0, locals := 0 }
theorem ys_X11_finger : YV yX11_finger cX11_finger 2 (some .int) rmX11_finger 11 1 := ⟨k_1222, k_87, k_1221, k_45, ⟨_, _, rfl⟩, ⟨by decide, by decide, by decide +kernel⟩, ⟨rfl, rfl⟩⟩
abbrev rmX11_points : Room := { frames := 0, cells := 0, slots := 0, locals := 0 }
theorem ys_X11_points : YV yX11_points cX11_points 3 none rmX11_points 11 2 := ⟨k_1142, k_87, k_1141, k_30, ⟨_, _, rfl⟩, ⟨by decide, by decide, by decide +kernel⟩, ⟨rfl, rfl⟩⟩
abbrev rmX11_below : Room := { frames := 1, cells := 0, slots := 0, locals := 22 }
theorem ys_X11_below : YV yX11_below cX11_below 4 (some .int) rmX11_below 11 2 := ⟨k_1110, k_87, k_1109, k_22, ⟨_, _, rfl⟩, ⟨by decide, by decide, by decide +kernel⟩, ⟨rfl, rfl⟩⟩
abbrev rmX11_placeOf : Room := { frames := 2, cells := 0, slots := 0, locals := 45 }
theorem ys_X11_placeOf : YV yX11_placeOf cX11_placeOf 4 (some .int) rmX11_placeOf 11 2 := ⟨k_1106, k_87, k_1105, k_21, ⟨_, _, rfl⟩, ⟨by decide, by decide, by decide +kernel⟩, ⟨rfl, rfl⟩⟩
abbrev rmX11_puts : Room := { frames := 2, cells := 0, slots := 0, locals := 45 }
theorem ys_X11_puts : YV yX11_puts cX11_puts 7 none rmX11_puts 11 3 := ⟨k_1138, k_87, k_1137, k_29, ⟨_, _, rfl⟩, ⟨by decide, by decide, by decide +kernel⟩, ⟨rfl, rfl⟩⟩
abbrev rmX11_drops : Room := { frames := 1, cells := 0, slots := 0, locals := 22 }
theorem ys_X11_drops : YV yX11_drops cX11_drops 5 none rmX11_drops 11 2 := ⟨k_1150, k_87, k_1149, k_31, ⟨_, _, rfl⟩, ⟨by decide, by decide, by decide +kernel⟩, ⟨rfl, rfl⟩⟩
abbrev rmX11_total : Room := { frames := 1, cells := 0, slots := 0, locals := 21 }
theorem ys_X11_total : YV yX11_total cX11_total 3 (some .int) rmX11_total 11 0 := ⟨k_1122, k_87, k_1121, k_25, ⟨_, _, rfl⟩, ⟨by decide, by decide, by decide +kernel⟩, ⟨rfl, rfl⟩⟩
abbrev rmX11_twins : Room := { frames := 3, cells := 0, slots := 0, locals := 68 }
theorem ys_X11_twins : YV yX11_twins cX11_twins 5 (some .int) rmX11_twins 11 2 := ⟨k_1194, k_87, k_1193, k_39, ⟨_, _, rfl⟩, ⟨by decide, by decide, by decide +kernel⟩, ⟨rfl, rfl⟩⟩
abbrev rmX11_counted : Room := { frames := 1, cells := 0, slots := 0, locals := 22 }
theorem ys_X11_counted : YV yX11_counted cX11_counted 6 (some .int) rmX11_counted 11 3 := ⟨k_1166, k_87, k_1165, k_34, ⟨_, _, rfl⟩, ⟨by decide, by decide, by decide +kernel⟩, ⟨rfl, rfl⟩⟩
abbrev rmX11_laysRow : Room := { frames := 1, cells := 0, slots := 0, locals := 22 }
theorem ys_X11_laysRow : YV yX11_laysRow cX11_laysRow 3 none rmX11_laysRow 11 1 := ⟨k_1250, k_87, k_1249, k_49, ⟨_, _, rfl⟩, ⟨by decide, by decide, by decide +kernel⟩, ⟨rfl, rfl⟩⟩
abbrev rmX11_priority : Room := { frames := 0, cells := 0, slots := 0, locals := 0 }
theorem ys_X11_priority : YS yX11_priority cX11_priority 1 (some .int) rmX11_priority 1 := ⟨k_1269, k_87, k_1268, ⟨by decide, by decide, by decide +kernel⟩, ⟨rfl, rfl⟩⟩
abbrev rmX11_ahead : Room := { frames := 1, cells := 0, slots := 0, locals := 20 }
theorem ys_X11_ahead : YV yX11_ahead cX11_ahead 5 (some .int) rmX11_ahead 11 2 := ⟨k_1266, k_87, k_1265, k_53, ⟨_, _, rfl⟩, ⟨by decide, by decide, by decide +kernel⟩, ⟨rfl, rfl⟩⟩
abbrev rmX11_goesTo : Room := { frames := 2, cells := 0, slots := 0, locals := 44 }
theorem ys_X11_goesTo : YV yX11_goesTo cX11_goesTo 3 none rmX11_goesTo 11 1 := ⟨k_1262, k_87, k_1261, k_52, ⟨_, _, rfl⟩, ⟨by decide, by decide, by decide +kernel⟩, ⟨rfl, rfl⟩⟩
abbrev rmX11_depth : Room := { frames := 3, cells := 0, slots := 0, locals := 66 }
theorem ys_X11_depth : YV yX11_depth cX11_depth 2 (some .int) rmX11_depth 11 1 := ⟨k_1258, k_87, k_1257, k_51, ⟨_, _, rfl⟩, ⟨by decide, by decide, by decide +kernel⟩, ⟨rfl, rfl⟩⟩
abbrev rmX11_high : Room := { frames := 4, cells := 0, slots := 0, locals := 87 }
theorem ys_X11_high : YV yX11_high cX11_high 3 (some .int) rmX11_high 11 0 := ⟨k_1283, k_87, k_1282, k_54, ⟨_, _, rfl⟩, ⟨by decide, by decide, by decide +kernel⟩, ⟨rfl, rfl⟩⟩
abbrev rmX11_farOf : Room := { frames := 4, cells := 0, slots := 0, locals := 87 }
theorem ys_X11_farOf : YV yX11_farOf cX11_farOf 5 (some .int) rmX11_farOf 11 2 := ⟨k_1254, k_87, k_1253, k_50, ⟨_, _, rfl⟩, ⟨by decide, by decide, by decide +kernel⟩, ⟨rfl, rfl⟩⟩
abbrev rmX11_endsRun : Room := { frames := 0, cells := 0, slots := 0, locals := 0 }
theorem ys_X11_endsRun : YV yX11_endsRun cX11_endsRun 2 none rmX11_endsRun 11 0 := ⟨k_1206, k_87, k_1205, k_42, ⟨_, _, rfl⟩, ⟨by decide, by decide, by decide +kernel⟩, ⟨rfl, rfl⟩⟩
abbrev rmX11_goes : Room := { frames := 1, cells := 0, slots := 0, locals := 21 }
theorem ys_X11_goes : YV yX11_goes cX11_goes 2 none rmX11_goes 11 1 := ⟨k_1202, k_87, k_1201, k_41, ⟨_, _, rfl⟩, ⟨by decide, by decide, by decide +kernel⟩, ⟨rfl, rfl⟩⟩
abbrev rmX11_laysRuns : Room := { frames := 2, cells := 0, slots := 0, locals := 42 }
theorem ys_X11_laysRuns : YV yX11_laysRuns cX11_laysRuns 7 none rmX11_laysRuns 11 2 := ⟨k_1198, k_87, k_1197, k_40, ⟨_, _, rfl⟩, ⟨by decide, by decide, by decide +kernel⟩, ⟨rfl, rfl⟩⟩
abbrev rmX11_areTwo : Room := { frames := 2, cells := 0, slots := 0, locals := 42 }
theorem ys_X11_areTwo : YV yX11_areTwo cX11_areTwo 3 (some .boolean) rmX11_areTwo 11 2 := ⟨k_1162, k_87, k_1161, k_33, ⟨_, _, rfl⟩, ⟨by decide, by decide, by decide +kernel⟩, ⟨rfl, rfl⟩⟩
abbrev rmX11_refusesPut : Room := { frames := 3, cells := 0, slots := 0, locals := 68 }
theorem ys_X11_refusesPut : YV yX11_refusesPut cX11_refusesPut 3 (some .int) rmX11_refusesPut 11 2 := ⟨k_1093, k_87, k_1092, k_20, ⟨_, _, rfl⟩, ⟨by decide, by decide, by decide +kernel⟩, ⟨rfl, rfl⟩⟩
abbrev rmX11_refusesCut : Room := { frames := 3, cells := 0, slots := 0, locals := 64 }
theorem ys_X11_refusesCut : YV yX11_refusesCut cX11_refusesCut 4 (some .int) rmX11_refusesCut 11 3 := ⟨k_1158, k_87, k_1157, k_32, ⟨_, _, rfl⟩, ⟨by decide, by decide, by decide +kernel⟩, ⟨rfl, rfl⟩⟩
abbrev rmX11_refusesJoin : Room := { frames := 3, cells := 0, slots := 0, locals := 64 }
theorem ys_X11_refusesJoin : YV yX11_refusesJoin cX11_refusesJoin 3 (some .int) rmX11_refusesJoin 11 2 := ⟨k_1182, k_87, k_1181, k_37, ⟨_, _, rfl⟩, ⟨by decide, by decide, by decide +kernel⟩, ⟨rfl, rfl⟩⟩
abbrev rmX11_refusesMelt : Room := { frames := 4, cells := 0, slots := 0, locals := 92 }
theorem ys_X11_refusesMelt : YV yX11_refusesMelt cX11_refusesMelt 3 (some .int) rmX11_refusesMelt 11 2 := ⟨k_1190, k_87, k_1189, k_38, ⟨_, _, rfl⟩, ⟨by decide, by decide, by decide +kernel⟩, ⟨rfl, rfl⟩⟩
abbrev rmX11_refusesShift : Room := { frames := 2, cells := 0, slots := 0, locals := 42 }
theorem ys_X11_refusesShift : YV yX11_refusesShift cX11_refusesShift 3 (some .int) rmX11_refusesShift 11 2 := ⟨k_1214, k_87, k_1213, k_43, ⟨_, _, rfl⟩, ⟨by decide, by decide, by decide +kernel⟩, ⟨rfl, rfl⟩⟩
abbrev rmX11_refusesMove : Room := { frames := 3, cells := 0, slots := 0, locals := 64 }
theorem ys_X11_refusesMove : YV yX11_refusesMove cX11_refusesMove 7 (some .int) rmX11_refusesMove 11 4 := ⟨k_1230, k_87, k_1229, k_46, ⟨_, _, rfl⟩, ⟨by decide, by decide, by decide +kernel⟩, ⟨rfl, rfl⟩⟩
abbrev rmX11_marked : Room := { frames := 1, cells := 0, slots := 0, locals := 22 }
theorem ys_X11_marked : YV yX11_marked cX11_marked 8 (some .int) rmX11_marked 11 5 := ⟨k_1242, k_87, k_1241, k_48, ⟨_, _, rfl⟩, ⟨by decide, by decide, by decide +kernel⟩, ⟨rfl, rfl⟩⟩
abbrev rmX11_refusesMark : Room := { frames := 2, cells := 0, slots := 0, locals := 49 }
theorem ys_X11_refusesMark : YV yX11_refusesMark cX11_refusesMark 5 (some .int) rmX11_refusesMark 11 4 := ⟨k_1238, k_87, k_1237, k_47, ⟨_, _, rfl⟩, ⟨by decide, by decide, by decide +kernel⟩, ⟨rfl, rfl⟩⟩
abbrev rmX11_goOver : Room := { frames := 3, cells := 0, slots := 0, locals := 71 }
theorem ys_X11_goOver : YV yX11_goOver cX11_goOver 11 (some .int) rmX11_goOver 11 4 := ⟨k_1170, k_87, k_1169, k_35, ⟨_, _, rfl⟩, ⟨by decide, by decide, by decide +kernel⟩, ⟨rfl, rfl⟩⟩
abbrev rmX11_shifts : Room := { frames := 1, cells := 0, slots := 0, locals := 22 }
theorem ys_X11_shifts : YV yX11_shifts cX11_shifts 4 none rmX11_shifts 11 2 := ⟨k_1218, k_87, k_1217, k_44, ⟨_, _, rfl⟩, ⟨by decide, by decide, by decide +kernel⟩, ⟨rfl, rfl⟩⟩
abbrev rmX11_keeps : Room := { frames := 1, cells := 0, slots := 0, locals := 24 }
theorem ys_X11_keeps : YV yX11_keeps cX11_keeps 1 none rmX11_keeps 11 0 := ⟨k_1130, k_87, k_1129, k_27, ⟨_, _, rfl⟩, ⟨by decide, by decide, by decide +kernel⟩, ⟨rfl, rfl⟩⟩
abbrev rmX11_begins : Room := { frames := 2, cells := 0, slots := 0, locals := 44 }
theorem ys_X11_begins : YV yX11_begins cX11_begins 2 (some .int) rmX11_begins 11 1 := ⟨k_1126, k_87, k_1125, k_26, ⟨_, _, rfl⟩, ⟨by decide, by decide, by decide +kernel⟩, ⟨rfl, rfl⟩⟩
abbrev rmX11_put : Room := { frames := 4, cells := 0, slots := 0, locals := 90 }
theorem ys_X11_put : YV yX11_put cX11_put 4 (some .int) rmX11_put 11 2 := ⟨k_1089, k_87, k_1087, k_1088, ⟨_, _, rfl⟩, ⟨by decide, by decide, by decide +kernel⟩, ⟨rfl, rfl⟩⟩
abbrev rmX11_drop : Room := { frames := 3, cells := 0, slots := 0, locals := 68 }
theorem ys_X11_drop : YV yX11_drop cX11_drop 4 (some .int) rmX11_drop 11 2 := ⟨k_1146, k_87, k_1144, k_1145, ⟨_, _, rfl⟩, ⟨by decide, by decide, by decide +kernel⟩, ⟨rfl, rfl⟩⟩
abbrev rmX11_cut : Room := { frames := 4, cells := 0, slots := 0, locals := 101 }
theorem ys_X11_cut : YV yX11_cut cX11_cut 5 (some .int) rmX11_cut 11 3 := ⟨k_1154, k_87, k_1152, k_1153, ⟨_, _, rfl⟩, ⟨by decide, by decide, by decide +kernel⟩, ⟨rfl, rfl⟩⟩
abbrev rmX11_join : Room := { frames := 4, cells := 0, slots := 0, locals := 101 }
theorem ys_X11_join : YV yX11_join cX11_join 4 (some .int) rmX11_join 11 2 := ⟨k_1178, k_87, k_1176, k_1177, ⟨_, _, rfl⟩, ⟨by decide, by decide, by decide +kernel⟩, ⟨rfl, rfl⟩⟩
abbrev rmX11_melt : Room := { frames := 5, cells := 0, slots := 0, locals := 114 }
theorem ys_X11_melt : YV yX11_melt cX11_melt 6 (some .int) rmX11_melt 11 2 := ⟨k_1186, k_87, k_1184, k_1185, ⟨_, _, rfl⟩, ⟨by decide, by decide, by decide +kernel⟩, ⟨rfl, rfl⟩⟩
abbrev rmX11_shift : Room := { frames := 3, cells := 0, slots := 0, locals := 65 }
theorem ys_X11_shift : YV yX11_shift cX11_shift 4 (some .int) rmX11_shift 11 2 := ⟨k_1210, k_87, k_1208, k_1209, ⟨_, _, rfl⟩, ⟨by decide, by decide, by decide +kernel⟩, ⟨rfl, rfl⟩⟩
abbrev rmX11_move : Room := { frames := 4, cells := 0, slots := 0, locals := 101 }
theorem ys_X11_move : YV yX11_move cX11_move 6 (some .int) rmX11_move 11 4 := ⟨k_1226, k_87, k_1224, k_1225, ⟨_, _, rfl⟩, ⟨by decide, by decide, by decide +kernel⟩, ⟨rfl, rfl⟩⟩
abbrev rmX11_mark : Room := { frames := 3, cells := 0, slots := 0, locals := 73 }
theorem ys_X11_mark : YV yX11_mark cX11_mark 6 (some .int) rmX11_mark 11 4 := ⟨k_1234, k_87, k_1232, k_1233, ⟨_, _, rfl⟩, ⟨by decide, by decide, by decide +kernel⟩, ⟨rfl, rfl⟩⟩
abbrev rmX11_seek : Room := { frames := 5, cells := 0, slots := 0, locals := 111 }
theorem ys_X11_seek : YV yX11_seek cX11_seek 6 (some .int) rmX11_seek 11 2 := ⟨k_1246, k_87, k_1244, k_1245, ⟨_, _, rfl⟩, ⟨by decide, by decide, by decide +kernel⟩, ⟨rfl, rfl⟩⟩
abbrev rmX11_undo : Room := { frames := 1, cells := 0, slots := 0, locals := 24 }
theorem ys_X11_undo : YV yX11_undo cX11_undo 1 (some .int) rmX11_undo 11 0 := ⟨k_1275, k_87, k_1273, k_1274, ⟨_, _, rfl⟩, ⟨by decide, by decide, by decide +kernel⟩, ⟨rfl, rfl⟩⟩
abbrev rmX11_summed : Room := { frames := 4, cells := 0, slots := 0, locals := 87 }
theorem ys_X11_summed : YV yX11_summed cX11_summed 7 (some .int) rmX11_summed 11 2 := ⟨k_1287, k_87, k_1286, k_55, ⟨_, _, rfl⟩, ⟨by decide, by decide, by decide +kernel⟩, ⟨rfl, rfl⟩⟩
abbrev rmX11_set : Room := { frames := 5, cells := 0, slots := 0, locals := 113 }
theorem ys_X11_set : YV yX11_set cX11_set 3 (some .int) rmX11_set 11 2 := ⟨k_1279, k_87, k_1277, k_1278, ⟨_, _, rfl⟩, ⟨by decide, by decide, by decide +kernel⟩, ⟨rfl, rfl⟩⟩
abbrev rmX11_key : Room := { frames := 2, cells := 0, slots := 0, locals := 42 }
theorem ys_X11_key : YV yX11_key cX11_key 3 (some .int) rmX11_key 11 2 := ⟨k_1291, k_87, k_1289, k_1290, ⟨_, _, rfl⟩, ⟨by decide, by decide, by decide +kernel⟩, ⟨rfl, rfl⟩⟩
abbrev rmX11_keyOf : Room := { frames := 0, cells := 0, slots := 0, locals := 0 }
theorem ys_X11_keyOf : YV yX11_keyOf cX11_keyOf 2 (some .int) rmX11_keyOf 11 1 := ⟨k_1299, k_87, k_1298, k_56, ⟨_, _, rfl⟩, ⟨by decide, by decide, by decide +kernel⟩, ⟨rfl, rfl⟩⟩
abbrev rmX11_of : Room := { frames := 3, cells := 0, slots := 0, locals := 68 }
theorem ys_X11_of : YV yX11_of cX11_of 5 (some .int) rmX11_of 11 3 := ⟨k_1295, k_87, k_1293, k_1294, ⟨_, _, rfl⟩, ⟨by decide, by decide, by decide +kernel⟩, ⟨rfl, rfl⟩⟩
abbrev rmX11_within : Room := { frames := 2, cells := 0, slots := 0, locals := 42 }
theorem ys_X11_within : YV yX11_within cX11_within 7 (some .int) rmX11_within 11 4 := ⟨k_1303, k_87, k_1301, k_1302, ⟨_, _, rfl⟩, ⟨by decide, by decide, by decide +kernel⟩, ⟨rfl, rfl⟩⟩
abbrev rmX11_far : Room := { frames := 5, cells := 0, slots := 0, locals := 111 }
theorem ys_X11_far : YV yX11_far cX11_far 4 (some .int) rmX11_far 11 3 := ⟨k_1307, k_87, k_1305, k_1306, ⟨_, _, rfl⟩, ⟨by decide, by decide, by decide +kernel⟩, ⟨rfl, rfl⟩⟩
abbrev rmX11_where : Room := { frames := 3, cells := 0, slots := 0, locals := 68 }
theorem ys_X11_where : YV yX11_where cX11_where 4 (some .int) rmX11_where 11 1 := ⟨k_1311, k_87, k_1309, k_1310, ⟨_, _, rfl⟩, ⟨by decide, by decide, by decide +kernel⟩, ⟨rfl, rfl⟩⟩
abbrev rmX11_unlike : Room := { frames := 4, cells := 0, slots := 0, locals := 91 }
theorem ys_X11_unlike : YV yX11_unlike cX11_unlike 4 (some .int) rmX11_unlike 11 0 := ⟨k_1319, k_87, k_1318, k_57, ⟨_, _, rfl⟩, ⟨by decide, by decide, by decide +kernel⟩, ⟨rfl, rfl⟩⟩
abbrev rmX11_fewest : Room := { frames := 0, cells := 0, slots := 0, locals := 0 }
theorem ys_X11_fewest : YV yX11_fewest cX11_fewest 4 (some .int) rmX11_fewest 11 1 := ⟨k_1328, k_87, k_1327, k_59, ⟨_, _, rfl⟩, ⟨by decide, by decide, by decide +kernel⟩, ⟨rfl, rfl⟩⟩
abbrev rmX11_huffman : Room := { frames := 1, cells := 0, slots := 0, locals := 23 }
theorem ys_X11_huffman : YV yX11_huffman cX11_huffman 5 (some .int) rmX11_huffman 11 0 := ⟨k_1324, k_87, k_1323, k_58, ⟨_, _, rfl⟩, ⟨by decide, by decide, by decide +kernel⟩, ⟨rfl, rfl⟩⟩
abbrev rmX11_count : Room := { frames := 5, cells := 0, slots := 0, locals := 114 }
theorem ys_X11_count : YV yX11_count cX11_count 5 (some .int) rmX11_count 11 1 := ⟨k_1315, k_87, k_1313, k_1314, ⟨_, _, rfl⟩, ⟨by decide, by decide, by decide +kernel⟩, ⟨rfl, rfl⟩⟩
abbrev rmX11_pair : Room := { frames := 5, cells := 0, slots := 0, locals := 114 }
theorem ys_X11_pair : YV yX11_pair cX11_pair 4 (some .int) rmX11_pair 11 3 := ⟨k_1332, k_87, k_1330, k_1331, ⟨_, _, rfl⟩, ⟨by decide, by decide, by decide +kernel⟩, ⟨rfl, rfl⟩⟩
abbrev rmX11_cheapest : Room := { frames := 5, cells := 0, slots := 0, locals := 114 }
theorem ys_X11_cheapest : YV yX11_cheapest cX11_cheapest 7 (some .int) rmX11_cheapest 11 1 := ⟨k_1336, k_87, k_1334, k_1335, ⟨_, _, rfl⟩, ⟨by decide, by decide, by decide +kernel⟩, ⟨rfl, rfl⟩⟩
abbrev rmX11_merged : Room := { frames := 3, cells := 0, slots := 0, locals := 68 }
theorem ys_X11_merged : YV yX11_merged cX11_merged 6 (some .int) rmX11_merged 11 1 := ⟨k_1340, k_87, k_1338, k_1339, ⟨_, _, rfl⟩, ⟨by decide, by decide, by decide +kernel⟩, ⟨rfl, rfl⟩⟩
abbrev rmX11_would : Room := { frames := 5, cells := 0, slots := 0, locals := 109 }
theorem ys_X11_would : YV yX11_would cX11_would 6 (some .int) rmX11_would 11 3 := ⟨k_1344, k_87, k_1342, k_1343, ⟨_, _, rfl⟩, ⟨by decide, by decide, by decide +kernel⟩, ⟨rfl, rfl⟩⟩
abbrev rmX11_halves : Room := { frames := 2, cells := 0, slots := 0, locals := 42 }
theorem ys_X11_halves : YV yX11_halves cX11_halves 2 (some .int) rmX11_halves 11 1 := ⟨k_1348, k_87, k_1346, k_1347, ⟨_, _, rfl⟩, ⟨by decide, by decide, by decide +kernel⟩, ⟨rfl, rfl⟩⟩
abbrev rmX11_tells : Room := { frames := 0, cells := 0, slots := 0, locals := 0 }
theorem ys_X11_tells : YV yX11_tells cX11_tells 2 none rmX11_tells 11 1 := ⟨k_1356, k_87, k_1355, k_60, ⟨_, _, rfl⟩, ⟨by decide, by decide, by decide +kernel⟩, ⟨rfl, rfl⟩⟩
abbrev rmX11_number : Room := { frames := 1, cells := 0, slots := 0, locals := 21 }
theorem ys_X11_number : YV yX11_number cX11_number 3 none rmX11_number 11 1 := ⟨k_1360, k_87, k_1359, k_61, ⟨_, _, rfl⟩, ⟨by decide, by decide, by decide +kernel⟩, ⟨rfl, rfl⟩⟩
abbrev rmX11_tell : Room := { frames := 2, cells := 0, slots := 0, locals := 43 }
theorem ys_X11_tell : YV yX11_tell cX11_tell 4 (some .int) rmX11_tell 11 1 := ⟨k_1352, k_87, k_1350, k_1351, ⟨_, _, rfl⟩, ⟨by decide, by decide, by decide +kernel⟩, ⟨rfl, rfl⟩⟩
abbrev rmX11_octet : Room := { frames := 1, cells := 0, slots := 0, locals := 22 }
theorem ys_X11_octet : YV yX11_octet cX11_octet 2 (some .int) rmX11_octet 11 1 := ⟨k_1364, k_87, k_1362, k_1363, ⟨_, _, rfl⟩, ⟨by decide, by decide, by decide +kernel⟩, ⟨rfl, rfl⟩⟩
abbrev rmX11_feed : Room := { frames := 0, cells := 0, slots := 0, locals := 0 }
theorem ys_X11_feed : YV yX11_feed cX11_feed 8 (some .int) rmX11_feed 11 5 := ⟨k_1368, k_87, k_1366, k_1367, ⟨_, _, rfl⟩, ⟨by decide, by decide, by decide +kernel⟩, ⟨rfl, rfl⟩⟩
abbrev rmX11_end : Room := { frames := 1, cells := 0, slots := 0, locals := 22 }
theorem ys_X11_end : YV yX11_end cX11_end 2 (some .int) rmX11_end 11 1 := ⟨k_1372, k_87, k_1370, k_1371, ⟨_, _, rfl⟩, ⟨by decide, by decide, by decide +kernel⟩, ⟨rfl, rfl⟩⟩
abbrev rmX11_fault : Room := { frames := 0, cells := 0, slots := 0, locals := 0 }
theorem ys_X11_fault : YV yX11_fault cX11_fault 2 (some .int) rmX11_fault 11 1 := ⟨k_1376, k_87, k_1374, k_1375, ⟨_, _, rfl⟩, ⟨by decide, by decide, by decide +kernel⟩, ⟨rfl, rfl⟩⟩
abbrev rmX11_byteAt : Room := { frames := 0, cells := 0, slots := 0, locals := 0 }
theorem ys_X11_byteAt : YV yX11_byteAt cX11_byteAt 2 (some .int) rmX11_byteAt 11 1 := ⟨k_1388, k_87, k_1387, k_63, ⟨_, _, rfl⟩, ⟨by decide, by decide, by decide +kernel⟩, ⟨rfl, rfl⟩⟩
abbrev rmX11_isLetter : Room := { frames := 0, cells := 0, slots := 0, locals := 0 }
theorem ys_X11_isLetter : YS yX11_isLetter cX11_isLetter 1 (some .boolean) rmX11_isLetter 1 := ⟨k_1391, k_87, k_1390, ⟨by decide, by decide, by decide +kernel⟩, ⟨rfl, rfl⟩⟩
abbrev rmX11_isDigit : Room := { frames := 0, cells := 0, slots := 0, locals := 0 }
theorem ys_X11_isDigit : YS yX11_isDigit cX11_isDigit 1 (some .boolean) rmX11_isDigit 1 := ⟨k_1397, k_87, k_1396, ⟨by decide, by decide, by decide +kernel⟩, ⟨rfl, rfl⟩⟩
abbrev rmX11_takes : Room := { frames := 1, cells := 0, slots := 0, locals := 21 }
theorem ys_X11_takes : YV yX11_takes cX11_takes 2 none rmX11_takes 11 0 := ⟨k_1384, k_87, k_1383, k_62, ⟨_, _, rfl⟩, ⟨by decide, by decide, by decide +kernel⟩, ⟨rfl, rfl⟩⟩
abbrev rmX11_fails : Room := { frames := 0, cells := 0, slots := 0, locals := 0 }
theorem ys_X11_fails : YV yX11_fails cX11_fails 3 none rmX11_fails 11 2 := ⟨k_1428, k_87, k_1427, k_70, ⟨_, _, rfl⟩, ⟨by decide, by decide, by decide +kernel⟩, ⟨rfl, rfl⟩⟩
abbrev rmX11_isGood : Room := { frames := 0, cells := 0, slots := 0, locals := 0 }
theorem ys_X11_isGood : YV yX11_isGood cX11_isGood 1 (some .boolean) rmX11_isGood 11 0 := ⟨k_1403, k_87, k_1402, k_64, ⟨_, _, rfl⟩, ⟨by decide, by decide, by decide +kernel⟩, ⟨rfl, rfl⟩⟩
abbrev rmX11_hasWord : Room := { frames := 2, cells := 0, slots := 0, locals := 42 }
theorem ys_X11_hasWord : YV yX11_hasWord cX11_hasWord 4 (some .boolean) rmX11_hasWord 11 1 := ⟨k_1412, k_87, k_1411, k_66, ⟨_, _, rfl⟩, ⟨by decide, by decide, by decide +kernel⟩, ⟨rfl, rfl⟩⟩
abbrev rmX11_hasSign : Room := { frames := 2, cells := 0, slots := 0, locals := 42 }
theorem ys_X11_hasSign : YV yX11_hasSign cX11_hasSign 3 (some .boolean) rmX11_hasSign 11 1 := ⟨k_1436, k_87, k_1435, k_72, ⟨_, _, rfl⟩, ⟨by decide, by decide, by decide +kernel⟩, ⟨rfl, rfl⟩⟩
abbrev rmX11_numeral : Room := { frames := 2, cells := 0, slots := 0, locals := 42 }
theorem ys_X11_numeral : YV yX11_numeral cX11_numeral 2 (some .int) rmX11_numeral 11 0 := ⟨k_1424, k_87, k_1423, k_69, ⟨_, _, rfl⟩, ⟨by decide, by decide, by decide +kernel⟩, ⟨rfl, rfl⟩⟩
abbrev rmX11_setNumber : Room := { frames := 3, cells := 0, slots := 0, locals := 63 }
theorem ys_X11_setNumber : YV yX11_setNumber cX11_setNumber 3 (some .int) rmX11_setNumber 11 0 := ⟨k_1420, k_87, k_1419, k_68, ⟨_, _, rfl⟩, ⟨by decide, by decide, by decide +kernel⟩, ⟨rfl, rfl⟩⟩
abbrev rmX11_readsKeys : Room := { frames := 4, cells := 0, slots := 0, locals := 90 }
theorem ys_X11_readsKeys : YV yX11_readsKeys cX11_readsKeys 7 none rmX11_readsKeys 11 1 := ⟨k_1432, k_87, k_1431, k_71, ⟨_, _, rfl⟩, ⟨by decide, by decide, by decide +kernel⟩, ⟨rfl, rfl⟩⟩
abbrev rmX11_ends : Room := { frames := 3, cells := 0, slots := 0, locals := 64 }
theorem ys_X11_ends : YV yX11_ends cX11_ends 1 none rmX11_ends 11 0 := ⟨k_1440, k_87, k_1439, k_73, ⟨_, _, rfl⟩, ⟨by decide, by decide, by decide +kernel⟩, ⟨rfl, rfl⟩⟩
abbrev rmX11_readsSet : Room := { frames := 5, cells := 0, slots := 0, locals := 116 }
theorem ys_X11_readsSet : YV yX11_readsSet cX11_readsSet 2 none rmX11_readsSet 11 0 := ⟨k_1416, k_87, k_1415, k_67, ⟨_, _, rfl⟩, ⟨by decide, by decide, by decide +kernel⟩, ⟨rfl, rfl⟩⟩
abbrev rmX11_readsAct : Room := { frames := 5, cells := 0, slots := 0, locals := 114 }
theorem ys_X11_readsAct : YV yX11_readsAct cX11_readsAct 10 (some .int) rmX11_readsAct 11 1 := ⟨k_1450, k_87, k_1449, k_74, ⟨_, _, rfl⟩, ⟨by decide, by decide, by decide +kernel⟩, ⟨rfl, rfl⟩⟩
abbrev rmX11_readsLine : Room := { frames := 6, cells := 0, slots := 0, locals := 143 }
theorem ys_X11_readsLine : YV yX11_readsLine cX11_readsLine 4 none rmX11_readsLine 11 0 := ⟨k_1407, k_87, k_1406, k_65, ⟨_, _, rfl⟩, ⟨by decide, by decide, by decide +kernel⟩, ⟨rfl, rfl⟩⟩
abbrev rmX11_text : Room := { frames := 7, cells := 0, slots := 0, locals := 166 }
theorem ys_X11_text : YV yX11_text cX11_text 1 (some .int) rmX11_text 11 0 := ⟨k_1380, k_87, k_1378, k_1379, ⟨_, _, rfl⟩, ⟨by decide, by decide, by decide +kernel⟩, ⟨rfl, rfl⟩⟩
abbrev rmX11_image : Room := { frames := 1, cells := 0, slots := 0, locals := 24 }
theorem ys_X11_image : YV yX11_image cX11_image 4 (some .boolean) rmX11_image 11 1 := ⟨k_1454, k_87, k_1452, k_1453, ⟨_, _, rfl⟩, ⟨by decide, by decide, by decide +kernel⟩, ⟨rfl, rfl⟩⟩
abbrev rmX11_again : Room := { frames := 1, cells := 0, slots := 0, locals := 24 }
theorem ys_X11_again : YV yX11_again cX11_again 4 (some .boolean) rmX11_again 11 1 := ⟨k_1458, k_87, k_1456, k_1457, ⟨_, _, rfl⟩, ⟨by decide, by decide, by decide +kernel⟩, ⟨rfl, rfl⟩⟩
