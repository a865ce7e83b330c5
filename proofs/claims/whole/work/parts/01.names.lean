-- ===== PART A: goes FIRST, ahead of the names: the tables' words, and 'selects' of the private methods out of them =====
/-- a private method of a class that the tables say can be made, by its rows of tables_1 -/
def lw_okq (q : MethodName × Nat) : Prop := (q.1.cls ≠ "java/lang/invoke/MethodHandle" ∧ q.1.cls ≠ "java/lang/invoke/VarHandle") ∧ Cond.instantiable q.1.cls q.2 ∈ tables_1 ∧ Cond.privateMethod q.1 ∈ tables_1 ∧ Cond.instanceMethod q.1 ∈ tables_1
theorem lw_p0 : lw_okq (⟨"MeltingHeaps$Script", "advance", "()V"⟩, 9) := ⟨⟨by decide +kernel, by decide +kernel⟩, List.mem_of_getElem? (i := 220) (by decide +kernel), List.mem_of_getElem? (i := 364) (by decide +kernel), List.mem_of_getElem? (i := 365) (by decide +kernel)⟩
theorem lw_p1 : lw_okq (⟨"MeltingHeaps$Script", "readWord", "()V"⟩, 9) := ⟨⟨by decide +kernel, by decide +kernel⟩, List.mem_of_getElem? (i := 220) (by decide +kernel), List.mem_of_getElem? (i := 378) (by decide +kernel), List.mem_of_getElem? (i := 379) (by decide +kernel)⟩
theorem lw_p2 : lw_okq (⟨"MeltingHeaps$Script", "readNumber", "()V"⟩, 9) := ⟨⟨by decide +kernel, by decide +kernel⟩, List.mem_of_getElem? (i := 220) (by decide +kernel), List.mem_of_getElem? (i := 385) (by decide +kernel), List.mem_of_getElem? (i := 386) (by decide +kernel)⟩
theorem lw_p3 : lw_okq (⟨"MeltingHeaps$Script", "doLine", "()V"⟩, 9) := ⟨⟨by decide +kernel, by decide +kernel⟩, List.mem_of_getElem? (i := 220) (by decide +kernel), List.mem_of_getElem? (i := 389) (by decide +kernel), List.mem_of_getElem? (i := 390) (by decide +kernel)⟩
theorem lw_p4 : lw_okq (⟨"MeltingHeaps$Script", "lineHere", "()I"⟩, 9) := ⟨⟨by decide +kernel, by decide +kernel⟩, List.mem_of_getElem? (i := 220) (by decide +kernel), List.mem_of_getElem? (i := 393) (by decide +kernel), List.mem_of_getElem? (i := 394) (by decide +kernel)⟩
theorem lw_p5 : lw_okq (⟨"MeltingHeaps$Script", "spells", "(Ljava/lang/String;)Z"⟩, 9) := ⟨⟨by decide +kernel, by decide +kernel⟩, List.mem_of_getElem? (i := 220) (by decide +kernel), List.mem_of_getElem? (i := 398) (by decide +kernel), List.mem_of_getElem? (i := 399) (by decide +kernel)⟩
theorem lw_p6 : lw_okq (⟨"MeltingHeaps$Script", "fail", "(II)V"⟩, 9) := ⟨⟨by decide +kernel, by decide +kernel⟩, List.mem_of_getElem? (i := 220) (by decide +kernel), List.mem_of_getElem? (i := 456) (by decide +kernel), List.mem_of_getElem? (i := 457) (by decide +kernel)⟩
theorem lw_p7 : lw_okq (⟨"MeltingHeaps$Script", "takeArgument", "(C)I"⟩, 9) := ⟨⟨by decide +kernel, by decide +kernel⟩, List.mem_of_getElem? (i := 220) (by decide +kernel), List.mem_of_getElem? (i := 469) (by decide +kernel), List.mem_of_getElem? (i := 470) (by decide +kernel)⟩
theorem lw_p8 : lw_okq (⟨"MeltingHeaps$Script", "takeNumber", "(I)I"⟩, 9) := ⟨⟨by decide +kernel, by decide +kernel⟩, List.mem_of_getElem? (i := 220) (by decide +kernel), List.mem_of_getElem? (i := 473) (by decide +kernel), List.mem_of_getElem? (i := 474) (by decide +kernel)⟩
theorem lw_p9 : lw_okq (⟨"MeltingHeaps$Script", "putItem", "(I)V"⟩, 9) := ⟨⟨by decide +kernel, by decide +kernel⟩, List.mem_of_getElem? (i := 220) (by decide +kernel), List.mem_of_getElem? (i := 477) (by decide +kernel), List.mem_of_getElem? (i := 478) (by decide +kernel)⟩
theorem lw_p10 : lw_okq (⟨"MeltingHeaps$Script", "act", "(I)I"⟩, 9) := ⟨⟨by decide +kernel, by decide +kernel⟩, List.mem_of_getElem? (i := 220) (by decide +kernel), List.mem_of_getElem? (i := 513) (by decide +kernel), List.mem_of_getElem? (i := 514) (by decide +kernel)⟩
theorem lw_p11 : lw_okq (⟨"MeltingHeaps$Weave", "endRun", "(I)V"⟩, 5) := ⟨⟨by decide +kernel, by decide +kernel⟩, List.mem_of_getElem? (i := 72) (by decide +kernel), List.mem_of_getElem? (i := 566) (by decide +kernel), List.mem_of_getElem? (i := 567) (by decide +kernel)⟩
theorem lw_p12 : lw_okq (⟨"MeltingHeaps$Tree", "addKey", "(I)V"⟩, 9) := ⟨⟨by decide +kernel, by decide +kernel⟩, List.mem_of_getElem? (i := 37) (by decide +kernel), List.mem_of_getElem? (i := 688) (by decide +kernel), List.mem_of_getElem? (i := 689) (by decide +kernel)⟩
theorem lw_p13 : lw_okq (⟨"MeltingHeaps$Tree", "link", "()V"⟩, 9) := ⟨⟨by decide +kernel, by decide +kernel⟩, List.mem_of_getElem? (i := 37) (by decide +kernel), List.mem_of_getElem? (i := 692) (by decide +kernel), List.mem_of_getElem? (i := 693) (by decide +kernel)⟩
theorem lw_p14 : lw_okq (⟨"MeltingHeaps$Tree", "climb", "()V"⟩, 9) := ⟨⟨by decide +kernel, by decide +kernel⟩, List.mem_of_getElem? (i := 37) (by decide +kernel), List.mem_of_getElem? (i := 701) (by decide +kernel), List.mem_of_getElem? (i := 702) (by decide +kernel)⟩
theorem lw_p15 : lw_okq (⟨"MeltingHeaps$Tree", "isNode", "(I)Z"⟩, 9) := ⟨⟨by decide +kernel, by decide +kernel⟩, List.mem_of_getElem? (i := 37) (by decide +kernel), List.mem_of_getElem? (i := 709) (by decide +kernel), List.mem_of_getElem? (i := 710) (by decide +kernel)⟩
def lw_privs_1 : List (MethodName × Nat) := [(⟨"MeltingHeaps$Script", "advance", "()V"⟩, 9), (⟨"MeltingHeaps$Script", "readWord", "()V"⟩, 9), (⟨"MeltingHeaps$Script", "readNumber", "()V"⟩, 9), (⟨"MeltingHeaps$Script", "doLine", "()V"⟩, 9), (⟨"MeltingHeaps$Script", "lineHere", "()I"⟩, 9), (⟨"MeltingHeaps$Script", "spells", "(Ljava/lang/String;)Z"⟩, 9), (⟨"MeltingHeaps$Script", "fail", "(II)V"⟩, 9), (⟨"MeltingHeaps$Script", "takeArgument", "(C)I"⟩, 9), (⟨"MeltingHeaps$Script", "takeNumber", "(I)I"⟩, 9), (⟨"MeltingHeaps$Script", "putItem", "(I)V"⟩, 9), (⟨"MeltingHeaps$Script", "act", "(I)I"⟩, 9), (⟨"MeltingHeaps$Weave", "endRun", "(I)V"⟩, 5), (⟨"MeltingHeaps$Tree", "addKey", "(I)V"⟩, 9), (⟨"MeltingHeaps$Tree", "link", "()V"⟩, 9), (⟨"MeltingHeaps$Tree", "climb", "()V"⟩, 9), (⟨"MeltingHeaps$Tree", "isNode", "(I)Z"⟩, 9)]
theorem lw_r1 : ∀ q ∈ lw_privs_1, lw_okq q := List.forall_mem_cons.mpr ⟨lw_p0, List.forall_mem_cons.mpr ⟨lw_p1, List.forall_mem_cons.mpr ⟨lw_p2, List.forall_mem_cons.mpr ⟨lw_p3, List.forall_mem_cons.mpr ⟨lw_p4, List.forall_mem_cons.mpr ⟨lw_p5, List.forall_mem_cons.mpr ⟨lw_p6, List.forall_mem_cons.mpr ⟨lw_p7, List.forall_mem_cons.mpr ⟨lw_p8, List.forall_mem_cons.mpr ⟨lw_p9, List.forall_mem_cons.mpr ⟨lw_p10, List.forall_mem_cons.mpr ⟨lw_p11, List.forall_mem_cons.mpr ⟨lw_p12, List.forall_mem_cons.mpr ⟨lw_p13, List.forall_mem_cons.mpr ⟨lw_p14, List.forall_mem_cons.mpr ⟨lw_p15, fun _ h => absurd h List.not_mem_nil⟩⟩⟩⟩⟩⟩⟩⟩⟩⟩⟩⟩⟩⟩⟩⟩
theorem lw_p16 : lw_okq (⟨"MeltingHeaps$Tree", "keyOf", "(I)I"⟩, 9) := ⟨⟨by decide +kernel, by decide +kernel⟩, List.mem_of_getElem? (i := 37) (by decide +kernel), List.mem_of_getElem? (i := 743) (by decide +kernel), List.mem_of_getElem? (i := 744) (by decide +kernel)⟩
theorem lw_p17 : lw_okq (⟨"MeltingHeaps$Store", "lightest", "(I)I"⟩, 8) := ⟨⟨by decide +kernel, by decide +kernel⟩, List.mem_of_getElem? (i := 29) (by decide +kernel), List.mem_of_getElem? (i := 843) (by decide +kernel), List.mem_of_getElem? (i := 844) (by decide +kernel)⟩
theorem lw_p18 : lw_okq (⟨"MeltingHeaps$Store", "takeIfCheaper", "(II)V"⟩, 8) := ⟨⟨by decide +kernel, by decide +kernel⟩, List.mem_of_getElem? (i := 29) (by decide +kernel), List.mem_of_getElem? (i := 866) (by decide +kernel), List.mem_of_getElem? (i := 867) (by decide +kernel)⟩
theorem lw_p19 : lw_okq (⟨"MeltingHeapsModel", "empties", "(I)V"⟩, 27) := ⟨⟨by decide +kernel, by decide +kernel⟩, List.mem_of_getElem? (i := 919) (by decide +kernel), List.mem_of_getElem? (i := 925) (by decide +kernel), List.mem_of_getElem? (i := 926) (by decide +kernel)⟩
theorem lw_p20 : lw_okq (⟨"MeltingHeapsModel", "refusesPut", "(II)I"⟩, 27) := ⟨⟨by decide +kernel, by decide +kernel⟩, List.mem_of_getElem? (i := 919) (by decide +kernel), List.mem_of_getElem? (i := 1016) (by decide +kernel), List.mem_of_getElem? (i := 1017) (by decide +kernel)⟩
theorem lw_p21 : lw_okq (⟨"MeltingHeapsModel", "placeOf", "(II)I"⟩, 27) := ⟨⟨by decide +kernel, by decide +kernel⟩, List.mem_of_getElem? (i := 919) (by decide +kernel), List.mem_of_getElem? (i := 1029) (by decide +kernel), List.mem_of_getElem? (i := 1030) (by decide +kernel)⟩
theorem lw_p22 : lw_okq (⟨"MeltingHeapsModel", "below", "(II)I"⟩, 27) := ⟨⟨by decide +kernel, by decide +kernel⟩, List.mem_of_getElem? (i := 919) (by decide +kernel), List.mem_of_getElem? (i := 1033) (by decide +kernel), List.mem_of_getElem? (i := 1034) (by decide +kernel)⟩
theorem lw_p23 : lw_okq (⟨"MeltingHeapsModel", "many", "(I)I"⟩, 27) := ⟨⟨by decide +kernel, by decide +kernel⟩, List.mem_of_getElem? (i := 919) (by decide +kernel), List.mem_of_getElem? (i := 1037) (by decide +kernel), List.mem_of_getElem? (i := 1038) (by decide +kernel)⟩
theorem lw_p24 : lw_okq (⟨"MeltingHeapsModel", "keyAt", "(II)I"⟩, 27) := ⟨⟨by decide +kernel, by decide +kernel⟩, List.mem_of_getElem? (i := 919) (by decide +kernel), List.mem_of_getElem? (i := 1041) (by decide +kernel), List.mem_of_getElem? (i := 1042) (by decide +kernel)⟩
theorem lw_p25 : lw_okq (⟨"MeltingHeapsModel", "total", "()I"⟩, 27) := ⟨⟨by decide +kernel, by decide +kernel⟩, List.mem_of_getElem? (i := 919) (by decide +kernel), List.mem_of_getElem? (i := 1045) (by decide +kernel), List.mem_of_getElem? (i := 1046) (by decide +kernel)⟩
theorem lw_p26 : lw_okq (⟨"MeltingHeapsModel", "begins", "(I)I"⟩, 27) := ⟨⟨by decide +kernel, by decide +kernel⟩, List.mem_of_getElem? (i := 919) (by decide +kernel), List.mem_of_getElem? (i := 1049) (by decide +kernel), List.mem_of_getElem? (i := 1050) (by decide +kernel)⟩
theorem lw_p27 : lw_okq (⟨"MeltingHeapsModel", "keeps", "()V"⟩, 27) := ⟨⟨by decide +kernel, by decide +kernel⟩, List.mem_of_getElem? (i := 919) (by decide +kernel), List.mem_of_getElem? (i := 1053) (by decide +kernel), List.mem_of_getElem? (i := 1054) (by decide +kernel)⟩
theorem lw_p28 : lw_okq (⟨"MeltingHeapsModel", "copies", "(III)V"⟩, 27) := ⟨⟨by decide +kernel, by decide +kernel⟩, List.mem_of_getElem? (i := 919) (by decide +kernel), List.mem_of_getElem? (i := 1057) (by decide +kernel), List.mem_of_getElem? (i := 1058) (by decide +kernel)⟩
theorem lw_p29 : lw_okq (⟨"MeltingHeapsModel", "puts", "(III)V"⟩, 27) := ⟨⟨by decide +kernel, by decide +kernel⟩, List.mem_of_getElem? (i := 919) (by decide +kernel), List.mem_of_getElem? (i := 1061) (by decide +kernel), List.mem_of_getElem? (i := 1062) (by decide +kernel)⟩
theorem lw_p30 : lw_okq (⟨"MeltingHeapsModel", "points", "(II)V"⟩, 27) := ⟨⟨by decide +kernel, by decide +kernel⟩, List.mem_of_getElem? (i := 919) (by decide +kernel), List.mem_of_getElem? (i := 1065) (by decide +kernel), List.mem_of_getElem? (i := 1066) (by decide +kernel)⟩
theorem lw_p31 : lw_okq (⟨"MeltingHeapsModel", "drops", "(II)V"⟩, 27) := ⟨⟨by decide +kernel, by decide +kernel⟩, List.mem_of_getElem? (i := 919) (by decide +kernel), List.mem_of_getElem? (i := 1073) (by decide +kernel), List.mem_of_getElem? (i := 1074) (by decide +kernel)⟩
def lw_privs_2 : List (MethodName × Nat) := [(⟨"MeltingHeaps$Tree", "keyOf", "(I)I"⟩, 9), (⟨"MeltingHeaps$Store", "lightest", "(I)I"⟩, 8), (⟨"MeltingHeaps$Store", "takeIfCheaper", "(II)V"⟩, 8), (⟨"MeltingHeapsModel", "empties", "(I)V"⟩, 27), (⟨"MeltingHeapsModel", "refusesPut", "(II)I"⟩, 27), (⟨"MeltingHeapsModel", "placeOf", "(II)I"⟩, 27), (⟨"MeltingHeapsModel", "below", "(II)I"⟩, 27), (⟨"MeltingHeapsModel", "many", "(I)I"⟩, 27), (⟨"MeltingHeapsModel", "keyAt", "(II)I"⟩, 27), (⟨"MeltingHeapsModel", "total", "()I"⟩, 27), (⟨"MeltingHeapsModel", "begins", "(I)I"⟩, 27), (⟨"MeltingHeapsModel", "keeps", "()V"⟩, 27), (⟨"MeltingHeapsModel", "copies", "(III)V"⟩, 27), (⟨"MeltingHeapsModel", "puts", "(III)V"⟩, 27), (⟨"MeltingHeapsModel", "points", "(II)V"⟩, 27), (⟨"MeltingHeapsModel", "drops", "(II)V"⟩, 27)]
theorem lw_r2 : ∀ q ∈ lw_privs_2, lw_okq q := List.forall_mem_cons.mpr ⟨lw_p16, List.forall_mem_cons.mpr ⟨lw_p17, List.forall_mem_cons.mpr ⟨lw_p18, List.forall_mem_cons.mpr ⟨lw_p19, List.forall_mem_cons.mpr ⟨lw_p20, List.forall_mem_cons.mpr ⟨lw_p21, List.forall_mem_cons.mpr ⟨lw_p22, List.forall_mem_cons.mpr ⟨lw_p23, List.forall_mem_cons.mpr ⟨lw_p24, List.forall_mem_cons.mpr ⟨lw_p25, List.forall_mem_cons.mpr ⟨lw_p26, List.forall_mem_cons.mpr ⟨lw_p27, List.forall_mem_cons.mpr ⟨lw_p28, List.forall_mem_cons.mpr ⟨lw_p29, List.forall_mem_cons.mpr ⟨lw_p30, List.forall_mem_cons.mpr ⟨lw_p31, fun _ h => absurd h List.not_mem_nil⟩⟩⟩⟩⟩⟩⟩⟩⟩⟩⟩⟩⟩⟩⟩⟩
theorem lw_p32 : lw_okq (⟨"MeltingHeapsModel", "refusesCut", "(III)I"⟩, 27) := ⟨⟨by decide +kernel, by decide +kernel⟩, List.mem_of_getElem? (i := 919) (by decide +kernel), List.mem_of_getElem? (i := 1081) (by decide +kernel), List.mem_of_getElem? (i := 1082) (by decide +kernel)⟩
theorem lw_p33 : lw_okq (⟨"MeltingHeapsModel", "areTwo", "(II)Z"⟩, 27) := ⟨⟨by decide +kernel, by decide +kernel⟩, List.mem_of_getElem? (i := 919) (by decide +kernel), List.mem_of_getElem? (i := 1085) (by decide +kernel), List.mem_of_getElem? (i := 1086) (by decide +kernel)⟩
theorem lw_p34 : lw_okq (⟨"MeltingHeapsModel", "counted", "(III)I"⟩, 27) := ⟨⟨by decide +kernel, by decide +kernel⟩, List.mem_of_getElem? (i := 919) (by decide +kernel), List.mem_of_getElem? (i := 1089) (by decide +kernel), List.mem_of_getElem? (i := 1090) (by decide +kernel)⟩
theorem lw_p35 : lw_okq (⟨"MeltingHeapsModel", "goOver", "(IIII)I"⟩, 27) := ⟨⟨by decide +kernel, by decide +kernel⟩, List.mem_of_getElem? (i := 919) (by decide +kernel), List.mem_of_getElem? (i := 1093) (by decide +kernel), List.mem_of_getElem? (i := 1094) (by decide +kernel)⟩
theorem lw_p36 : lw_okq (⟨"MeltingHeapsModel", "markAt", "(II)I"⟩, 27) := ⟨⟨by decide +kernel, by decide +kernel⟩, List.mem_of_getElem? (i := 919) (by decide +kernel), List.mem_of_getElem? (i := 1097) (by decide +kernel), List.mem_of_getElem? (i := 1098) (by decide +kernel)⟩
theorem lw_p37 : lw_okq (⟨"MeltingHeapsModel", "refusesJoin", "(II)I"⟩, 27) := ⟨⟨by decide +kernel, by decide +kernel⟩, List.mem_of_getElem? (i := 919) (by decide +kernel), List.mem_of_getElem? (i := 1105) (by decide +kernel), List.mem_of_getElem? (i := 1106) (by decide +kernel)⟩
theorem lw_p38 : lw_okq (⟨"MeltingHeapsModel", "refusesMelt", "(II)I"⟩, 27) := ⟨⟨by decide +kernel, by decide +kernel⟩, List.mem_of_getElem? (i := 919) (by decide +kernel), List.mem_of_getElem? (i := 1113) (by decide +kernel), List.mem_of_getElem? (i := 1114) (by decide +kernel)⟩
theorem lw_p39 : lw_okq (⟨"MeltingHeapsModel", "twins", "(II)I"⟩, 27) := ⟨⟨by decide +kernel, by decide +kernel⟩, List.mem_of_getElem? (i := 919) (by decide +kernel), List.mem_of_getElem? (i := 1117) (by decide +kernel), List.mem_of_getElem? (i := 1118) (by decide +kernel)⟩
theorem lw_p40 : lw_okq (⟨"MeltingHeapsModel", "laysRuns", "(II)V"⟩, 27) := ⟨⟨by decide +kernel, by decide +kernel⟩, List.mem_of_getElem? (i := 919) (by decide +kernel), List.mem_of_getElem? (i := 1121) (by decide +kernel), List.mem_of_getElem? (i := 1122) (by decide +kernel)⟩
theorem lw_p41 : lw_okq (⟨"MeltingHeapsModel", "goes", "(I)V"⟩, 27) := ⟨⟨by decide +kernel, by decide +kernel⟩, List.mem_of_getElem? (i := 919) (by decide +kernel), List.mem_of_getElem? (i := 1125) (by decide +kernel), List.mem_of_getElem? (i := 1126) (by decide +kernel)⟩
theorem lw_p42 : lw_okq (⟨"MeltingHeapsModel", "endsRun", "()V"⟩, 27) := ⟨⟨by decide +kernel, by decide +kernel⟩, List.mem_of_getElem? (i := 919) (by decide +kernel), List.mem_of_getElem? (i := 1129) (by decide +kernel), List.mem_of_getElem? (i := 1130) (by decide +kernel)⟩
theorem lw_p43 : lw_okq (⟨"MeltingHeapsModel", "refusesShift", "(II)I"⟩, 27) := ⟨⟨by decide +kernel, by decide +kernel⟩, List.mem_of_getElem? (i := 919) (by decide +kernel), List.mem_of_getElem? (i := 1137) (by decide +kernel), List.mem_of_getElem? (i := 1138) (by decide +kernel)⟩
theorem lw_p44 : lw_okq (⟨"MeltingHeapsModel", "shifts", "(II)V"⟩, 27) := ⟨⟨by decide +kernel, by decide +kernel⟩, List.mem_of_getElem? (i := 919) (by decide +kernel), List.mem_of_getElem? (i := 1141) (by decide +kernel), List.mem_of_getElem? (i := 1142) (by decide +kernel)⟩
theorem lw_p45 : lw_okq (⟨"MeltingHeapsModel", "finger", "(I)I"⟩, 27) := ⟨⟨by decide +kernel, by decide +kernel⟩, List.mem_of_getElem? (i := 919) (by decide +kernel), List.mem_of_getElem? (i := 1145) (by decide +kernel), List.mem_of_getElem? (i := 1146) (by decide +kernel)⟩
theorem lw_p46 : lw_okq (⟨"MeltingHeapsModel", "refusesMove", "(IIII)I"⟩, 27) := ⟨⟨by decide +kernel, by decide +kernel⟩, List.mem_of_getElem? (i := 919) (by decide +kernel), List.mem_of_getElem? (i := 1153) (by decide +kernel), List.mem_of_getElem? (i := 1154) (by decide +kernel)⟩
theorem lw_p47 : lw_okq (⟨"MeltingHeapsModel", "refusesMark", "(IIII)I"⟩, 27) := ⟨⟨by decide +kernel, by decide +kernel⟩, List.mem_of_getElem? (i := 919) (by decide +kernel), List.mem_of_getElem? (i := 1161) (by decide +kernel), List.mem_of_getElem? (i := 1162) (by decide +kernel)⟩
def lw_privs_3 : List (MethodName × Nat) := [(⟨"MeltingHeapsModel", "refusesCut", "(III)I"⟩, 27), (⟨"MeltingHeapsModel", "areTwo", "(II)Z"⟩, 27), (⟨"MeltingHeapsModel", "counted", "(III)I"⟩, 27), (⟨"MeltingHeapsModel", "goOver", "(IIII)I"⟩, 27), (⟨"MeltingHeapsModel", "markAt", "(II)I"⟩, 27), (⟨"MeltingHeapsModel", "refusesJoin", "(II)I"⟩, 27), (⟨"MeltingHeapsModel", "refusesMelt", "(II)I"⟩, 27), (⟨"MeltingHeapsModel", "twins", "(II)I"⟩, 27), (⟨"MeltingHeapsModel", "laysRuns", "(II)V"⟩, 27), (⟨"MeltingHeapsModel", "goes", "(I)V"⟩, 27), (⟨"MeltingHeapsModel", "endsRun", "()V"⟩, 27), (⟨"MeltingHeapsModel", "refusesShift", "(II)I"⟩, 27), (⟨"MeltingHeapsModel", "shifts", "(II)V"⟩, 27), (⟨"MeltingHeapsModel", "finger", "(I)I"⟩, 27), (⟨"MeltingHeapsModel", "refusesMove", "(IIII)I"⟩, 27), (⟨"MeltingHeapsModel", "refusesMark", "(IIII)I"⟩, 27)]
theorem lw_r3 : ∀ q ∈ lw_privs_3, lw_okq q := List.forall_mem_cons.mpr ⟨lw_p32, List.forall_mem_cons.mpr ⟨lw_p33, List.forall_mem_cons.mpr ⟨lw_p34, List.forall_mem_cons.mpr ⟨lw_p35, List.forall_mem_cons.mpr ⟨lw_p36, List.forall_mem_cons.mpr ⟨lw_p37, List.forall_mem_cons.mpr ⟨lw_p38, List.forall_mem_cons.mpr ⟨lw_p39, List.forall_mem_cons.mpr ⟨lw_p40, List.forall_mem_cons.mpr ⟨lw_p41, List.forall_mem_cons.mpr ⟨lw_p42, List.forall_mem_cons.mpr ⟨lw_p43, List.forall_mem_cons.mpr ⟨lw_p44, List.forall_mem_cons.mpr ⟨lw_p45, List.forall_mem_cons.mpr ⟨lw_p46, List.forall_mem_cons.mpr ⟨lw_p47, fun _ h => absurd h List.not_mem_nil⟩⟩⟩⟩⟩⟩⟩⟩⟩⟩⟩⟩⟩⟩⟩⟩
theorem lw_p48 : lw_okq (⟨"MeltingHeapsModel", "marked", "(IIIIZ)I"⟩, 27) := ⟨⟨by decide +kernel, by decide +kernel⟩, List.mem_of_getElem? (i := 919) (by decide +kernel), List.mem_of_getElem? (i := 1165) (by decide +kernel), List.mem_of_getElem? (i := 1166) (by decide +kernel)⟩
theorem lw_p49 : lw_okq (⟨"MeltingHeapsModel", "laysRow", "(I)V"⟩, 27) := ⟨⟨by decide +kernel, by decide +kernel⟩, List.mem_of_getElem? (i := 919) (by decide +kernel), List.mem_of_getElem? (i := 1173) (by decide +kernel), List.mem_of_getElem? (i := 1174) (by decide +kernel)⟩
theorem lw_p50 : lw_okq (⟨"MeltingHeapsModel", "farOf", "(II)I"⟩, 27) := ⟨⟨by decide +kernel, by decide +kernel⟩, List.mem_of_getElem? (i := 919) (by decide +kernel), List.mem_of_getElem? (i := 1177) (by decide +kernel), List.mem_of_getElem? (i := 1178) (by decide +kernel)⟩
theorem lw_p51 : lw_okq (⟨"MeltingHeapsModel", "depth", "(I)I"⟩, 27) := ⟨⟨by decide +kernel, by decide +kernel⟩, List.mem_of_getElem? (i := 919) (by decide +kernel), List.mem_of_getElem? (i := 1181) (by decide +kernel), List.mem_of_getElem? (i := 1182) (by decide +kernel)⟩
theorem lw_p52 : lw_okq (⟨"MeltingHeapsModel", "goesTo", "(I)V"⟩, 27) := ⟨⟨by decide +kernel, by decide +kernel⟩, List.mem_of_getElem? (i := 919) (by decide +kernel), List.mem_of_getElem? (i := 1185) (by decide +kernel), List.mem_of_getElem? (i := 1186) (by decide +kernel)⟩
theorem lw_p53 : lw_okq (⟨"MeltingHeapsModel", "ahead", "(II)I"⟩, 27) := ⟨⟨by decide +kernel, by decide +kernel⟩, List.mem_of_getElem? (i := 919) (by decide +kernel), List.mem_of_getElem? (i := 1189) (by decide +kernel), List.mem_of_getElem? (i := 1190) (by decide +kernel)⟩
theorem lw_p54 : lw_okq (⟨"MeltingHeapsModel", "high", "()I"⟩, 27) := ⟨⟨by decide +kernel, by decide +kernel⟩, List.mem_of_getElem? (i := 919) (by decide +kernel), List.mem_of_getElem? (i := 1206) (by decide +kernel), List.mem_of_getElem? (i := 1207) (by decide +kernel)⟩
theorem lw_p55 : lw_okq (⟨"MeltingHeapsModel", "summed", "(II)I"⟩, 27) := ⟨⟨by decide +kernel, by decide +kernel⟩, List.mem_of_getElem? (i := 919) (by decide +kernel), List.mem_of_getElem? (i := 1210) (by decide +kernel), List.mem_of_getElem? (i := 1211) (by decide +kernel)⟩
theorem lw_p56 : lw_okq (⟨"MeltingHeapsModel", "keyOf", "(I)I"⟩, 27) := ⟨⟨by decide +kernel, by decide +kernel⟩, List.mem_of_getElem? (i := 919) (by decide +kernel), List.mem_of_getElem? (i := 1222) (by decide +kernel), List.mem_of_getElem? (i := 1223) (by decide +kernel)⟩
theorem lw_p57 : lw_okq (⟨"MeltingHeapsModel", "unlike", "()I"⟩, 27) := ⟨⟨by decide +kernel, by decide +kernel⟩, List.mem_of_getElem? (i := 919) (by decide +kernel), List.mem_of_getElem? (i := 1242) (by decide +kernel), List.mem_of_getElem? (i := 1243) (by decide +kernel)⟩
theorem lw_p58 : lw_okq (⟨"MeltingHeapsModel", "huffman", "()I"⟩, 27) := ⟨⟨by decide +kernel, by decide +kernel⟩, List.mem_of_getElem? (i := 919) (by decide +kernel), List.mem_of_getElem? (i := 1247) (by decide +kernel), List.mem_of_getElem? (i := 1248) (by decide +kernel)⟩
theorem lw_p59 : lw_okq (⟨"MeltingHeapsModel", "fewest", "(I)I"⟩, 27) := ⟨⟨by decide +kernel, by decide +kernel⟩, List.mem_of_getElem? (i := 919) (by decide +kernel), List.mem_of_getElem? (i := 1251) (by decide +kernel), List.mem_of_getElem? (i := 1252) (by decide +kernel)⟩
theorem lw_p60 : lw_okq (⟨"MeltingHeapsModel", "tells", "(I)V"⟩, 27) := ⟨⟨by decide +kernel, by decide +kernel⟩, List.mem_of_getElem? (i := 919) (by decide +kernel), List.mem_of_getElem? (i := 1279) (by decide +kernel), List.mem_of_getElem? (i := 1280) (by decide +kernel)⟩
theorem lw_p61 : lw_okq (⟨"MeltingHeapsModel", "number", "(I)V"⟩, 27) := ⟨⟨by decide +kernel, by decide +kernel⟩, List.mem_of_getElem? (i := 919) (by decide +kernel), List.mem_of_getElem? (i := 1283) (by decide +kernel), List.mem_of_getElem? (i := 1284) (by decide +kernel)⟩
theorem lw_p62 : lw_okq (⟨"MeltingHeapsModel", "takes", "()V"⟩, 27) := ⟨⟨by decide +kernel, by decide +kernel⟩, List.mem_of_getElem? (i := 919) (by decide +kernel), List.mem_of_getElem? (i := 1307) (by decide +kernel), List.mem_of_getElem? (i := 1308) (by decide +kernel)⟩
theorem lw_p63 : lw_okq (⟨"MeltingHeapsModel", "byteAt", "(I)I"⟩, 27) := ⟨⟨by decide +kernel, by decide +kernel⟩, List.mem_of_getElem? (i := 919) (by decide +kernel), List.mem_of_getElem? (i := 1311) (by decide +kernel), List.mem_of_getElem? (i := 1312) (by decide +kernel)⟩
def lw_privs_4 : List (MethodName × Nat) := [(⟨"MeltingHeapsModel", "marked", "(IIIIZ)I"⟩, 27), (⟨"MeltingHeapsModel", "laysRow", "(I)V"⟩, 27), (⟨"MeltingHeapsModel", "farOf", "(II)I"⟩, 27), (⟨"MeltingHeapsModel", "depth", "(I)I"⟩, 27), (⟨"MeltingHeapsModel", "goesTo", "(I)V"⟩, 27), (⟨"MeltingHeapsModel", "ahead", "(II)I"⟩, 27), (⟨"MeltingHeapsModel", "high", "()I"⟩, 27), (⟨"MeltingHeapsModel", "summed", "(II)I"⟩, 27), (⟨"MeltingHeapsModel", "keyOf", "(I)I"⟩, 27), (⟨"MeltingHeapsModel", "unlike", "()I"⟩, 27), (⟨"MeltingHeapsModel", "huffman", "()I"⟩, 27), (⟨"MeltingHeapsModel", "fewest", "(I)I"⟩, 27), (⟨"MeltingHeapsModel", "tells", "(I)V"⟩, 27), (⟨"MeltingHeapsModel", "number", "(I)V"⟩, 27), (⟨"MeltingHeapsModel", "takes", "()V"⟩, 27), (⟨"MeltingHeapsModel", "byteAt", "(I)I"⟩, 27)]
theorem lw_r4 : ∀ q ∈ lw_privs_4, lw_okq q := List.forall_mem_cons.mpr ⟨lw_p48, List.forall_mem_cons.mpr ⟨lw_p49, List.forall_mem_cons.mpr ⟨lw_p50, List.forall_mem_cons.mpr ⟨lw_p51, List.forall_mem_cons.mpr ⟨lw_p52, List.forall_mem_cons.mpr ⟨lw_p53, List.forall_mem_cons.mpr ⟨lw_p54, List.forall_mem_cons.mpr ⟨lw_p55, List.forall_mem_cons.mpr ⟨lw_p56, List.forall_mem_cons.mpr ⟨lw_p57, List.forall_mem_cons.mpr ⟨lw_p58, List.forall_mem_cons.mpr ⟨lw_p59, List.forall_mem_cons.mpr ⟨lw_p60, List.forall_mem_cons.mpr ⟨lw_p61, List.forall_mem_cons.mpr ⟨lw_p62, List.forall_mem_cons.mpr ⟨lw_p63, fun _ h => absurd h List.not_mem_nil⟩⟩⟩⟩⟩⟩⟩⟩⟩⟩⟩⟩⟩⟩⟩⟩
theorem lw_p64 : lw_okq (⟨"MeltingHeapsModel", "isGood", "()Z"⟩, 27) := ⟨⟨by decide +kernel, by decide +kernel⟩, List.mem_of_getElem? (i := 919) (by decide +kernel), List.mem_of_getElem? (i := 1326) (by decide +kernel), List.mem_of_getElem? (i := 1327) (by decide +kernel)⟩
theorem lw_p65 : lw_okq (⟨"MeltingHeapsModel", "readsLine", "()V"⟩, 27) := ⟨⟨by decide +kernel, by decide +kernel⟩, List.mem_of_getElem? (i := 919) (by decide +kernel), List.mem_of_getElem? (i := 1330) (by decide +kernel), List.mem_of_getElem? (i := 1331) (by decide +kernel)⟩
theorem lw_p66 : lw_okq (⟨"MeltingHeapsModel", "hasWord", "(J)Z"⟩, 27) := ⟨⟨by decide +kernel, by decide +kernel⟩, List.mem_of_getElem? (i := 919) (by decide +kernel), List.mem_of_getElem? (i := 1335) (by decide +kernel), List.mem_of_getElem? (i := 1336) (by decide +kernel)⟩
theorem lw_p67 : lw_okq (⟨"MeltingHeapsModel", "readsSet", "()V"⟩, 27) := ⟨⟨by decide +kernel, by decide +kernel⟩, List.mem_of_getElem? (i := 919) (by decide +kernel), List.mem_of_getElem? (i := 1339) (by decide +kernel), List.mem_of_getElem? (i := 1340) (by decide +kernel)⟩
theorem lw_p68 : lw_okq (⟨"MeltingHeapsModel", "setNumber", "()I"⟩, 27) := ⟨⟨by decide +kernel, by decide +kernel⟩, List.mem_of_getElem? (i := 919) (by decide +kernel), List.mem_of_getElem? (i := 1343) (by decide +kernel), List.mem_of_getElem? (i := 1344) (by decide +kernel)⟩
theorem lw_p69 : lw_okq (⟨"MeltingHeapsModel", "numeral", "()I"⟩, 27) := ⟨⟨by decide +kernel, by decide +kernel⟩, List.mem_of_getElem? (i := 919) (by decide +kernel), List.mem_of_getElem? (i := 1347) (by decide +kernel), List.mem_of_getElem? (i := 1348) (by decide +kernel)⟩
theorem lw_p70 : lw_okq (⟨"MeltingHeapsModel", "fails", "(II)V"⟩, 27) := ⟨⟨by decide +kernel, by decide +kernel⟩, List.mem_of_getElem? (i := 919) (by decide +kernel), List.mem_of_getElem? (i := 1351) (by decide +kernel), List.mem_of_getElem? (i := 1352) (by decide +kernel)⟩
theorem lw_p71 : lw_okq (⟨"MeltingHeapsModel", "readsKeys", "(I)V"⟩, 27) := ⟨⟨by decide +kernel, by decide +kernel⟩, List.mem_of_getElem? (i := 919) (by decide +kernel), List.mem_of_getElem? (i := 1355) (by decide +kernel), List.mem_of_getElem? (i := 1356) (by decide +kernel)⟩
theorem lw_p72 : lw_okq (⟨"MeltingHeapsModel", "hasSign", "(I)Z"⟩, 27) := ⟨⟨by decide +kernel, by decide +kernel⟩, List.mem_of_getElem? (i := 919) (by decide +kernel), List.mem_of_getElem? (i := 1359) (by decide +kernel), List.mem_of_getElem? (i := 1360) (by decide +kernel)⟩
theorem lw_p73 : lw_okq (⟨"MeltingHeapsModel", "ends", "()V"⟩, 27) := ⟨⟨by decide +kernel, by decide +kernel⟩, List.mem_of_getElem? (i := 919) (by decide +kernel), List.mem_of_getElem? (i := 1363) (by decide +kernel), List.mem_of_getElem? (i := 1364) (by decide +kernel)⟩
theorem lw_p74 : lw_okq (⟨"MeltingHeapsModel", "readsAct", "(J)I"⟩, 27) := ⟨⟨by decide +kernel, by decide +kernel⟩, List.mem_of_getElem? (i := 919) (by decide +kernel), List.mem_of_getElem? (i := 1373) (by decide +kernel), List.mem_of_getElem? (i := 1374) (by decide +kernel)⟩
def lw_privs_5 : List (MethodName × Nat) := [(⟨"MeltingHeapsModel", "isGood", "()Z"⟩, 27), (⟨"MeltingHeapsModel", "readsLine", "()V"⟩, 27), (⟨"MeltingHeapsModel", "hasWord", "(J)Z"⟩, 27), (⟨"MeltingHeapsModel", "readsSet", "()V"⟩, 27), (⟨"MeltingHeapsModel", "setNumber", "()I"⟩, 27), (⟨"MeltingHeapsModel", "numeral", "()I"⟩, 27), (⟨"MeltingHeapsModel", "fails", "(II)V"⟩, 27), (⟨"MeltingHeapsModel", "readsKeys", "(I)V"⟩, 27), (⟨"MeltingHeapsModel", "hasSign", "(I)Z"⟩, 27), (⟨"MeltingHeapsModel", "ends", "()V"⟩, 27), (⟨"MeltingHeapsModel", "readsAct", "(J)I"⟩, 27)]
theorem lw_r5 : ∀ q ∈ lw_privs_5, lw_okq q := List.forall_mem_cons.mpr ⟨lw_p64, List.forall_mem_cons.mpr ⟨lw_p65, List.forall_mem_cons.mpr ⟨lw_p66, List.forall_mem_cons.mpr ⟨lw_p67, List.forall_mem_cons.mpr ⟨lw_p68, List.forall_mem_cons.mpr ⟨lw_p69, List.forall_mem_cons.mpr ⟨lw_p70, List.forall_mem_cons.mpr ⟨lw_p71, List.forall_mem_cons.mpr ⟨lw_p72, List.forall_mem_cons.mpr ⟨lw_p73, List.forall_mem_cons.mpr ⟨lw_p74, fun _ h => absurd h List.not_mem_nil⟩⟩⟩⟩⟩⟩⟩⟩⟩⟩⟩
def lw_privs : List (MethodName × Nat) := lw_privs_1 ++ (lw_privs_2 ++ (lw_privs_3 ++ (lw_privs_4 ++ (lw_privs_5))))
def lw_tbl : List Cond := k2_sels lw_privs ++ tables_1
theorem lw_privs_ok : ∀ q ∈ lw_privs, lw_okq q := by
  show ∀ q ∈ lw_privs_1 ++ (lw_privs_2 ++ (lw_privs_3 ++ (lw_privs_4 ++ (lw_privs_5)))), lw_okq q
  exact List.forall_mem_append.mpr ⟨lw_r1, List.forall_mem_append.mpr ⟨lw_r2, List.forall_mem_append.mpr ⟨lw_r3, List.forall_mem_append.mpr ⟨lw_r4, lw_r5⟩⟩⟩⟩
def RX0 : String := "MeltingHeaps$Heap"
def TX0 : u_T := fun k => match k with
  | 0 => ("MeltingHeaps$Heap", "entries", "[I", true)
  | 1 => ("MeltingHeaps$Heap", "size", "I", false)
  | _ => ("MeltingHeaps$Heap", "finger", "I", false)
def tyX0 : Nat → FieldType := fun k => match k with
  | 0 => .array .int
  | 1 => .int
  | _ => .int
abbrev wsX00 : List Cond := u_ws RX0 TX0 3
theorem nmX0 : ∀ a, a < 3 → ∀ b, b < 3 → a ≠ b → (TX0 a).2.1 ≠ (TX0 b).2.1 := by decide +kernel
theorem tyX0_ok : ∀ k, k < 3 → parseFieldDescriptor (TX0 k).2.2.1 = some (tyX0 k) := by decide +kernel
abbrev cX0_init : ByteArray := prog_2_method_1_code
def yX0_init : MethodName := ⟨RX0, "<init>", "()V"⟩
abbrev cX0_empty : ByteArray := prog_2_method_2_code
def yX0_empty : MethodName := ⟨RX0, "empty", "()V"⟩
abbrev cX0_keyAt : ByteArray := prog_2_method_3_code
def yX0_keyAt : MethodName := ⟨RX0, "keyAt", "(I)I"⟩
abbrev cX0_markAt : ByteArray := prog_2_method_4_code
def yX0_markAt : MethodName := ⟨RX0, "markAt", "(I)I"⟩
abbrev cX0_below : ByteArray := prog_2_method_5_code
def yX0_below : MethodName := ⟨RX0, "below", "(I)I"⟩
abbrev cX0_notAbove : ByteArray := prog_2_method_6_code
def yX0_notAbove : MethodName := ⟨RX0, "notAbove", "(I)I"⟩
abbrev cX0_rankOf : ByteArray := prog_2_method_7_code
def yX0_rankOf : MethodName := ⟨RX0, "rankOf", "(I)I"⟩
abbrev cX0_howManyBetween : ByteArray := prog_2_method_8_code
def yX0_howManyBetween : MethodName := ⟨RX0, "howManyBetween", "(II)I"⟩
abbrev cX0_markedBetween : ByteArray := prog_2_method_9_code
def yX0_markedBetween : MethodName := ⟨RX0, "markedBetween", "(II)I"⟩
abbrev cX0_leastDifference : ByteArray := prog_2_method_10_code
def yX0_leastDifference : MethodName := ⟨RX0, "leastDifference", "()I"⟩
abbrev cX0_stretches : ByteArray := prog_2_method_11_code
def yX0_stretches : MethodName := ⟨RX0, "stretches", "()I"⟩
abbrev cX0_sum : ByteArray := prog_2_method_12_code
def yX0_sum : MethodName := ⟨RX0, "sum", "()I"⟩
abbrev cX0_lastToldWith : ByteArray := prog_2_method_13_code
def yX0_lastToldWith : MethodName := ⟨RX0, "lastToldWith", "(I)I"⟩
abbrev cX0_openGap : ByteArray := prog_2_method_14_code
def yX0_openGap : MethodName := ⟨RX0, "openGap", "(II)Z"⟩
abbrev cX0_closeGap : ByteArray := prog_2_method_15_code
def yX0_closeGap : MethodName := ⟨RX0, "closeGap", "(II)V"⟩
abbrev cX0_insert : ByteArray := prog_2_method_16_code
def yX0_insert : MethodName := ⟨RX0, "insert", "(I)I"⟩
abbrev cX0_giveStretch : ByteArray := prog_2_method_17_code
def yX0_giveStretch : MethodName := ⟨RX0, "giveStretch", "(IILMeltingHeaps$Heap;)V"⟩
abbrev cX0_absorb : ByteArray := prog_2_method_18_code
def yX0_absorb : MethodName := ⟨RX0, "absorb", "(LMeltingHeaps$Heap;I)V"⟩
abbrev cX0_shiftAll : ByteArray := prog_2_method_19_code
def yX0_shiftAll : MethodName := ⟨RX0, "shiftAll", "(I)V"⟩
abbrev cX0_markBetween : ByteArray := prog_2_method_20_code
def yX0_markBetween : MethodName := ⟨RX0, "markBetween", "(III)I"⟩
def RX1 : String := "MeltingHeaps$Image"
def TX1 : u_T := fun k => match k with
  | 0 => ("MeltingHeaps$Image", "heaps", "LMeltingHeaps$Snapshot;", true)
  | 1 => ("MeltingHeaps$Image", "tape", "LMeltingHeaps$Row;", true)
  | 2 => ("MeltingHeaps$Image", "told", "LMeltingHeaps$Row;", true)
  | 3 => ("MeltingHeaps$Image", "taken", "Z", false)
  | 4 => ("MeltingHeaps$Image", "faultKind", "I", false)
  | _ => ("MeltingHeaps$Image", "faultPlace", "I", false)
def tyX1 : Nat → FieldType := fun k => match k with
  | 0 => .object "MeltingHeaps$Snapshot"
  | 1 => .object "MeltingHeaps$Row"
  | 2 => .object "MeltingHeaps$Row"
  | 3 => .boolean
  | 4 => .int
  | _ => .int
abbrev wsX10 : List Cond := u_ws RX1 TX1 6
theorem nmX1 : ∀ a, a < 6 → ∀ b, b < 6 → a ≠ b → (TX1 a).2.1 ≠ (TX1 b).2.1 := by decide +kernel
theorem tyX1_ok : ∀ k, k < 6 → parseFieldDescriptor (TX1 k).2.2.1 = some (tyX1 k) := by decide +kernel
abbrev cX1_init : ByteArray := prog_3_method_1_code
def yX1_init : MethodName := ⟨RX1, "<init>", "()V"⟩
def RX2 : String := "MeltingHeaps$Parade"
def TX2 : u_T := fun k => match k with
  | 0 => ("MeltingHeaps$Parade", "heaps", "[LMeltingHeaps$Heap;", true)
  | _ => ("MeltingHeaps$Parade", "heads", "[I", true)
def tyX2 : Nat → FieldType := fun k => match k with
  | 0 => .array (.object "MeltingHeaps$Heap")
  | _ => .array .int
abbrev wsX20 : List Cond := u_ws RX2 TX2 2
theorem nmX2 : ∀ a, a < 2 → ∀ b, b < 2 → a ≠ b → (TX2 a).2.1 ≠ (TX2 b).2.1 := by decide +kernel
theorem tyX2_ok : ∀ k, k < 2 → parseFieldDescriptor (TX2 k).2.2.1 = some (tyX2 k) := by decide +kernel
abbrev cX2_init : ByteArray := prog_4_method_1_code
def yX2_init : MethodName := ⟨RX2, "<init>", "([LMeltingHeaps$Heap;)V"⟩
abbrev cX2_begin : ByteArray := prog_4_method_2_code
def yX2_begin : MethodName := ⟨RX2, "begin", "()V"⟩
abbrev cX2_next : ByteArray := prog_4_method_3_code
def yX2_next : MethodName := ⟨RX2, "next", "()I"⟩
def RX3 : String := "MeltingHeaps$Past"
def TX3 : u_T := fun k => match k with
  | 0 => ("MeltingHeaps$Past", "rows", "[LMeltingHeaps$Snapshot;", true)
  | 1 => ("MeltingHeaps$Past", "next", "I", false)
  | _ => ("MeltingHeaps$Past", "held", "I", false)
def tyX3 : Nat → FieldType := fun k => match k with
  | 0 => .array (.object "MeltingHeaps$Snapshot")
  | 1 => .int
  | _ => .int
abbrev wsX30 : List Cond := u_ws RX3 TX3 3
theorem nmX3 : ∀ a, a < 3 → ∀ b, b < 3 → a ≠ b → (TX3 a).2.1 ≠ (TX3 b).2.1 := by decide +kernel
theorem tyX3_ok : ∀ k, k < 3 → parseFieldDescriptor (TX3 k).2.2.1 = some (tyX3 k) := by decide +kernel
abbrev cX3_init : ByteArray := prog_5_method_1_code
def yX3_init : MethodName := ⟨RX3, "<init>", "()V"⟩
abbrev cX3_prepare : ByteArray := prog_5_method_2_code
def yX3_prepare : MethodName := ⟨RX3, "prepare", "(LMeltingHeaps$Store;)V"⟩
abbrev cX3_settle : ByteArray := prog_5_method_3_code
def yX3_settle : MethodName := ⟨RX3, "settle", "(I)I"⟩
abbrev cX3_stepBack : ByteArray := prog_5_method_4_code
def yX3_stepBack : MethodName := ⟨RX3, "stepBack", "(LMeltingHeaps$Store;)V"⟩
abbrev cX3_forget : ByteArray := prog_5_method_5_code
def yX3_forget : MethodName := ⟨RX3, "forget", "()V"⟩
def RX4 : String := "MeltingHeaps$Row"
def TX4 : u_T := fun k => match k with
  | 0 => ("MeltingHeaps$Row", "bytes", "[B", true)
  | _ => ("MeltingHeaps$Row", "length", "I", false)
def tyX4 : Nat → FieldType := fun k => match k with
  | 0 => .array .byte
  | _ => .int
abbrev wsX40 : List Cond := u_ws RX4 TX4 2
theorem nmX4 : ∀ a, a < 2 → ∀ b, b < 2 → a ≠ b → (TX4 a).2.1 ≠ (TX4 b).2.1 := by decide +kernel
theorem tyX4_ok : ∀ k, k < 2 → parseFieldDescriptor (TX4 k).2.2.1 = some (tyX4 k) := by decide +kernel
abbrev cX4_init : ByteArray := prog_6_method_1_code
def yX4_init : MethodName := ⟨RX4, "<init>", "([B)V"⟩
abbrev cX4_byteAt : ByteArray := prog_6_method_2_code
def yX4_byteAt : MethodName := ⟨RX4, "byteAt", "(I)I"⟩
abbrev cX4_add : ByteArray := prog_6_method_3_code
def yX4_add : MethodName := ⟨RX4, "add", "(I)V"⟩
abbrev cX4_addFour : ByteArray := prog_6_method_4_code
def yX4_addFour : MethodName := ⟨RX4, "addFour", "(I)V"⟩
abbrev cX4_addNumber : ByteArray := prog_6_method_5_code
def yX4_addNumber : MethodName := ⟨RX4, "addNumber", "(I)V"⟩
abbrev cX4_copy : ByteArray := prog_6_method_6_code
def yX4_copy : MethodName := ⟨RX4, "copy", "(LMeltingHeaps$Row;)V"⟩
def RX5 : String := "MeltingHeaps$Script"
def TX5 : u_T := fun k => match k with
  | 0 => ("MeltingHeaps$Script", "tape", "LMeltingHeaps$Row;", true)
  | 1 => ("MeltingHeaps$Script", "store", "LMeltingHeaps$Store;", true)
  | 2 => ("MeltingHeaps$Script", "numbers", "[I", true)
  | 3 => ("MeltingHeaps$Script", "at", "I", false)
  | 4 => ("MeltingHeaps$Script", "kind", "I", false)
  | 5 => ("MeltingHeaps$Script", "place", "I", false)
  | 6 => ("MeltingHeaps$Script", "value", "I", false)
  | 7 => ("MeltingHeaps$Script", "faultKind", "I", false)
  | _ => ("MeltingHeaps$Script", "faultPlace", "I", false)
def tyX5 : Nat → FieldType := fun k => match k with
  | 0 => .object "MeltingHeaps$Row"
  | 1 => .object "MeltingHeaps$Store"
  | 2 => .array .int
  | 3 => .int
  | 4 => .int
  | 5 => .int
  | 6 => .int
  | 7 => .int
  | _ => .int
abbrev wsX50 : List Cond := u_ws RX5 TX5 9
theorem nmX5 : ∀ a, a < 9 → ∀ b, b < 9 → a ≠ b → (TX5 a).2.1 ≠ (TX5 b).2.1 := by decide +kernel
theorem tyX5_ok : ∀ k, k < 9 → parseFieldDescriptor (TX5 k).2.2.1 = some (tyX5 k) := by decide +kernel
abbrev cX5_init : ByteArray := prog_7_method_1_code
def yX5_init : MethodName := ⟨RX5, "<init>", "(LMeltingHeaps$Row;LMeltingHeaps$Store;)V"⟩
abbrev cX5_perform : ByteArray := prog_7_method_2_code
def yX5_perform : MethodName := ⟨RX5, "perform", "()V"⟩
abbrev cX5_doLine : ByteArray := prog_7_method_3_code
def yX5_doLine : MethodName := ⟨RX5, "doLine", "()V"⟩
abbrev cX5_fail : ByteArray := prog_7_method_4_code
def yX5_fail : MethodName := ⟨RX5, "fail", "(II)V"⟩
abbrev cX5_lineHere : ByteArray := prog_7_method_5_code
def yX5_lineHere : MethodName := ⟨RX5, "lineHere", "()I"⟩
abbrev cX5_spells : ByteArray := prog_7_method_6_code
def yX5_spells : MethodName := ⟨RX5, "spells", "(Ljava/lang/String;)Z"⟩
abbrev cX5_shapeOf : ByteArray := prog_7_method_7_code
def yX5_shapeOf : MethodName := ⟨RX5, "shapeOf", "(I)Ljava/lang/String;"⟩
abbrev cX5_takeArgument : ByteArray := prog_7_method_8_code
def yX5_takeArgument : MethodName := ⟨RX5, "takeArgument", "(C)I"⟩
abbrev cX5_takeNumber : ByteArray := prog_7_method_9_code
def yX5_takeNumber : MethodName := ⟨RX5, "takeNumber", "(I)I"⟩
abbrev cX5_putItem : ByteArray := prog_7_method_10_code
def yX5_putItem : MethodName := ⟨RX5, "putItem", "(I)V"⟩
abbrev cX5_act : ByteArray := prog_7_method_11_code
def yX5_act : MethodName := ⟨RX5, "act", "(I)I"⟩
abbrev cX5_advance : ByteArray := prog_7_method_12_code
def yX5_advance : MethodName := ⟨RX5, "advance", "()V"⟩
abbrev cX5_readWord : ByteArray := prog_7_method_13_code
def yX5_readWord : MethodName := ⟨RX5, "readWord", "()V"⟩
abbrev cX5_readNumber : ByteArray := prog_7_method_14_code
def yX5_readNumber : MethodName := ⟨RX5, "readNumber", "()V"⟩
abbrev cX5_isBlank : ByteArray := prog_7_method_15_code
def yX5_isBlank : MethodName := ⟨RX5, "isBlank", "(I)Z"⟩
abbrev cX5_isLetter : ByteArray := prog_7_method_16_code
def yX5_isLetter : MethodName := ⟨RX5, "isLetter", "(I)Z"⟩
abbrev cX5_isDigit : ByteArray := prog_7_method_17_code
def yX5_isDigit : MethodName := ⟨RX5, "isDigit", "(I)Z"⟩
def RX6 : String := "MeltingHeaps$Snapshot"
def TX6 : u_T := fun k => match k with
  | 0 => ("MeltingHeaps$Snapshot", "entries", "[I", true)
  | 1 => ("MeltingHeaps$Snapshot", "sizes", "[I", true)
  | _ => ("MeltingHeaps$Snapshot", "fingers", "[I", true)
def tyX6 : Nat → FieldType := fun k => match k with
  | 0 => .array .int
  | 1 => .array .int
  | _ => .array .int
abbrev wsX60 : List Cond := u_ws RX6 TX6 3
theorem nmX6 : ∀ a, a < 3 → ∀ b, b < 3 → a ≠ b → (TX6 a).2.1 ≠ (TX6 b).2.1 := by decide +kernel
theorem tyX6_ok : ∀ k, k < 3 → parseFieldDescriptor (TX6 k).2.2.1 = some (tyX6 k) := by decide +kernel
abbrev cX6_init : ByteArray := prog_8_method_1_code
def yX6_init : MethodName := ⟨RX6, "<init>", "()V"⟩
abbrev cX6_take : ByteArray := prog_8_method_2_code
def yX6_take : MethodName := ⟨RX6, "take", "(LMeltingHeaps$Store;)V"⟩
abbrev cX6_give : ByteArray := prog_8_method_3_code
def yX6_give : MethodName := ⟨RX6, "give", "(LMeltingHeaps$Store;)V"⟩
def RX7 : String := "MeltingHeaps$Store"
def TX7 : u_T := fun k => match k with
  | 0 => ("MeltingHeaps$Store", "heaps", "[LMeltingHeaps$Heap;", true)
  | 1 => ("MeltingHeaps$Store", "tree", "LMeltingHeaps$Tree;", true)
  | 2 => ("MeltingHeaps$Store", "weave", "LMeltingHeaps$Weave;", true)
  | 3 => ("MeltingHeaps$Store", "parade", "LMeltingHeaps$Parade;", true)
  | 4 => ("MeltingHeaps$Store", "weights", "[I", true)
  | 5 => ("MeltingHeaps$Store", "cheapestOne", "I", false)
  | 6 => ("MeltingHeaps$Store", "cheapestOther", "I", false)
  | _ => ("MeltingHeaps$Store", "cheapestCost", "I", false)
def tyX7 : Nat → FieldType := fun k => match k with
  | 0 => .array (.object "MeltingHeaps$Heap")
  | 1 => .object "MeltingHeaps$Tree"
  | 2 => .object "MeltingHeaps$Weave"
  | 3 => .object "MeltingHeaps$Parade"
  | 4 => .array .int
  | 5 => .int
  | 6 => .int
  | _ => .int
abbrev wsX70 : List Cond := u_ws RX7 TX7 8
theorem nmX7 : ∀ a, a < 8 → ∀ b, b < 8 → a ≠ b → (TX7 a).2.1 ≠ (TX7 b).2.1 := by decide +kernel
theorem tyX7_ok : ∀ k, k < 8 → parseFieldDescriptor (TX7 k).2.2.1 = some (tyX7 k) := by decide +kernel
abbrev cX7_init : ByteArray := prog_9_method_1_code
def yX7_init : MethodName := ⟨RX7, "<init>", "()V"⟩
abbrev cX7_empty : ByteArray := prog_9_method_2_code
def yX7_empty : MethodName := ⟨RX7, "empty", "()V"⟩
abbrev cX7_heapAt : ByteArray := prog_9_method_3_code
def yX7_heapAt : MethodName := ⟨RX7, "heapAt", "(I)LMeltingHeaps$Heap;"⟩
abbrev cX7_treeOf : ByteArray := prog_9_method_4_code
def yX7_treeOf : MethodName := ⟨RX7, "treeOf", "(LMeltingHeaps$Heap;)LMeltingHeaps$Tree;"⟩
abbrev cX7_weaveOf : ByteArray := prog_9_method_5_code
def yX7_weaveOf : MethodName := ⟨RX7, "weaveOf", "(LMeltingHeaps$Heap;LMeltingHeaps$Heap;)LMeltingHeaps$Weave;"⟩
abbrev cX7_total : ByteArray := prog_9_method_6_code
def yX7_total : MethodName := ⟨RX7, "total", "()I"⟩
abbrev cX7_putKey : ByteArray := prog_9_method_7_code
def yX7_putKey : MethodName := ⟨RX7, "putKey", "(II)I"⟩
abbrev cX7_dropKey : ByteArray := prog_9_method_8_code
def yX7_dropKey : MethodName := ⟨RX7, "dropKey", "(II)I"⟩
abbrev cX7_cutAbove : ByteArray := prog_9_method_9_code
def yX7_cutAbove : MethodName := ⟨RX7, "cutAbove", "(III)I"⟩
abbrev cX7_joinTo : ByteArray := prog_9_method_10_code
def yX7_joinTo : MethodName := ⟨RX7, "joinTo", "(II)I"⟩
abbrev cX7_whyNotJoin : ByteArray := prog_9_method_11_code
def yX7_whyNotJoin : MethodName := ⟨RX7, "whyNotJoin", "(LMeltingHeaps$Heap;LMeltingHeaps$Heap;)I"⟩
abbrev cX7_meltTo : ByteArray := prog_9_method_12_code
def yX7_meltTo : MethodName := ⟨RX7, "meltTo", "(II)I"⟩
abbrev cX7_whyNotMelt : ByteArray := prog_9_method_13_code
def yX7_whyNotMelt : MethodName := ⟨RX7, "whyNotMelt", "(LMeltingHeaps$Heap;LMeltingHeaps$Weave;)I"⟩
abbrev cX7_shiftBy : ByteArray := prog_9_method_14_code
def yX7_shiftBy : MethodName := ⟨RX7, "shiftBy", "(II)I"⟩
abbrev cX7_moveStretch : ByteArray := prog_9_method_15_code
def yX7_moveStretch : MethodName := ⟨RX7, "moveStretch", "(IIII)I"⟩
abbrev cX7_markStretch : ByteArray := prog_9_method_16_code
def yX7_markStretch : MethodName := ⟨RX7, "markStretch", "(IIIZ)I"⟩
abbrev cX7_seekFrom : ByteArray := prog_9_method_17_code
def yX7_seekFrom : MethodName := ⟨RX7, "seekFrom", "(II)I"⟩
abbrev cX7_notEmpty : ByteArray := prog_9_method_18_code
def yX7_notEmpty : MethodName := ⟨RX7, "notEmpty", "()I"⟩
abbrev cX7_allMarked : ByteArray := prog_9_method_19_code
def yX7_allMarked : MethodName := ⟨RX7, "allMarked", "()I"⟩
abbrev cX7_unlike : ByteArray := prog_9_method_20_code
def yX7_unlike : MethodName := ⟨RX7, "unlike", "()I"⟩
abbrev cX7_huffman : ByteArray := prog_9_method_21_code
def yX7_huffman : MethodName := ⟨RX7, "huffman", "()I"⟩
abbrev cX7_lightest : ByteArray := prog_9_method_22_code
def yX7_lightest : MethodName := ⟨RX7, "lightest", "(I)I"⟩
abbrev cX7_findCheapest : ByteArray := prog_9_method_23_code
def yX7_findCheapest : MethodName := ⟨RX7, "findCheapest", "()V"⟩
abbrev cX7_takeIfCheaper : ByteArray := prog_9_method_24_code
def yX7_takeIfCheaper : MethodName := ⟨RX7, "takeIfCheaper", "(II)V"⟩
def RX8 : String := "MeltingHeaps$Tree"
def TX8 : u_T := fun k => match k with
  | 0 => ("MeltingHeaps$Tree", "keys", "[I", true)
  | 1 => ("MeltingHeaps$Tree", "above", "[I", true)
  | 2 => ("MeltingHeaps$Tree", "left", "[I", true)
  | 3 => ("MeltingHeaps$Tree", "right", "[I", true)
  | 4 => ("MeltingHeaps$Tree", "depth", "[I", true)
  | 5 => ("MeltingHeaps$Tree", "under", "[I", true)
  | 6 => ("MeltingHeaps$Tree", "way", "[I", true)
  | 7 => ("MeltingHeaps$Tree", "size", "I", false)
  | _ => ("MeltingHeaps$Tree", "root", "I", false)
def tyX8 : Nat → FieldType := fun k => match k with
  | 0 => .array .int
  | 1 => .array .int
  | 2 => .array .int
  | 3 => .array .int
  | 4 => .array .int
  | 5 => .array .int
  | 6 => .array .int
  | 7 => .int
  | _ => .int
abbrev wsX80 : List Cond := u_ws RX8 TX8 9
theorem nmX8 : ∀ a, a < 9 → ∀ b, b < 9 → a ≠ b → (TX8 a).2.1 ≠ (TX8 b).2.1 := by decide +kernel
theorem tyX8_ok : ∀ k, k < 9 → parseFieldDescriptor (TX8 k).2.2.1 = some (tyX8 k) := by decide +kernel
abbrev cX8_init : ByteArray := prog_10_method_1_code
def yX8_init : MethodName := ⟨RX8, "<init>", "()V"⟩
abbrev cX8_grow : ByteArray := prog_10_method_2_code
def yX8_grow : MethodName := ⟨RX8, "grow", "(LMeltingHeaps$Heap;II)V"⟩
abbrev cX8_addKey : ByteArray := prog_10_method_3_code
def yX8_addKey : MethodName := ⟨RX8, "addKey", "(I)V"⟩
abbrev cX8_link : ByteArray := prog_10_method_4_code
def yX8_link : MethodName := ⟨RX8, "link", "()V"⟩
abbrev cX8_climb : ByteArray := prog_10_method_5_code
def yX8_climb : MethodName := ⟨RX8, "climb", "()V"⟩
abbrev cX8_isNode : ByteArray := prog_10_method_6_code
def yX8_isNode : MethodName := ⟨RX8, "isNode", "(I)Z"⟩
abbrev cX8_keyOf : ByteArray := prog_10_method_7_code
def yX8_keyOf : MethodName := ⟨RX8, "keyOf", "(I)I"⟩
abbrev cX8_rootKey : ByteArray := prog_10_method_8_code
def yX8_rootKey : MethodName := ⟨RX8, "rootKey", "()I"⟩
abbrev cX8_depthAt : ByteArray := prog_10_method_9_code
def yX8_depthAt : MethodName := ⟨RX8, "depthAt", "(I)I"⟩
abbrev cX8_keyAbove : ByteArray := prog_10_method_10_code
def yX8_keyAbove : MethodName := ⟨RX8, "keyAbove", "(I)I"⟩
abbrev cX8_keyAtLeft : ByteArray := prog_10_method_11_code
def yX8_keyAtLeft : MethodName := ⟨RX8, "keyAtLeft", "(I)I"⟩
abbrev cX8_keyAtRight : ByteArray := prog_10_method_12_code
def yX8_keyAtRight : MethodName := ⟨RX8, "keyAtRight", "(I)I"⟩
abbrev cX8_howManyBelow : ByteArray := prog_10_method_13_code
def yX8_howManyBelow : MethodName := ⟨RX8, "howManyBelow", "(I)I"⟩
abbrev cX8_high : ByteArray := prog_10_method_14_code
def yX8_high : MethodName := ⟨RX8, "high", "()I"⟩
abbrev cX8_allDepths : ByteArray := prog_10_method_15_code
def yX8_allDepths : MethodName := ⟨RX8, "allDepths", "()I"⟩
abbrev cX8_steps : ByteArray := prog_10_method_16_code
def yX8_steps : MethodName := ⟨RX8, "steps", "(II)I"⟩
def RX9 : String := "MeltingHeaps$Weave"
def TX9 : u_T := fun k => match k with
  | 0 => ("MeltingHeaps$Weave", "runs", "I", false)
  | 1 => ("MeltingHeaps$Weave", "twins", "I", false)
  | 2 => ("MeltingHeaps$Weave", "cost", "I", false)
  | 3 => ("MeltingHeaps$Weave", "longest", "I", false)
  | _ => ("MeltingHeaps$Weave", "keys", "I", false)
def tyX9 : Nat → FieldType := fun k => match k with
  | 0 => .int
  | 1 => .int
  | 2 => .int
  | 3 => .int
  | _ => .int
abbrev wsX90 : List Cond := u_ws RX9 TX9 5
theorem nmX9 : ∀ a, a < 5 → ∀ b, b < 5 → a ≠ b → (TX9 a).2.1 ≠ (TX9 b).2.1 := by decide +kernel
theorem tyX9_ok : ∀ k, k < 5 → parseFieldDescriptor (TX9 k).2.2.1 = some (tyX9 k) := by decide +kernel
abbrev cX9_init : ByteArray := prog_11_method_1_code
def yX9_init : MethodName := ⟨RX9, "<init>", "()V"⟩
abbrev cX9_weave : ByteArray := prog_11_method_2_code
def yX9_weave : MethodName := ⟨RX9, "weave", "(LMeltingHeaps$Heap;LMeltingHeaps$Heap;)V"⟩
abbrev cX9_endRun : ByteArray := prog_11_method_3_code
def yX9_endRun : MethodName := ⟨RX9, "endRun", "(I)V"⟩
def RX10 : String := "MeltingHeaps"
def TX10 : u_T := fun k => match k with
  | 0 => ("MeltingHeaps", "store", "LMeltingHeaps$Store;", true)
  | 1 => ("MeltingHeaps", "past", "LMeltingHeaps$Past;", true)
  | 2 => ("MeltingHeaps", "tape", "LMeltingHeaps$Row;", true)
  | 3 => ("MeltingHeaps", "told", "LMeltingHeaps$Row;", true)
  | 4 => ("MeltingHeaps", "script", "LMeltingHeaps$Script;", true)
  | 5 => ("MeltingHeaps", "beforeText", "LMeltingHeaps$Snapshot;", true)
  | 6 => ("MeltingHeaps", "images", "[LMeltingHeaps$Image;", true)
  | 7 => ("MeltingHeaps", "faultKind", "I", false)
  | _ => ("MeltingHeaps", "faultPlace", "I", false)
def tyX10 : Nat → FieldType := fun k => match k with
  | 0 => .object "MeltingHeaps$Store"
  | 1 => .object "MeltingHeaps$Past"
  | 2 => .object "MeltingHeaps$Row"
  | 3 => .object "MeltingHeaps$Row"
  | 4 => .object "MeltingHeaps$Script"
  | 5 => .object "MeltingHeaps$Snapshot"
  | 6 => .array (.object "MeltingHeaps$Image")
  | 7 => .int
  | _ => .int
abbrev wsX100 : List Cond := u_ws RX10 TX10 9
theorem nmX10 : ∀ a, a < 9 → ∀ b, b < 9 → a ≠ b → (TX10 a).2.1 ≠ (TX10 b).2.1 := by decide +kernel
theorem tyX10_ok : ∀ k, k < 9 → parseFieldDescriptor (TX10 k).2.2.1 = some (tyX10 k) := by decide +kernel
abbrev cX10_init : ByteArray := prog_1_method_1_code
def yX10_init : MethodName := ⟨RX10, "<init>", "()V"⟩
abbrev cX10_feed : ByteArray := prog_1_method_2_code
def yX10_feed : MethodName := ⟨RX10, "feed", "(IIIII)I"⟩
abbrev cX10_end : ByteArray := prog_1_method_3_code
def yX10_end : MethodName := ⟨RX10, "end", "(I)I"⟩
abbrev cX10_text : ByteArray := prog_1_method_4_code
def yX10_text : MethodName := ⟨RX10, "text", "()I"⟩
abbrev cX10_fault : ByteArray := prog_1_method_5_code
def yX10_fault : MethodName := ⟨RX10, "fault", "(I)I"⟩
abbrev cX10_put : ByteArray := prog_1_method_6_code
def yX10_put : MethodName := ⟨RX10, "put", "(II)I"⟩
abbrev cX10_drop : ByteArray := prog_1_method_7_code
def yX10_drop : MethodName := ⟨RX10, "drop", "(II)I"⟩
abbrev cX10_cut : ByteArray := prog_1_method_8_code
def yX10_cut : MethodName := ⟨RX10, "cut", "(III)I"⟩
abbrev cX10_join : ByteArray := prog_1_method_9_code
def yX10_join : MethodName := ⟨RX10, "join", "(II)I"⟩
abbrev cX10_melt : ByteArray := prog_1_method_10_code
def yX10_melt : MethodName := ⟨RX10, "melt", "(II)I"⟩
abbrev cX10_shift : ByteArray := prog_1_method_11_code
def yX10_shift : MethodName := ⟨RX10, "shift", "(II)I"⟩
abbrev cX10_move : ByteArray := prog_1_method_12_code
def yX10_move : MethodName := ⟨RX10, "move", "(IIII)I"⟩
abbrev cX10_mark : ByteArray := prog_1_method_13_code
def yX10_mark : MethodName := ⟨RX10, "mark", "(IIIZ)I"⟩
abbrev cX10_seek : ByteArray := prog_1_method_14_code
def yX10_seek : MethodName := ⟨RX10, "seek", "(II)I"⟩
abbrev cX10_undo : ByteArray := prog_1_method_15_code
def yX10_undo : MethodName := ⟨RX10, "undo", "()I"⟩
abbrev cX10_set : ByteArray := prog_1_method_16_code
def yX10_set : MethodName := ⟨RX10, "set", "(II)I"⟩
abbrev cX10_key : ByteArray := prog_1_method_17_code
def yX10_key : MethodName := ⟨RX10, "key", "(II)I"⟩
abbrev cX10_of : ByteArray := prog_1_method_18_code
def yX10_of : MethodName := ⟨RX10, "of", "(III)I"⟩
abbrev cX10_within : ByteArray := prog_1_method_19_code
def yX10_within : MethodName := ⟨RX10, "within", "(IIIZ)I"⟩
abbrev cX10_far : ByteArray := prog_1_method_20_code
def yX10_far : MethodName := ⟨RX10, "far", "(III)I"⟩
abbrev cX10_where : ByteArray := prog_1_method_21_code
def yX10_where : MethodName := ⟨RX10, "where", "(I)I"⟩
abbrev cX10_count : ByteArray := prog_1_method_22_code
def yX10_count : MethodName := ⟨RX10, "count", "(I)I"⟩
abbrev cX10_pair : ByteArray := prog_1_method_23_code
def yX10_pair : MethodName := ⟨RX10, "pair", "(III)I"⟩
abbrev cX10_cheapest : ByteArray := prog_1_method_24_code
def yX10_cheapest : MethodName := ⟨RX10, "cheapest", "(I)I"⟩
abbrev cX10_merged : ByteArray := prog_1_method_25_code
def yX10_merged : MethodName := ⟨RX10, "merged", "(I)I"⟩
abbrev cX10_would : ByteArray := prog_1_method_26_code
def yX10_would : MethodName := ⟨RX10, "would", "(IIZ)I"⟩
abbrev cX10_halves : ByteArray := prog_1_method_27_code
def yX10_halves : MethodName := ⟨RX10, "halves", "(I)I"⟩
abbrev cX10_tell : ByteArray := prog_1_method_28_code
def yX10_tell : MethodName := ⟨RX10, "tell", "(I)I"⟩
abbrev cX10_octet : ByteArray := prog_1_method_29_code
def yX10_octet : MethodName := ⟨RX10, "octet", "(I)I"⟩
abbrev cX10_image : ByteArray := prog_1_method_30_code
def yX10_image : MethodName := ⟨RX10, "image", "(I)Z"⟩
abbrev cX10_again : ByteArray := prog_1_method_31_code
def yX10_again : MethodName := ⟨RX10, "again", "(I)Z"⟩
abbrev cX10_isKey : ByteArray := prog_1_method_32_code
def yX10_isKey : MethodName := ⟨RX10, "isKey", "(I)Z"⟩
abbrev cX10_priority : ByteArray := prog_1_method_33_code
def yX10_priority : MethodName := ⟨RX10, "priority", "(I)I"⟩
def RX11 : String := "MeltingHeapsModel"
def TX11 : u_T := fun k => match k with
  | 0 => ("MeltingHeapsModel", "all", "[I", true)
  | 1 => ("MeltingHeapsModel", "tape", "[I", true)
  | 2 => ("MeltingHeapsModel", "told", "[I", true)
  | 3 => ("MeltingHeapsModel", "isImage", "[Z", true)
  | 4 => ("MeltingHeapsModel", "taped", "I", false)
  | 5 => ("MeltingHeapsModel", "toldMany", "I", false)
  | 6 => ("MeltingHeapsModel", "faultKind", "I", false)
  | 7 => ("MeltingHeapsModel", "faultPlace", "I", false)
  | 8 => ("MeltingHeapsModel", "undos", "I", false)
  | 9 => ("MeltingHeapsModel", "b", "I", false)
  | 10 => ("MeltingHeapsModel", "row", "[I", true)
  | 11 => ("MeltingHeapsModel", "rowMany", "I", false)
  | 12 => ("MeltingHeapsModel", "wayFrom", "I", false)
  | 13 => ("MeltingHeapsModel", "wayLast", "I", false)
  | 14 => ("MeltingHeapsModel", "wayAbove", "I", false)
  | 15 => ("MeltingHeapsModel", "wayDeep", "I", false)
  | 16 => ("MeltingHeapsModel", "runs", "I", false)
  | 17 => ("MeltingHeapsModel", "cost", "I", false)
  | 18 => ("MeltingHeapsModel", "longest", "I", false)
  | 19 => ("MeltingHeapsModel", "run", "I", false)
  | 20 => ("MeltingHeapsModel", "runOf", "I", false)
  | 21 => ("MeltingHeapsModel", "sizes", "[I", true)
  | 22 => ("MeltingHeapsModel", "size0", "I", false)
  | 23 => ("MeltingHeapsModel", "next", "I", false)
  | 24 => ("MeltingHeapsModel", "token", "I", false)
  | 25 => ("MeltingHeapsModel", "place", "I", false)
  | _ => ("MeltingHeapsModel", "value", "J", false)
def tyX11 : Nat → FieldType := fun k => match k with
  | 0 => .array .int
  | 1 => .array .int
  | 2 => .array .int
  | 3 => .array .boolean
  | 4 => .int
  | 5 => .int
  | 6 => .int
  | 7 => .int
  | 8 => .int
  | 9 => .int
  | 10 => .array .int
  | 11 => .int
  | 12 => .int
  | 13 => .int
  | 14 => .int
  | 15 => .int
  | 16 => .int
  | 17 => .int
  | 18 => .int
  | 19 => .int
  | 20 => .int
  | 21 => .array .int
  | 22 => .int
  | 23 => .int
  | 24 => .int
  | 25 => .int
  | _ => .long
abbrev wsX110 : List Cond := u_ws RX11 TX11 27
theorem nmX11 : ∀ a, a < 27 → ∀ b, b < 27 → a ≠ b → (TX11 a).2.1 ≠ (TX11 b).2.1 := by decide +kernel
theorem tyX11_ok : ∀ k, k < 27 → parseFieldDescriptor (TX11 k).2.2.1 = some (tyX11 k) := by decide +kernel
abbrev cX11_init : ByteArray := prog_13_method_1_code
def yX11_init : MethodName := ⟨RX11, "<init>", "()V"⟩
abbrev cX11_empties : ByteArray := prog_13_method_2_code
def yX11_empties : MethodName := ⟨RX11, "empties", "(I)V"⟩
abbrev cX11_isIn : ByteArray := prog_13_method_3_code
def yX11_isIn : MethodName := ⟨RX11, "isIn", "(III)Z"⟩
abbrev cX11_copies : ByteArray := prog_13_method_4_code
def yX11_copies : MethodName := ⟨RX11, "copies", "(III)V"⟩
abbrev cX11_isSet : ByteArray := prog_13_method_5_code
def yX11_isSet : MethodName := ⟨RX11, "isSet", "(I)Z"⟩
abbrev cX11_isKey : ByteArray := prog_13_method_6_code
def yX11_isKey : MethodName := ⟨RX11, "isKey", "(I)Z"⟩
abbrev cX11_many : ByteArray := prog_13_method_7_code
def yX11_many : MethodName := ⟨RX11, "many", "(I)I"⟩
abbrev cX11_keyAt : ByteArray := prog_13_method_8_code
def yX11_keyAt : MethodName := ⟨RX11, "keyAt", "(II)I"⟩
abbrev cX11_markAt : ByteArray := prog_13_method_9_code
def yX11_markAt : MethodName := ⟨RX11, "markAt", "(II)I"⟩
abbrev cX11_finger : ByteArray := prog_13_method_10_code
def yX11_finger : MethodName := ⟨RX11, "finger", "(I)I"⟩
abbrev cX11_points : ByteArray := prog_13_method_11_code
def yX11_points : MethodName := ⟨RX11, "points", "(II)V"⟩
abbrev cX11_below : ByteArray := prog_13_method_12_code
def yX11_below : MethodName := ⟨RX11, "below", "(II)I"⟩
abbrev cX11_placeOf : ByteArray := prog_13_method_13_code
def yX11_placeOf : MethodName := ⟨RX11, "placeOf", "(II)I"⟩
abbrev cX11_puts : ByteArray := prog_13_method_14_code
def yX11_puts : MethodName := ⟨RX11, "puts", "(III)V"⟩
abbrev cX11_drops : ByteArray := prog_13_method_15_code
def yX11_drops : MethodName := ⟨RX11, "drops", "(II)V"⟩
abbrev cX11_total : ByteArray := prog_13_method_16_code
def yX11_total : MethodName := ⟨RX11, "total", "()I"⟩
abbrev cX11_twins : ByteArray := prog_13_method_17_code
def yX11_twins : MethodName := ⟨RX11, "twins", "(II)I"⟩
abbrev cX11_counted : ByteArray := prog_13_method_18_code
def yX11_counted : MethodName := ⟨RX11, "counted", "(III)I"⟩
abbrev cX11_laysRow : ByteArray := prog_13_method_19_code
def yX11_laysRow : MethodName := ⟨RX11, "laysRow", "(I)V"⟩
abbrev cX11_priority : ByteArray := prog_13_method_20_code
def yX11_priority : MethodName := ⟨RX11, "priority", "(I)I"⟩
abbrev cX11_ahead : ByteArray := prog_13_method_21_code
def yX11_ahead : MethodName := ⟨RX11, "ahead", "(II)I"⟩
abbrev cX11_goesTo : ByteArray := prog_13_method_22_code
def yX11_goesTo : MethodName := ⟨RX11, "goesTo", "(I)V"⟩
abbrev cX11_depth : ByteArray := prog_13_method_23_code
def yX11_depth : MethodName := ⟨RX11, "depth", "(I)I"⟩
abbrev cX11_high : ByteArray := prog_13_method_24_code
def yX11_high : MethodName := ⟨RX11, "high", "()I"⟩
abbrev cX11_farOf : ByteArray := prog_13_method_25_code
def yX11_farOf : MethodName := ⟨RX11, "farOf", "(II)I"⟩
abbrev cX11_endsRun : ByteArray := prog_13_method_26_code
def yX11_endsRun : MethodName := ⟨RX11, "endsRun", "()V"⟩
abbrev cX11_goes : ByteArray := prog_13_method_27_code
def yX11_goes : MethodName := ⟨RX11, "goes", "(I)V"⟩
abbrev cX11_laysRuns : ByteArray := prog_13_method_28_code
def yX11_laysRuns : MethodName := ⟨RX11, "laysRuns", "(II)V"⟩
abbrev cX11_areTwo : ByteArray := prog_13_method_29_code
def yX11_areTwo : MethodName := ⟨RX11, "areTwo", "(II)Z"⟩
abbrev cX11_refusesPut : ByteArray := prog_13_method_30_code
def yX11_refusesPut : MethodName := ⟨RX11, "refusesPut", "(II)I"⟩
abbrev cX11_refusesCut : ByteArray := prog_13_method_31_code
def yX11_refusesCut : MethodName := ⟨RX11, "refusesCut", "(III)I"⟩
abbrev cX11_refusesJoin : ByteArray := prog_13_method_32_code
def yX11_refusesJoin : MethodName := ⟨RX11, "refusesJoin", "(II)I"⟩
abbrev cX11_refusesMelt : ByteArray := prog_13_method_33_code
def yX11_refusesMelt : MethodName := ⟨RX11, "refusesMelt", "(II)I"⟩
abbrev cX11_refusesShift : ByteArray := prog_13_method_34_code
def yX11_refusesShift : MethodName := ⟨RX11, "refusesShift", "(II)I"⟩
abbrev cX11_refusesMove : ByteArray := prog_13_method_35_code
def yX11_refusesMove : MethodName := ⟨RX11, "refusesMove", "(IIII)I"⟩
abbrev cX11_marked : ByteArray := prog_13_method_36_code
def yX11_marked : MethodName := ⟨RX11, "marked", "(IIIIZ)I"⟩
abbrev cX11_refusesMark : ByteArray := prog_13_method_37_code
def yX11_refusesMark : MethodName := ⟨RX11, "refusesMark", "(IIII)I"⟩
abbrev cX11_goOver : ByteArray := prog_13_method_38_code
def yX11_goOver : MethodName := ⟨RX11, "goOver", "(IIII)I"⟩
abbrev cX11_shifts : ByteArray := prog_13_method_39_code
def yX11_shifts : MethodName := ⟨RX11, "shifts", "(II)V"⟩
abbrev cX11_keeps : ByteArray := prog_13_method_40_code
def yX11_keeps : MethodName := ⟨RX11, "keeps", "()V"⟩
abbrev cX11_begins : ByteArray := prog_13_method_41_code
def yX11_begins : MethodName := ⟨RX11, "begins", "(I)I"⟩
abbrev cX11_put : ByteArray := prog_13_method_42_code
def yX11_put : MethodName := ⟨RX11, "put", "(II)I"⟩
abbrev cX11_drop : ByteArray := prog_13_method_43_code
def yX11_drop : MethodName := ⟨RX11, "drop", "(II)I"⟩
abbrev cX11_cut : ByteArray := prog_13_method_44_code
def yX11_cut : MethodName := ⟨RX11, "cut", "(III)I"⟩
abbrev cX11_join : ByteArray := prog_13_method_45_code
def yX11_join : MethodName := ⟨RX11, "join", "(II)I"⟩
abbrev cX11_melt : ByteArray := prog_13_method_46_code
def yX11_melt : MethodName := ⟨RX11, "melt", "(II)I"⟩
abbrev cX11_shift : ByteArray := prog_13_method_47_code
def yX11_shift : MethodName := ⟨RX11, "shift", "(II)I"⟩
abbrev cX11_move : ByteArray := prog_13_method_48_code
def yX11_move : MethodName := ⟨RX11, "move", "(IIII)I"⟩
abbrev cX11_mark : ByteArray := prog_13_method_49_code
def yX11_mark : MethodName := ⟨RX11, "mark", "(IIIZ)I"⟩
abbrev cX11_seek : ByteArray := prog_13_method_50_code
def yX11_seek : MethodName := ⟨RX11, "seek", "(II)I"⟩
abbrev cX11_undo : ByteArray := prog_13_method_51_code
def yX11_undo : MethodName := ⟨RX11, "undo", "()I"⟩
abbrev cX11_summed : ByteArray := prog_13_method_52_code
def yX11_summed : MethodName := ⟨RX11, "summed", "(II)I"⟩
abbrev cX11_set : ByteArray := prog_13_method_53_code
def yX11_set : MethodName := ⟨RX11, "set", "(II)I"⟩
abbrev cX11_key : ByteArray := prog_13_method_54_code
def yX11_key : MethodName := ⟨RX11, "key", "(II)I"⟩
abbrev cX11_keyOf : ByteArray := prog_13_method_55_code
def yX11_keyOf : MethodName := ⟨RX11, "keyOf", "(I)I"⟩
abbrev cX11_of : ByteArray := prog_13_method_56_code
def yX11_of : MethodName := ⟨RX11, "of", "(III)I"⟩
abbrev cX11_within : ByteArray := prog_13_method_57_code
def yX11_within : MethodName := ⟨RX11, "within", "(IIIZ)I"⟩
abbrev cX11_far : ByteArray := prog_13_method_58_code
def yX11_far : MethodName := ⟨RX11, "far", "(III)I"⟩
abbrev cX11_where : ByteArray := prog_13_method_59_code
def yX11_where : MethodName := ⟨RX11, "where", "(I)I"⟩
abbrev cX11_unlike : ByteArray := prog_13_method_60_code
def yX11_unlike : MethodName := ⟨RX11, "unlike", "()I"⟩
abbrev cX11_fewest : ByteArray := prog_13_method_61_code
def yX11_fewest : MethodName := ⟨RX11, "fewest", "(I)I"⟩
abbrev cX11_huffman : ByteArray := prog_13_method_62_code
def yX11_huffman : MethodName := ⟨RX11, "huffman", "()I"⟩
abbrev cX11_count : ByteArray := prog_13_method_63_code
def yX11_count : MethodName := ⟨RX11, "count", "(I)I"⟩
abbrev cX11_pair : ByteArray := prog_13_method_64_code
def yX11_pair : MethodName := ⟨RX11, "pair", "(III)I"⟩
abbrev cX11_cheapest : ByteArray := prog_13_method_65_code
def yX11_cheapest : MethodName := ⟨RX11, "cheapest", "(I)I"⟩
abbrev cX11_merged : ByteArray := prog_13_method_66_code
def yX11_merged : MethodName := ⟨RX11, "merged", "(I)I"⟩
abbrev cX11_would : ByteArray := prog_13_method_67_code
def yX11_would : MethodName := ⟨RX11, "would", "(IIZ)I"⟩
abbrev cX11_halves : ByteArray := prog_13_method_68_code
def yX11_halves : MethodName := ⟨RX11, "halves", "(I)I"⟩
abbrev cX11_tells : ByteArray := prog_13_method_69_code
def yX11_tells : MethodName := ⟨RX11, "tells", "(I)V"⟩
abbrev cX11_number : ByteArray := prog_13_method_70_code
def yX11_number : MethodName := ⟨RX11, "number", "(I)V"⟩
abbrev cX11_tell : ByteArray := prog_13_method_71_code
def yX11_tell : MethodName := ⟨RX11, "tell", "(I)I"⟩
abbrev cX11_octet : ByteArray := prog_13_method_72_code
def yX11_octet : MethodName := ⟨RX11, "octet", "(I)I"⟩
abbrev cX11_feed : ByteArray := prog_13_method_73_code
def yX11_feed : MethodName := ⟨RX11, "feed", "(IIIII)I"⟩
abbrev cX11_end : ByteArray := prog_13_method_74_code
def yX11_end : MethodName := ⟨RX11, "end", "(I)I"⟩
abbrev cX11_fault : ByteArray := prog_13_method_75_code
def yX11_fault : MethodName := ⟨RX11, "fault", "(I)I"⟩
abbrev cX11_byteAt : ByteArray := prog_13_method_76_code
def yX11_byteAt : MethodName := ⟨RX11, "byteAt", "(I)I"⟩
abbrev cX11_isLetter : ByteArray := prog_13_method_77_code
def yX11_isLetter : MethodName := ⟨RX11, "isLetter", "(I)Z"⟩
abbrev cX11_isDigit : ByteArray := prog_13_method_78_code
def yX11_isDigit : MethodName := ⟨RX11, "isDigit", "(I)Z"⟩
abbrev cX11_takes : ByteArray := prog_13_method_79_code
def yX11_takes : MethodName := ⟨RX11, "takes", "()V"⟩
abbrev cX11_fails : ByteArray := prog_13_method_80_code
def yX11_fails : MethodName := ⟨RX11, "fails", "(II)V"⟩
abbrev cX11_isGood : ByteArray := prog_13_method_81_code
def yX11_isGood : MethodName := ⟨RX11, "isGood", "()Z"⟩
abbrev cX11_hasWord : ByteArray := prog_13_method_82_code
def yX11_hasWord : MethodName := ⟨RX11, "hasWord", "(J)Z"⟩
abbrev cX11_hasSign : ByteArray := prog_13_method_83_code
def yX11_hasSign : MethodName := ⟨RX11, "hasSign", "(I)Z"⟩
abbrev cX11_numeral : ByteArray := prog_13_method_84_code
def yX11_numeral : MethodName := ⟨RX11, "numeral", "()I"⟩
abbrev cX11_setNumber : ByteArray := prog_13_method_85_code
def yX11_setNumber : MethodName := ⟨RX11, "setNumber", "()I"⟩
abbrev cX11_readsKeys : ByteArray := prog_13_method_86_code
def yX11_readsKeys : MethodName := ⟨RX11, "readsKeys", "(I)V"⟩
abbrev cX11_readsSet : ByteArray := prog_13_method_87_code
def yX11_readsSet : MethodName := ⟨RX11, "readsSet", "()V"⟩
abbrev cX11_ends : ByteArray := prog_13_method_88_code
def yX11_ends : MethodName := ⟨RX11, "ends", "()V"⟩
abbrev cX11_readsAct : ByteArray := prog_13_method_89_code
def yX11_readsAct : MethodName := ⟨RX11, "readsAct", "(J)I"⟩
abbrev cX11_readsLine : ByteArray := prog_13_method_90_code
def yX11_readsLine : MethodName := ⟨RX11, "readsLine", "()V"⟩
abbrev cX11_text : ByteArray := prog_13_method_91_code
def yX11_text : MethodName := ⟨RX11, "text", "()I"⟩
abbrev cX11_image : ByteArray := prog_13_method_92_code
def yX11_image : MethodName := ⟨RX11, "image", "(I)Z"⟩
abbrev cX11_again : ByteArray := prog_13_method_93_code
def yX11_again : MethodName := ⟨RX11, "again", "(I)Z"⟩
def RJ6 : String := "java/lang/Integer"
abbrev cJ6_compare_7cf53 : ByteArray := prog_14_method_40_code
def yJ6_compare_7cf53 : MethodName := ⟨RJ6, "compare", "(II)I"⟩
def RJ9 : String := "java/lang/Math"
abbrev cJ9_max_7cf53 : ByteArray := prog_15_method_65_code
def yJ9_max_7cf53 : MethodName := ⟨RJ9, "max", "(II)I"⟩
abbrev cJ9_min_7cf53 : ByteArray := prog_15_method_69_code
def yJ9_min_7cf53 : MethodName := ⟨RJ9, "min", "(II)I"⟩
def RJ0 : String := "java/lang/String"
abbrev cJ0_length_8abf5 : ByteArray := prog_16_method_54_code
def yJ0_length_8abf5 : MethodName := ⟨RJ0, "length", "()I"⟩
abbrev cJ0_charAt_5068e : ByteArray := prog_16_method_56_code
def yJ0_charAt_5068e : MethodName := ⟨RJ0, "charAt", "(I)C"⟩
abbrev cJ0_coder_7d493 : ByteArray := prog_16_method_152_code
def yJ0_coder_7d493 : MethodName := ⟨RJ0, "coder", "()B"⟩
abbrev cJ0_isLatin1_aae02 : ByteArray := prog_16_method_154_code
def yJ0_isLatin1_aae02 : MethodName := ⟨RJ0, "isLatin1", "()Z"⟩
abbrev cJ0_checkIndex_df160 : ByteArray := prog_16_method_155_code
def yJ0_checkIndex_df160 : MethodName := ⟨RJ0, "checkIndex", "(II)V"⟩
def RJ1 : String := "java/lang/StringLatin1"
abbrev cJ1_charAt_3b067 : ByteArray := prog_17_method_2_code
def yJ1_charAt_3b067 : MethodName := ⟨RJ1, "charAt", "([BI)C"⟩
def RJ2 : String := "java/lang/StringUTF16"
abbrev cJ2_getChar_3b067 : ByteArray := prog_18_method_5_code
def yJ2_getChar_3b067 : MethodName := ⟨RJ2, "getChar", "([BI)C"⟩
abbrev cJ2_length_9d52b : ByteArray := prog_18_method_6_code
def yJ2_length_9d52b : MethodName := ⟨RJ2, "length", "([B)I"⟩
abbrev cJ2_charAt_3b067 : ByteArray := prog_18_method_83_code
def yJ2_charAt_3b067 : MethodName := ⟨RJ2, "charAt", "([BI)C"⟩
abbrev cJ2_checkIndex_2214a : ByteArray := prog_18_method_91_code
def yJ2_checkIndex_2214a : MethodName := ⟨RJ2, "checkIndex", "(I[B)V"⟩
def RJ10 : String := "java/lang/System"
def RJ3 : String := "jdk/internal/util/Preconditions"
abbrev cJ3_checkIndex_8e157 : ByteArray := prog_20_method_11_code
def yJ3_checkIndex_8e157 : MethodName := ⟨RJ3, "checkIndex", "(IILjava/util/function/BiFunction;)I"⟩
def RL : String := "MeltingHeapsLaw"
abbrev cL_law : ByteArray := code
def yL_law : MethodName := ⟨RL, "law", "([I)Z"⟩
abbrev vwCl : List vw_C := [(RX0, TX0, 3), (RX1, TX1, 6), (RX2, TX2, 2), (RX3, TX3, 3), (RX4, TX4, 2), (RX5, TX5, 9), (RX6, TX6, 3), (RX7, TX7, 8), (RX8, TX8, 9), (RX9, TX9, 5), (RX10, TX10, 9), (RX11, TX11, 27)]
