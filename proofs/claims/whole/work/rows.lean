section
-- ===== PART A: goes FIRST, ahead of the names: the tables' words, and 'selects' of the private methods out of them =====
/-- a private method of a class that the tables say can be made, by its rows of tables_1 -/
def lw_okq (q : MethodName × Nat) : Prop := (q.1.cls ≠ "java/lang/invoke/MethodHandle" ∧ q.1.cls ≠ "java/lang/invoke/VarHandle") ∧ Cond.instantiable q.1.cls q.2 ∈ tables_1 ∧ Cond.privateMethod q.1 ∈ tables_1 ∧ Cond.instanceMethod q.1 ∈ tables_1
theorem lw_p0 : lw_okq (⟨"MeltingHeaps$Script", "advance", "()V"⟩, 9) := ⟨⟨by decide +kernel, by decide +kernel⟩, List.mem_of_getElem? (i := 220) (by decide +kernel), List.mem_of_getElem? (i := 364) (by decide +kernel), List.mem_of_getElem? (i := 365) (by decide +kernel)⟩
theorem lw_p1 : lw_okq (⟨"MeltingHeaps$Script", "readWord", "()V"⟩, 9) := ⟨⟨by decide +kernel, by decide +kernel⟩, List.mem_of_getElem? (i := 220) (by decide +kernel), List.mem_of_getElem? (i := 378) (by decide +kernel), List.mem_of_getElem? (i := 379) (by decide +kernel)⟩
theorem lw_p2 : lw_okq (⟨"MeltingHeaps$Script", "readNumber", "()V"⟩, 9) := ⟨⟨by decide +kernel, by decide +kernel⟩, List.mem_of_getElem? (i := 220) (by decide +kernel), List.mem_of_getElem? (i := 385) (by decide +kernel), List.mem_of_getElem? (i := 386) (by decide +kernel)⟩
theorem lw_p3 : lw_okq (⟨"MeltingHeaps$Script", "doLine", "()V"⟩, 9) := ⟨⟨by decide +kernel, by decide +kernel⟩, List.mem_of_getElem? (i := 220) (by decide +kernel), List.mem_of_getElem? (i := 389) (by decide +kernel), List.mem_of_getElem? (i := 390) (by decide +kernel)⟩
theorem lw_p4 : lw_okq (⟨"MeltingHeaps$Script", "lineHere", "()I"⟩, 9) := ⟨⟨by decide +kernel, by decide +kernel⟩, List.mem_of_getElem? (i := 220) (by decide +kernel), List.mem_of_getElem? (i := 393) (by decide +kernel), List.mem_of_getElem? (i := 394) (by decide +kernel)⟩
theorem lw_p5 : lw_okq (⟨"MeltingHeaps$Script", "spells", "(Ljava/lang/String;)Z"⟩, 9) := ⟨⟨by decide +kernel, by decide +kernel⟩, List.mem_of_getElem? (i := 220) (by decide +kernel), List.mem_of_getElem? (i := 398) (by decide +kernel), List.mem_of_getElem? (i := 399) (by decide +kernel)⟩
theorem lw_p6 : lw_okq (⟨"MeltingHeaps$Script", "fail", "(II)V"⟩, 9) := ⟨⟨by decide +kernel, by decide +kernel⟩, List.mem_of_getElem? (i := 220) (by decide +kernel), List.mem_of_getElem? (i := 456) (by decide +kernel), List.mem_of_getElem? (i := 457) (by decide +kernel)⟩
theorem lw_p7 : lw_okq (⟨"MeltingHeaps$Script", "takeArgument", "(C)I"⟩, 9) := ⟨⟨by decide +kernel, by decide +kernel⟩, List.mem_of_getElem? (i := 220) (by decide +kernel), List.mem_of_getElem? (i := 469) (by decide +kernel), List.mem_of_getElem? (i := 470) (by decide +kernel)⟩
theorem lw_p8 : lw_okq (⟨"MeltingHeaps$Script", "takeNumber", "(I)I"⟩, 9) := ⟨⟨by decide +kernel, by decide +kernel⟩, List.mem_of_getElem? (i := 220) (by decide +kernel), List.mem_of_getElem? (i := 473) (by decide +kernel), List.mem_of_getElem? (i := 474) (by decide +kernel)⟩
theorem lw_p9 : lw_okq (⟨"MeltingHeaps$Script", "putItem", "(I)V"⟩, 9) := ⟨⟨by decide +kernel, by decide +kernel⟩, List.mem_of_getElem? (i := 220) (by decide +kernel), List.mem_of_getElem? (i := 477) (by decide +kernel), List.mem_of_getElem? (i := 478) (by decide +kernel)⟩
theorem lw_p10 : lw_okq (⟨"MeltingHeaps$Script", "act", "(I)I"⟩, 9) := ⟨⟨by decide +kernel, by decide +kernel⟩, List.mem_of_getElem? (i := 220) (by decide +kernel), List.mem_of_getElem? (i := 513) (by decide +kernel), List.mem_of_getElem? (i := 514) (by decide +kernel)⟩
theorem lw_p11 : lw_okq (⟨"MeltingHeaps$Weave", "endRun", "(I)V"⟩, 5) := ⟨⟨by decide +kernel, by decide +kernel⟩, List.mem_of_getElem? (i := 72) (by decide +kernel), List.mem_of_getElem? (i := 566) (by decide +kernel), List.mem_of_getElem? (i := 567) (by decide +kernel)⟩
theorem lw_p12 : lw_okq (⟨"MeltingHeaps$Tree", "addKey", "(I)V"⟩, 9) := ⟨⟨by decide +kernel, by decide +kernel⟩, List.mem_of_getElem? (i := 37) (by decide +kernel), List.mem_of_getElem? (i := 688) (by decide +kernel), List.mem_of_getElem? (i := 689) (by decide +kernel)⟩
theorem lw_p13 : lw_okq (⟨"MeltingHeaps$Tree", "link", "()V"⟩, 9) := ⟨⟨by decide +kernel, by decide +kernel⟩, List.mem_of_getElem? (i := 37) (by decide +kernel), List.mem_of_getElem? (i := 692) (by decide +kernel), List.mem_of_getElem? (i := 693) (by decide +kernel)⟩
theorem lw_p14 : lw_okq (⟨"MeltingHeaps$Tree", "climb", "()V"⟩, 9) := ⟨⟨by decide +kernel, by decide +kernel⟩, List.mem_of_getElem? (i := 37) (by decide +kernel), List.mem_of_getElem? (i := 701) (by decide +kernel), List.mem_of_getElem? (i := 702) (by decide +kernel)⟩
theorem lw_p15 : lw_okq (⟨"MeltingHeaps$Tree", "isNode", "(I)Z"⟩, 9) := ⟨⟨by decide +kernel, by decide +kernel⟩, List.mem_of_getElem? (i := 37) (by decide +kernel), List.mem_of_getElem? (i := 709) (by decide +kernel), List.mem_of_getElem? (i := 710) (by decide +kernel)⟩
def lw_privs_1 : List (MethodName × Nat) := [(⟨"MeltingHeaps$Script", "advance", "()V"⟩, 9), (⟨"MeltingHeaps$Script", "readWord", "()V"⟩, 9), (⟨"MeltingHeaps$Script", "readNumber", "()V"⟩, 9), (⟨"MeltingHeaps$Script", "doLine", "()V"⟩, 9), (⟨"MeltingHeaps$Script", "lineHere", "()I"⟩, 9), (⟨"MeltingHeaps$Script", "spells", "(Ljava/lang/String;)Z"⟩, 9), (⟨"MeltingHeaps$Script", "fail", "(II)V"⟩, 9), (⟨"MeltingHeaps$Script", "takeArgument", "(C)I"⟩, 9), (⟨"MeltingHeaps$Script", "takeNumber", "(I)I"⟩, 9), (⟨"MeltingHeaps$Script", "putItem", "(I)V"⟩, 9), (⟨"MeltingHeaps$Script", "act", "(I)I"⟩, 9), (⟨"MeltingHeaps$Weave", "endRun", "(I)V"⟩, 5), (⟨"MeltingHeaps$Tree", "addKey", "(I)V"⟩, 9), (⟨"MeltingHeaps$Tree", "link", "()V"⟩, 9), (⟨"MeltingHeaps$Tree", "climb", "()V"⟩, 9), (⟨"MeltingHeaps$Tree", "isNode", "(I)Z"⟩, 9)]
theorem lw_r1 : ∀ q ∈ lw_privs_1, lw_okq q := List.forall_mem_cons.mpr ⟨lw_p0, List.forall_mem_cons.mpr ⟨lw_p1, List.forall_mem_cons.mpr ⟨lw_p2, List.forall_mem_cons.mpr ⟨lw_p3, List.forall_mem_cons.mpr ⟨lw_p4, List.forall_mem_cons.mpr ⟨lw_p5, List.forall_mem_cons.mpr ⟨lw_p6, List.forall_mem_cons.mpr ⟨lw_p7, List.forall_mem_cons.mpr ⟨lw_p8, List.forall_mem_cons.mpr ⟨lw_p9, List.forall_mem_cons.mpr ⟨lw_p10, List.forall_mem_cons.mpr ⟨lw_p11, List.forall_mem_cons.mpr ⟨lw_p12, List.forall_mem_cons.mpr ⟨lw_p13, List.forall_mem_cons.mpr ⟨lw_p14, List.forall_mem_cons.mpr ⟨lw_p15, fun _ h => absurd h List.not_mem_nil⟩⟩⟩⟩⟩⟩⟩⟩⟩⟩⟩⟩⟩⟩⟩⟩
theorem lw_p16 : lw_okq (⟨"MeltingHeaps$Tree", "keyOf", "(I)I"⟩, 9) := ⟨⟨by decide +kernel, by decide +kernel⟩, List.mem_of_getElem? (i := 37) (by decide +kernel), List.mem_of_getElem? (i := 743) (by decide +kernel), List.mem_of_getElem? (i := 744) (by decide +kernel)⟩
theorem lw_p17 : lw_okq (⟨"MeltingHeaps$Store", "lightest", "(I)I"⟩, 8) := ⟨⟨by decide +kernel, by decide +kernel⟩, List.mem_of_getElem? (i := 29) (by decide +kernel), List.mem_of_getElem? (i := 843) (by decide +kernel), List.mem_of_getElem? (i := 844) (by decide +kernel)⟩
theorem lw_p18 : lw_okq (⟨"MeltingHeaps$Store", "takeIfCheaper", "(II)V"⟩, 8) := ⟨⟨by decide +kernel, by decide +kernel⟩, List.mem_of_getElem? (i := 29) (by decide +kernel), List.mem_of_getElem? (i := 866) (by decide +kernel), List.mem_of_getElem? (i := 867) (by decide +kernel)⟩
theorem lw_p19 : lw_okq (⟨"MeltingHeapsModel", "empties", "(I)V"⟩, 27) := ⟨⟨by decide +kernel, by decide +kernel⟩, List.mem_of_getElem? (i := 919) (by decide +kernel), List.mem_of_getElem? (i := 925) (by decide +kernel), List.mem_of_getElem? (i := 926) (by decide +kernel)⟩
theorem lw_p20 : lw_okq (⟨"MeltingHeapsModel", "refusesPut", "(II)I"⟩, 27) := ⟨⟨by decide +kernel, by decide +kernel⟩, List.mem_of_getElem? (i := 919) (by decide +kernel), List.mem_of_getElem? (i := 1016) (by decide +kernel), List.mem_of_getElem? (i := 1017) (by decide +kernel)⟩
theorem lw_p21 : lw_okq (⟨"MeltingHeapsModel", "placeOf", "(II)I"⟩, 27) := ⟨⟨by decide +kernel, by decide +kernel⟩, List.mem_of_getElem? (i := 919) (by decide +kernel), List.mem_of_getElem? (i := 1029) (by decide +kernel), List.mem_of_getElem? (i := 1030) (by decide +kernel)⟩
theorem lw_p22 : lw_okq (⟨"MeltingHeapsModel", "below", "(II)I"⟩, 27) := ⟨⟨by decide +kernel, by decide +kernel⟩, List.mem_of_getElem? (i := 919) (by decide +kernel), List.mem_of_getElem? (i := 1033) (by decide +kernel), List.mem_of_getElem? (i := 1034) (by decide +kernel)⟩
theorem lw_p23 : lw_okq (⟨"MeltingHeapsModel", "many", "(I)I"⟩, 27) := ⟨⟨by decide +kernel, by decide +kernel⟩, List.mem_of_getElem? (i := 919) (by decide +kernel), List.mem_of_getElem? (i := 1037) (by decide +kernel), List.mem_of_getElem? (i := 1038) (by decide +kernel)⟩
theorem lw_p24 : lw_okq (⟨"MeltingHeapsModel", "keyAt", "(II)I"⟩, 27) := ⟨⟨by decide +kernel, by decide +kernel⟩, List.mem_of_getElem? (i := 919) (by decide +kernel), List.mem_of_getElem? (i := 1041) (by decide +kernel), List.mem_of_getElem? (i := 1042) (by decide +kernel)⟩
theorem lw_p25 : lw_okq (⟨"MeltingHeapsModel", "total", "()I"⟩, 27) := ⟨⟨by decide +kernel, by decide +kernel⟩, List.mem_of_getElem? (i := 919) (by decide +kernel), List.mem_of_getElem? (i := 1045) (by decide +kernel), List.mem_of_getElem? (i := 1046) (by decide +kernel)⟩
theorem lw_p26 : lw_okq (⟨"MeltingHeapsModel", "begins", "(I)I"⟩, 27) := ⟨⟨by decide +kernel, by decide +kernel⟩, List.mem_of_getElem? (i := 919) (by decide +kernel), List.mem_of_getElem? (i := 1049) (by decide +kernel), List.mem_of_getElem? (i := 1050) (by decide +kernel)⟩
theorem lw_p27 : lw_okq (⟨"MeltingHeapsModel", "keeps", "()V"⟩, 27) := ⟨⟨by decide +kernel, by decide +kernel⟩, List.mem_of_getElem? (i := 919) (by decide +kernel), List.mem_of_getElem? (i := 1053) (by decide +kernel), List.mem_of_getElem? (i := 1054) (by decide +kernel)⟩
theorem lw_p28 : lw_okq (⟨"MeltingHeapsModel", "copies", "(III)V"⟩, 27) := ⟨⟨by decide +kernel, by decide +kernel⟩, List.mem_of_getElem? (i := 919) (by decide +kernel), List.mem_of_getElem? (i := 1057) (by decide +kernel), List.mem_of_getElem? (i := 1058) (by decide +kernel)⟩
theorem lw_p29 : lw_okq (⟨"MeltingHeapsModel", "puts", "(III)V"⟩, 27) := ⟨⟨by decide +kernel, by decide +kernel⟩, List.mem_of_getElem? (i := 919) (by decide +kernel), List.mem_of_getElem? (i := 1061) (by decide +kernel), List.mem_of_getElem? (i := 1062) (by decide +kernel)⟩
theorem lw_p30 : lw_okq (⟨"MeltingHeapsModel", "points", "(II)V"⟩, 27) := ⟨⟨by decide +kernel, by decide +kernel⟩, List.mem_of_getElem? (i := 919) (by decide +kernel), List.mem_of_getElem? (i := 1065) (by decide +kernel), List.mem_of_getElem? (i := 1066) (by decide +kernel)⟩
theorem lw_p31 : lw_okq (⟨"MeltingHeapsModel", "drops", "(II)V"⟩, 27) := ⟨⟨by decide +kernel, by decide +kernel⟩, List.mem_of_getElem? (i := 919) (by decide +kernel), List.mem_of_getElem? (i := 1073) (by decide +kernel), List.mem_of_getElem? (i := 1074) (by decide +kernel)⟩
def lw_privs_2 : List (MethodName × Nat) := [(⟨"MeltingHeaps$Tree", "keyOf", "(I)I"⟩, 9), (⟨"MeltingHeaps$Store", "lightest", "(I)I"⟩, 8), (⟨"MeltingHeaps$Store", "takeIfCheaper", "(II)V"⟩, 8), (⟨"MeltingHeapsModel", "empties", "(I)V"⟩, 27), (⟨"MeltingHeapsModel", "refusesPut", "(II)I"⟩, 27), (⟨"MeltingHeapsModel", "placeOf", "(II)I"⟩, 27), (⟨"MeltingHeapsModel", "below", "(II)I"⟩, 27), (⟨"MeltingHeapsModel", "many", "(I)I"⟩, 27), (⟨"MeltingHeapsModel", "keyAt", "(II)I"⟩, 27), (⟨"MeltingHeapsModel", "total", "()I"⟩, 27), (⟨"MeltingHeapsModel", "begins", "(I)I"⟩, 27), (⟨"MeltingHeapsModel", "keeps", "()V"⟩, 27), (⟨"MeltingHeapsModel", "copies", "(III)V"⟩, 27), (⟨"MeltingHeapsModel", "puts", "(III)V"⟩, 27), (⟨"MeltingHeapsModel", "points", "(II)V"⟩, 27), (⟨"MeltingHeapsModel", "drops", "(II)V"⟩, 27)]
theorem lw_r2 : ∀ q ∈ lw_privs_2, lw_okq q := List.forall_mem_cons.mpr ⟨lw_p16, List.forall_mem_cons.mpr ⟨lw_p17, List.forall_mem_cons.mpr ⟨lw_p18, List.forall_mem_cons.mpr ⟨lw_p19, List.forall_mem_cons.mpr ⟨lw_p20, List.forall_mem_cons.mpr ⟨lw_p21, List.forall_mem_cons.mpr ⟨lw_p22, List.forall_mem_cons.mpr ⟨lw_p23, List.forall_mem_cons.mpr ⟨lw_p24, List.forall_mem_cons.mpr ⟨lw_p25, List.forall_mem_cons.mpr ⟨lw_p26, List.forall_mem_cons.mpr ⟨lw_p27, List.forall_mem_cons.mpr ⟨lw_p28, List.forall_mem_cons.mpr ⟨lw_p29, List.forall_mem_cons.mpr ⟨lw_p30, List.forall_mem_cons.mpr ⟨lw_p31, fun _ h => absurd h List.not_mem_nil⟩⟩⟩⟩⟩⟩⟩⟩⟩⟩⟩⟩⟩⟩⟩⟩
theorem lw_p32 : lw_okq (⟨"MeltingHeapsModel", "refusesCut", "(III)I"⟩, 27) := ⟨⟨by decide +kernel, by decide +kernel⟩, List.mem_of_getElem? (i := 919) (by decide +kernel), List.mem_of_getElem? (i := 1081) (by decide +kernel), List.mem_of_getElem? (i := 1082) (by decide +kernel)⟩
theorem lw_p33 : lw_okq (⟨"MeltingHeapsModel", "areTwo", "(II)Z"⟩, 27) := ⟨⟨by decide +kernel, by decide +kernel⟩, List.mem_of_getElem? (i := 919) (by decide +kernel), List.mem_of_getElem? (i := 1085) (by decide +kernel), List.mem_of_getElem? (i := 1086) (by decide +kernel)⟩
theorem lw_p34 : lw_okq (⟨"MeltingHeapsModel", "counted", "(III)I"⟩, 27) := ⟨⟨by decide +kernel, by decide +kernel⟩, List.mem_of_getElem? (i := 919) (by decide +kernel), List.mem_of_getElem? (i := 1089) (by decide +kernel), List.mem_of_getElem? (i := 1090) (by decide +kernel)⟩
theorem lw_p35 : lw_okq (⟨"MeltingHeapsModel", "goOver", "(IIII)I"⟩, 27) := ⟨⟨by decide +kernel, by decide +kernel⟩, List.mem_of_getElem? (i := 919) (by decide +kernel), List.mem_of_getElem? (i := 1093) (by decide +kernel), List.mem_of_getElem? (i := 1094) (by decide +kernel)⟩
theorem lw_p36 : lw_okq (⟨"MeltingHeapsModel", "markAt", "(II)I"⟩, 27) := ⟨⟨by decide +kernel, by decide +kernel⟩, List.mem_of_getElem? (i := 919) (by decide +kernel), List.mem_of_getElem? (i := 1097) (by decide +kernel), List.mem_of_getElem? (i := 1098) (by decide +kernel)⟩
theorem lw_p37 : lw_okq (⟨"MeltingHeapsModel", "refusesJoin", "(II)I"⟩, 27) := ⟨⟨by decide +kernel, by decide +kernel⟩, List.mem_of_getElem? (i := 919) (by decide +kernel), List.mem_of_getElem? (i := 1105) (by decide +kernel), List.mem_of_getElem? (i := 1106) (by decide +kernel)⟩
theorem lw_p38 : lw_okq (⟨"MeltingHeapsModel", "refusesMelt", "(II)I"⟩, 27) := ⟨⟨by decide +kernel, by decide +kernel⟩, List.mem_of_getElem? (i := 919) (by decide +kernel), List.mem_of_getElem? (i := 1113) (by decide +kernel), List.mem_of_getElem? (i := 1114) (by decide +kernel)⟩
theorem lw_p39 : lw_okq (⟨"MeltingHeapsModel", "twins", "(II)I"⟩, 27) := ⟨⟨by decide +kernel, by decide +kernel⟩, List.mem_of_getElem? (i := 919) (by decide +kernel), List.mem_of_getElem? (i := 1117) (by decide +kernel), List.mem_of_getElem? (i := 1118) (by decide +kernel)⟩
theorem lw_p40 : lw_okq (⟨"MeltingHeapsModel", "laysRuns", "(II)V"⟩, 27) := ⟨⟨by decide +kernel, by decide +kernel⟩, List.mem_of_getElem? (i := 919) (by decide +kernel), List.mem_of_getElem? (i := 1121) (by decide +kernel), List.mem_of_getElem? (i := 1122) (by decide +kernel)⟩
theorem lw_p41 : lw_okq (⟨"MeltingHeapsModel", "goes", "(I)V"⟩, 27) := ⟨⟨by decide +kernel, by decide +kernel⟩, List.mem_of_getElem? (i := 919) (by decide +kernel), List.mem_of_getElem? (i := 1125) (by decide +kernel), List.mem_of_getElem? (i := 1126) (by decide +kernel)⟩
theorem lw_p42 : lw_okq (⟨"MeltingHeapsModel", "endsRun", "()V"⟩, 27) := ⟨⟨by decide +kernel, by decide +kernel⟩, List.mem_of_getElem? (i := 919) (by decide +kernel), List.mem_of_getElem? (i := 1129) (by decide +kernel), List.mem_of_getElem? (i := 1130) (by decide +kernel)⟩
theorem lw_p43 : lw_okq (⟨"MeltingHeapsModel", "refusesShift", "(II)I"⟩, 27) := ⟨⟨by decide +kernel, by decide +kernel⟩, List.mem_of_getElem? (i := 919) (by decide +kernel), List.mem_of_getElem? (i := 1137) (by decide +kernel), List.mem_of_getElem? (i := 1138) (by decide +kernel)⟩
theorem lw_p44 : lw_okq (⟨"MeltingHeapsModel", "shifts", "(II)V"⟩, 27) := ⟨⟨by decide +kernel, by decide +kernel⟩, List.mem_of_getElem? (i := 919) (by decide +kernel), List.mem_of_getElem? (i := 1141) (by decide +kernel), List.mem_of_getElem? (i := 1142) (by decide +kernel)⟩
theorem lw_p45 : lw_okq (⟨"MeltingHeapsModel", "finger", "(I)I"⟩, 27) := ⟨⟨by decide +kernel, by decide +kernel⟩, List.mem_of_getElem? (i := 919) (by decide +kernel), List.mem_of_getElem? (i := 1145) (by decide +kernel), List.mem_of_getElem? (i := 1146) (by decide +kernel)⟩
theorem lw_p46 : lw_okq (⟨"MeltingHeapsModel", "refusesMove", "(IIII)I"⟩, 27) := ⟨⟨by decide +kernel, by decide +kernel⟩, List.mem_of_getElem? (i := 919) (by decide +kernel), List.mem_of_getElem? (i := 1153) (by decide +kernel), List.mem_of_getElem? (i := 1154) (by decide +kernel)⟩
theorem lw_p47 : lw_okq (⟨"MeltingHeapsModel", "refusesMark", "(IIII)I"⟩, 27) := ⟨⟨by decide +kernel, by decide +kernel⟩, List.mem_of_getElem? (i := 919) (by decide +kernel), List.mem_of_getElem? (i := 1161) (by decide +kernel), List.mem_of_getElem? (i := 1162) (by decide +kernel)⟩
def lw_privs_3 : List (MethodName × Nat) := [(⟨"MeltingHeapsModel", "refusesCut", "(III)I"⟩, 27), (⟨"MeltingHeapsModel", "areTwo", "(II)Z"⟩, 27), (⟨"MeltingHeapsModel", "counted", "(III)I"⟩, 27), (⟨"MeltingHeapsModel", "goOver", "(IIII)I"⟩, 27), (⟨"MeltingHeapsModel", "markAt", "(II)I"⟩, 27), (⟨"MeltingHeapsModel", "refusesJoin", "(II)I"⟩, 27), (⟨"MeltingHeapsModel", "refusesMelt", "(II)I"⟩, 27), (⟨"MeltingHeapsModel", "twins", "(II)I"⟩, 27), (⟨"MeltingHeapsModel", "laysRuns", "(II)V"⟩, 27), (⟨"MeltingHeapsModel", "goes", "(I)V"⟩, 27), (⟨"MeltingHeapsModel", "endsRun", "()V"⟩, 27), (⟨"MeltingHeapsModel", "refusesShift", "(II)I"⟩, 27), (⟨"MeltingHeapsModel", "shifts", "(II)V"⟩, 27), (⟨"MeltingHeapsModel", "finger", "(I)I"⟩, 27), (⟨"MeltingHeapsModel", "refusesMove", "(IIII)I"⟩, 27), (⟨"MeltingHeapsModel", "refusesMark", "(IIII)I"⟩, 27)]
theorem lw_r3 : ∀ q ∈ lw_privs_3, lw_okq q := List.forall_mem_cons.mpr ⟨lw_p32, List.forall_mem_cons.mpr ⟨lw_p33, List.forall_mem_cons.mpr ⟨lw_p34, List.forall_mem_cons.mpr ⟨lw_p35, List.forall_mem_cons.mpr ⟨lw_p36, List.forall_mem_cons.mpr ⟨lw_p37, List.forall_mem_cons.mpr ⟨lw_p38, List.forall_mem_cons.mpr ⟨lw_p39, List.forall_mem_cons.mpr ⟨lw_p40, List.forall_mem_cons.mpr ⟨lw_p41, List.forall_mem_cons.mpr ⟨lw_p42, List.forall_mem_cons.mpr ⟨lw_p43, List.forall_mem_cons.mpr ⟨lw_p44, List.forall_mem_cons.mpr ⟨lw_p45, List.forall_mem_cons.mpr ⟨lw_p46, List.forall_mem_cons.mpr ⟨lw_p47, fun _ h => absurd h List.not_mem_nil⟩⟩⟩⟩⟩⟩⟩⟩⟩⟩⟩⟩⟩⟩⟩⟩
theorem lw_p48 : lw_okq (⟨"MeltingHeapsModel", "marked", "(IIIIZ)I"⟩, 27) := ⟨⟨by decide +kernel, by decide +kernel⟩, List.mem_of_getElem? (i := 919) (by decide +kernel), List.mem_of_getElem? (i := 1165) (by decide +kernel), List.mem_of_getElem? (i := 1166) (by decide +kernel)⟩
theorem lw_p49 : lw_okq (⟨"MeltingHeapsModel", "laysRow", "(I)V"⟩, 27) := ⟨⟨by decide +kernel, by decide +kernel⟩, List.mem_of_getElem? (i := 919) (by decide +kernel), List.mem_of_getElem? (i := 1173) (by decide +kernel), List.mem_of_getElem? (i := 1174) (by decide +kernel)⟩
theorem lw_p50 : lw_okq (⟨"MeltingHeapsModel", "farOf", "(II)I"⟩, 27) := ⟨⟨by decide +kernel, by decide +kernel⟩, List.mem_of_getElem? (i := 919) (by decide +kernel), List.mem_of_getElem? (i := 1177) (by decide +kernel), List.mem_of_getElem? (i := 1178) (by decide +kernel)⟩
theorem lw_p51 : lw_okq (⟨"MeltingHeapsModel", "depth", "(I)I"⟩, 27) := ⟨⟨by decide +kernel, by decide +kernel⟩, List.mem_of_getElem? (i := 919) (by decide +kernel), List.mem_of_getElem? (i := 1181) (by decide +kernel), List.mem_of_getElem? (i := 1182) (by decide +kernel)⟩
theorem lw_p52 : lw_okq (⟨"MeltingHeapsModel", "goesTo", "(I)V"⟩, 27) := ⟨⟨by decide +kernel, by decide +kernel⟩, List.mem_of_getElem? (i := 919) (by decide +kernel), List.mem_of_getElem? (i := 1185) (by decide +kernel), List.mem_of_getElem? (i := 1186) (by decide +kernel)⟩
theorem lw_p53 : lw_okq (⟨"MeltingHeapsModel", "ahead", "(II)I"⟩, 27) := ⟨⟨by decide +kernel, by decide +kernel⟩, List.mem_of_getElem? (i := 919) (by decide +kernel), List.mem_of_getElem? (i := 1189) (by decide +kernel), List.mem_of_getElem? (i := 1190) (by decide +kernel)⟩
theorem lw_p54 : lw_okq (⟨"MeltingHeapsModel", "high", "()I"⟩, 27) := ⟨⟨by decide +kernel, by decide +kernel⟩, List.mem_of_getElem? (i := 919) (by decide +kernel), List.mem_of_getElem? (i := 1206) (by decide +kernel), List.mem_of_getElem? (i := 1207) (by decide +kernel)⟩
theorem lw_p55 : lw_okq (⟨"MeltingHeapsModel", "summed", "(II)I"⟩, 27) := ⟨⟨by decide +kernel, by decide +kernel⟩, List.mem_of_getElem? (i := 919) (by decide +kernel), List.mem_of_getElem? (i := 1210) (by decide +kernel), List.mem_of_getElem? (i := 1211) (by decide +kernel)⟩
theorem lw_p56 : lw_okq (⟨"MeltingHeapsModel", "keyOf", "(I)I"⟩, 27) := ⟨⟨by decide +kernel, by decide +kernel⟩, List.mem_of_getElem? (i := 919) (by decide +kernel), List.mem_of_getElem? (i := 1222) (by decide +kernel), List.mem_of_getElem? (i := 1223) (by decide +kernel)⟩
theorem lw_p57 : lw_okq (⟨"MeltingHeapsModel", "unlike", "()I"⟩, 27) := ⟨⟨by decide +kernel, by decide +kernel⟩, List.mem_of_getElem? (i := 919) (by decide +kernel), List.mem_of_getElem? (i := 1242) (by decide +kernel), List.mem_of_getElem? (i := 1243) (by decide +kernel)⟩
theorem lw_p58 : lw_okq (⟨"MeltingHeapsModel", "huffman", "()I"⟩, 27) := ⟨⟨by decide +kernel, by decide +kernel⟩, List.mem_of_getElem? (i := 919) (by decide +kernel), List.mem_of_getElem? (i := 1247) (by decide +kernel), List.mem_of_getElem? (i := 1248) (by decide +kernel)⟩
theorem lw_p59 : lw_okq (⟨"MeltingHeapsModel", "fewest", "(I)I"⟩, 27) := ⟨⟨by decide +kernel, by decide +kernel⟩, List.mem_of_getElem? (i := 919) (by decide +kernel), List.mem_of_getElem? (i := 1251) (by decide +kernel), List.mem_of_getElem? (i := 1252) (by decide +kernel)⟩
theorem lw_p60 : lw_okq (⟨"MeltingHeapsModel", "tells", "(I)V"⟩, 27) := ⟨⟨by decide +kernel, by decide +kernel⟩, List.mem_of_getElem? (i := 919) (by decide +kernel), List.mem_of_getElem? (i := 1279) (by decide +kernel), List.mem_of_getElem? (i := 1280) (by decide +kernel)⟩
theorem lw_p61 : lw_okq (⟨"MeltingHeapsModel", "number", "(I)V"⟩, 27) := ⟨⟨by decide +kernel, by decide +kernel⟩, List.mem_of_getElem? (i := 919) (by decide +kernel), List.mem_of_getElem? (i := 1283) (by decide +kernel), List.mem_of_getElem? (i := 1284) (by decide +kernel)⟩
theorem lw_p62 : lw_okq (⟨"MeltingHeapsModel", "takes", "()V"⟩, 27) := ⟨⟨by decide +kernel, by decide +kernel⟩, List.mem_of_getElem? (i := 919) (by decide +kernel), List.mem_of_getElem? (i := 1307) (by decide +kernel), List.mem_of_getElem? (i := 1308) (by decide +kernel)⟩
theorem lw_p63 : lw_okq (⟨"MeltingHeapsModel", "byteAt", "(I)I"⟩, 27) := ⟨⟨by decide +kernel, by decide +kernel⟩, List.mem_of_getElem? (i := 919) (by decide +kernel), List.mem_of_getElem? (i := 1311) (by decide +kernel), List.mem_of_getElem? (i := 1312) (by decide +kernel)⟩
def lw_privs_4 : List (MethodName × Nat) := [(⟨"MeltingHeapsModel", "marked", "(IIIIZ)I"⟩, 27), (⟨"MeltingHeapsModel", "laysRow", "(I)V"⟩, 27), (⟨"MeltingHeapsModel", "farOf", "(II)I"⟩, 27), (⟨"MeltingHeapsModel", "depth", "(I)I"⟩, 27), (⟨"MeltingHeapsModel", "goesTo", "(I)V"⟩, 27), (⟨"MeltingHeapsModel", "ahead", "(II)I"⟩, 27), (⟨"MeltingHeapsModel", "high", "()I"⟩, 27), (⟨"MeltingHeapsModel", "summed", "(II)I"⟩, 27), (⟨"MeltingHeapsModel", "keyOf", "(I)I"⟩, 27), (⟨"MeltingHeapsModel", "unlike", "()I"⟩, 27), (⟨"MeltingHeapsModel", "huffman", "()I"⟩, 27), (⟨"MeltingHeapsModel", "fewest", "(I)I"⟩, 27), (⟨"MeltingHeapsModel", "tells", "(I)V"⟩, 27), (⟨"MeltingHeapsModel", "number", "(I)V"⟩, 27), (⟨"MeltingHeapsModel", "takes", "()V"⟩, 27), (⟨"MeltingHeapsModel", "byteAt", "(I)I"⟩, 27)]
theorem lw_r4 : ∀ q ∈ lw_privs_4, lw_okq q := List.forall_mem_cons.mpr ⟨lw_p48, List.forall_mem_cons.mpr ⟨lw_p49, List.forall_mem_cons.mpr ⟨lw_p50, List.forall_mem_cons.mpr ⟨lw_p51, List.forall_mem_cons.mpr ⟨lw_p52, List.forall_mem_cons.mpr ⟨lw_p53, List.forall_mem_cons.mpr ⟨lw_p54, List.forall_mem_cons.mpr ⟨lw_p55, List.forall_mem_cons.mpr ⟨lw_p56, List.forall_mem_cons.mpr ⟨lw_p57, List.forall_mem_cons.mpr ⟨lw_p58, List.forall_mem_cons.mpr ⟨lw_p59, List.forall_mem_cons.mpr ⟨lw_p60, List.forall_mem_cons.mpr ⟨lw_p61, List.forall_mem_cons.mpr ⟨lw_p62, List.forall_mem_cons.mpr ⟨lw_p63, fun _ h => absurd h List.not_mem_nil⟩⟩⟩⟩⟩⟩⟩⟩⟩⟩⟩⟩⟩⟩⟩⟩
theorem lw_p64 : lw_okq (⟨"MeltingHeapsModel", "isGood", "()Z"⟩, 27) := ⟨⟨by decide +kernel, by decide +kernel⟩, List.mem_of_getElem? (i := 919) (by decide +kernel), List.mem_of_getElem? (i := 1326) (by decide +kernel), List.mem_of_getElem? (i := 1327) (by decide +kernel)⟩
theorem lw_p65 : lw_okq (⟨"MeltingHeapsModel", "readsLine", "()V"⟩, 27) := ⟨⟨by decide +kernel, by decide +kernel⟩, List.mem_of_getElem? (i := 919) (by decide +kernel), List.mem_of_getElem? (i := 1330) (by decide +kernel), List.mem_of_getElem? (i := 1331) (by decide +kernel)⟩
theorem lw_p66 : lw_okq (⟨"MeltingHeapsModel", "hasWord", "(J)Z"⟩, 27) := ⟨⟨by decide +kernel, by decide +kernel⟩, List.mem_of_getElem? (i := 919) (by decide +kernel), List.mem_of_getElem? (i := 1335) (by decide +kernel), List.mem_of_getElem? (i := 1336) (by decide +kernel)⟩
theorem lw_p67 : lw_okq (⟨"MeltingHeapsModel", "readsSet", "()V"⟩, 27) := ⟨⟨by decide +kernel, by decide +kernel⟩, List.mem_of_getElem? (i := 919) (by decide +kernel), List.mem_of_getElem? (i := 1339) (by decide +kernel), List.mem_of_getElem? (i := 1340) (by decide +kernel)⟩
theorem lw_p68 : lw_okq (⟨"MeltingHeapsModel", "setNumber", "()I"⟩, 27) := ⟨⟨by decide +kernel, by decide +kernel⟩, List.mem_of_getElem? (i := 919) (by decide +kernel), List.mem_of_getElem? (i := 1343) (by decide +kernel), List.mem_of_getElem? (i := 1344) (by decide +kernel)⟩
theorem lw_p69 : lw_okq (⟨"MeltingHeapsModel", "numeral", "()I"⟩, 27) := ⟨⟨by decide +kernel, by decide +kernel⟩, List.mem_of_getElem? (i := 919) (by decide +kernel), List.mem_of_getElem? (i := 1347) (by decide +kernel), List.mem_of_getElem? (i := 1348) (by decide +kernel)⟩
theorem lw_p70 : lw_okq (⟨"MeltingHeapsModel", "fails", "(II)V"⟩, 27) := ⟨⟨by decide +kernel, by decide +kernel⟩, List.mem_of_getElem? (i := 919) (by decide +kernel), List.mem_of_getElem? (i := 1351) (by decide +kernel), List.mem_of_getElem? (i := 1352) (by decide +kernel)⟩
theorem lw_p71 : lw_okq (⟨"MeltingHeapsModel", "readsKeys", "(I)V"⟩, 27) := ⟨⟨by decide +kernel, by decide +kernel⟩, List.mem_of_getElem? (i := 919) (by decide +kernel), List.mem_of_getElem? (i := 1355) (by decide +kernel), List.mem_of_getElem? (i := 1356) (by decide +kernel)⟩
theorem lw_p72 : lw_okq (⟨"MeltingHeapsModel", "hasSign", "(I)Z"⟩, 27) := ⟨⟨by decide +kernel, by decide +kernel⟩, List.mem_of_getElem? (i := 919) (by decide +kernel), List.mem_of_getElem? (i := 1359) (by decide +kernel), List.mem_of_getElem? (i := 1360) (by decide +kernel)⟩
theorem lw_p73 : lw_okq (⟨"MeltingHeapsModel", "ends", "()V"⟩, 27) := ⟨⟨by decide +kernel, by decide +kernel⟩, List.mem_of_getElem? (i := 919) (by decide +kernel), List.mem_of_getElem? (i := 1363) (by decide +kernel), List.mem_of_getElem? (i := 1364) (by decide +kernel)⟩
theorem lw_p74 : lw_okq (⟨"MeltingHeapsModel", "readsAct", "(J)I"⟩, 27) := ⟨⟨by decide +kernel, by decide +kernel⟩, List.mem_of_getElem? (i := 919) (by decide +kernel), List.mem_of_getElem? (i := 1373) (by decide +kernel), List.mem_of_getElem? (i := 1374) (by decide +kernel)⟩
def lw_privs_5 : List (MethodName × Nat) := [(⟨"MeltingHeapsModel", "isGood", "()Z"⟩, 27), (⟨"MeltingHeapsModel", "readsLine", "()V"⟩, 27), (⟨"MeltingHeapsModel", "hasWord", "(J)Z"⟩, 27), (⟨"MeltingHeapsModel", "readsSet", "()V"⟩, 27), (⟨"MeltingHeapsModel", "setNumber", "()I"⟩, 27), (⟨"MeltingHeapsModel", "numeral", "()I"⟩, 27), (⟨"MeltingHeapsModel", "fails", "(II)V"⟩, 27), (⟨"MeltingHeapsModel", "readsKeys", "(I)V"⟩, 27), (⟨"MeltingHeapsModel", "hasSign", "(I)Z"⟩, 27), (⟨"MeltingHeapsModel", "ends", "()V"⟩, 27), (⟨"MeltingHeapsModel", "readsAct", "(J)I"⟩, 27)]
theorem lw_r5 : ∀ q ∈ lw_privs_5, lw_okq q := List.forall_mem_cons.mpr ⟨lw_p64, List.forall_mem_cons.mpr ⟨lw_p65, List.forall_mem_cons.mpr ⟨lw_p66, List.forall_mem_cons.mpr ⟨lw_p67, List.forall_mem_cons.mpr ⟨lw_p68, List.forall_mem_cons.mpr ⟨lw_p69, List.forall_mem_cons.mpr ⟨lw_p70, List.forall_mem_cons.mpr ⟨lw_p71, List.forall_mem_cons.mpr ⟨lw_p72, List.forall_mem_cons.mpr ⟨lw_p73, List.forall_mem_cons.mpr ⟨lw_p74, fun _ h => absurd h List.not_mem_nil⟩⟩⟩⟩⟩⟩⟩⟩⟩⟩⟩
def lw_privs : List (MethodName × Nat) := lw_privs_1 ++ (lw_privs_2 ++ (lw_privs_3 ++ (lw_privs_4 ++ (lw_privs_5))))
def lw_tbl : List Cond := k2_sels lw_privs ++ tables_1
theorem lw_privs_ok : ∀ q ∈ lw_privs, lw_okq q := by
  show ∀ q ∈ lw_privs_1 ++ (lw_privs_2 ++ (lw_privs_3 ++ (lw_privs_4 ++ (lw_privs_5)))), lw_okq q
  exact List.forall_mem_append.mpr ⟨lw_r1, List.forall_mem_append.mpr ⟨lw_r2, List.forall_mem_append.mpr ⟨lw_r3, List.forall_mem_append.mpr ⟨lw_r4, lw_r5⟩⟩⟩⟩
def RX0 : String := "MeltingHeaps$Heap"
def TX0 : u_T := fun k => match k with
  | 0 => ("MeltingHeaps$Heap", "entries", "[I", true)
  | 1 => ("MeltingHeaps$Heap", "size", "I", false)
  | _ => ("MeltingHeaps$Heap", "finger", "I", false)
def tyX0 : Nat → FieldType := fun k => match k with
  | 0 => .array .int
  | 1 => .int
  | _ => .int
abbrev wsX00 : List Cond := u_ws RX0 TX0 3
theorem nmX0 : ∀ a, a < 3 → ∀ b, b < 3 → a ≠ b → (TX0 a).2.1 ≠ (TX0 b).2.1 := by decide +kernel
theorem tyX0_ok : ∀ k, k < 3 → parseFieldDescriptor (TX0 k).2.2.1 = some (tyX0 k) := by decide +kernel
abbrev cX0_init : ByteArray := prog_2_method_1_code
def yX0_init : MethodName := ⟨RX0, "<init>", "()V"⟩
abbrev cX0_empty : ByteArray := prog_2_method_2_code
def yX0_empty : MethodName := ⟨RX0, "empty", "()V"⟩
abbrev cX0_keyAt : ByteArray := prog_2_method_3_code
def yX0_keyAt : MethodName := ⟨RX0, "keyAt", "(I)I"⟩
abbrev cX0_markAt : ByteArray := prog_2_method_4_code
def yX0_markAt : MethodName := ⟨RX0, "markAt", "(I)I"⟩
abbrev cX0_below : ByteArray := prog_2_method_5_code
def yX0_below : MethodName := ⟨RX0, "below", "(I)I"⟩
abbrev cX0_notAbove : ByteArray := prog_2_method_6_code
def yX0_notAbove : MethodName := ⟨RX0, "notAbove", "(I)I"⟩
abbrev cX0_rankOf : ByteArray := prog_2_method_7_code
def yX0_rankOf : MethodName := ⟨RX0, "rankOf", "(I)I"⟩
abbrev cX0_howManyBetween : ByteArray := prog_2_method_8_code
def yX0_howManyBetween : MethodName := ⟨RX0, "howManyBetween", "(II)I"⟩
abbrev cX0_markedBetween : ByteArray := prog_2_method_9_code
def yX0_markedBetween : MethodName := ⟨RX0, "markedBetween", "(II)I"⟩
abbrev cX0_leastDifference : ByteArray := prog_2_method_10_code
def yX0_leastDifference : MethodName := ⟨RX0, "leastDifference", "()I"⟩
abbrev cX0_stretches : ByteArray := prog_2_method_11_code
def yX0_stretches : MethodName := ⟨RX0, "stretches", "()I"⟩
abbrev cX0_sum : ByteArray := prog_2_method_12_code
def yX0_sum : MethodName := ⟨RX0, "sum", "()I"⟩
abbrev cX0_lastToldWith : ByteArray := prog_2_method_13_code
def yX0_lastToldWith : MethodName := ⟨RX0, "lastToldWith", "(I)I"⟩
abbrev cX0_openGap : ByteArray := prog_2_method_14_code
def yX0_openGap : MethodName := ⟨RX0, "openGap", "(II)Z"⟩
abbrev cX0_closeGap : ByteArray := prog_2_method_15_code
def yX0_closeGap : MethodName := ⟨RX0, "closeGap", "(II)V"⟩
abbrev cX0_insert : ByteArray := prog_2_method_16_code
def yX0_insert : MethodName := ⟨RX0, "insert", "(I)I"⟩
abbrev cX0_giveStretch : ByteArray := prog_2_method_17_code
def yX0_giveStretch : MethodName := ⟨RX0, "giveStretch", "(IILMeltingHeaps$Heap;)V"⟩
abbrev cX0_absorb : ByteArray := prog_2_method_18_code
def yX0_absorb : MethodName := ⟨RX0, "absorb", "(LMeltingHeaps$Heap;I)V"⟩
abbrev cX0_shiftAll : ByteArray := prog_2_method_19_code
def yX0_shiftAll : MethodName := ⟨RX0, "shiftAll", "(I)V"⟩
abbrev cX0_markBetween : ByteArray := prog_2_method_20_code
def yX0_markBetween : MethodName := ⟨RX0, "markBetween", "(III)I"⟩
def RX1 : String := "MeltingHeaps$Image"
def TX1 : u_T := fun k => match k with
  | 0 => ("MeltingHeaps$Image", "heaps", "LMeltingHeaps$Snapshot;", true)
  | 1 => ("MeltingHeaps$Image", "tape", "LMeltingHeaps$Row;", true)
  | 2 => ("MeltingHeaps$Image", "told", "LMeltingHeaps$Row;", true)
  | 3 => ("MeltingHeaps$Image", "taken", "Z", false)
  | 4 => ("MeltingHeaps$Image", "faultKind", "I", false)
  | _ => ("MeltingHeaps$Image", "faultPlace", "I", false)
def tyX1 : Nat → FieldType := fun k => match k with
  | 0 => .object "MeltingHeaps$Snapshot"
  | 1 => .object "MeltingHeaps$Row"
  | 2 => .object "MeltingHeaps$Row"
  | 3 => .boolean
  | 4 => .int
  | _ => .int
abbrev wsX10 : List Cond := u_ws RX1 TX1 6
theorem nmX1 : ∀ a, a < 6 → ∀ b, b < 6 → a ≠ b → (TX1 a).2.1 ≠ (TX1 b).2.1 := by decide +kernel
theorem tyX1_ok : ∀ k, k < 6 → parseFieldDescriptor (TX1 k).2.2.1 = some (tyX1 k) := by decide +kernel
abbrev cX1_init : ByteArray := prog_3_method_1_code
def yX1_init : MethodName := ⟨RX1, "<init>", "()V"⟩
def RX2 : String := "MeltingHeaps$Parade"
def TX2 : u_T := fun k => match k with
  | 0 => ("MeltingHeaps$Parade", "heaps", "[LMeltingHeaps$Heap;", true)
  | _ => ("MeltingHeaps$Parade", "heads", "[I", true)
def tyX2 : Nat → FieldType := fun k => match k with
  | 0 => .array (.object "MeltingHeaps$Heap")
  | _ => .array .int
abbrev wsX20 : List Cond := u_ws RX2 TX2 2
theorem nmX2 : ∀ a, a < 2 → ∀ b, b < 2 → a ≠ b → (TX2 a).2.1 ≠ (TX2 b).2.1 := by decide +kernel
theorem tyX2_ok : ∀ k, k < 2 → parseFieldDescriptor (TX2 k).2.2.1 = some (tyX2 k) := by decide +kernel
abbrev cX2_init : ByteArray := prog_4_method_1_code
def yX2_init : MethodName := ⟨RX2, "<init>", "([LMeltingHeaps$Heap;)V"⟩
abbrev cX2_begin : ByteArray := prog_4_method_2_code
def yX2_begin : MethodName := ⟨RX2, "begin", "()V"⟩
abbrev cX2_next : ByteArray := prog_4_method_3_code
def yX2_next : MethodName := ⟨RX2, "next", "()I"⟩
def RX3 : String := "MeltingHeaps$Past"
def TX3 : u_T := fun k => match k with
  | 0 => ("MeltingHeaps$Past", "rows", "[LMeltingHeaps$Snapshot;", true)
  | 1 => ("MeltingHeaps$Past", "next", "I", false)
  | _ => ("MeltingHeaps$Past", "held", "I", false)
def tyX3 : Nat → FieldType := fun k => match k with
  | 0 => .array (.object "MeltingHeaps$Snapshot")
  | 1 => .int
  | _ => .int
abbrev wsX30 : List Cond := u_ws RX3 TX3 3
theorem nmX3 : ∀ a, a < 3 → ∀ b, b < 3 → a ≠ b → (TX3 a).2.1 ≠ (TX3 b).2.1 := by decide +kernel
theorem tyX3_ok : ∀ k, k < 3 → parseFieldDescriptor (TX3 k).2.2.1 = some (tyX3 k) := by decide +kernel
abbrev cX3_init : ByteArray := prog_5_method_1_code
def yX3_init : MethodName := ⟨RX3, "<init>", "()V"⟩
abbrev cX3_prepare : ByteArray := prog_5_method_2_code
def yX3_prepare : MethodName := ⟨RX3, "prepare", "(LMeltingHeaps$Store;)V"⟩
abbrev cX3_settle : ByteArray := prog_5_method_3_code
def yX3_settle : MethodName := ⟨RX3, "settle", "(I)I"⟩
abbrev cX3_stepBack : ByteArray := prog_5_method_4_code
def yX3_stepBack : MethodName := ⟨RX3, "stepBack", "(LMeltingHeaps$Store;)V"⟩
abbrev cX3_forget : ByteArray := prog_5_method_5_code
def yX3_forget : MethodName := ⟨RX3, "forget", "()V"⟩
def RX4 : String := "MeltingHeaps$Row"
def TX4 : u_T := fun k => match k with
  | 0 => ("MeltingHeaps$Row", "bytes", "[B", true)
  | _ => ("MeltingHeaps$Row", "length", "I", false)
def tyX4 : Nat → FieldType := fun k => match k with
  | 0 => .array .byte
  | _ => .int
abbrev wsX40 : List Cond := u_ws RX4 TX4 2
theorem nmX4 : ∀ a, a < 2 → ∀ b, b < 2 → a ≠ b → (TX4 a).2.1 ≠ (TX4 b).2.1 := by decide +kernel
theorem tyX4_ok : ∀ k, k < 2 → parseFieldDescriptor (TX4 k).2.2.1 = some (tyX4 k) := by decide +kernel
abbrev cX4_init : ByteArray := prog_6_method_1_code
def yX4_init : MethodName := ⟨RX4, "<init>", "([B)V"⟩
abbrev cX4_byteAt : ByteArray := prog_6_method_2_code
def yX4_byteAt : MethodName := ⟨RX4, "byteAt", "(I)I"⟩
abbrev cX4_add : ByteArray := prog_6_method_3_code
def yX4_add : MethodName := ⟨RX4, "add", "(I)V"⟩
abbrev cX4_addFour : ByteArray := prog_6_method_4_code
def yX4_addFour : MethodName := ⟨RX4, "addFour", "(I)V"⟩
abbrev cX4_addNumber : ByteArray := prog_6_method_5_code
def yX4_addNumber : MethodName := ⟨RX4, "addNumber", "(I)V"⟩
abbrev cX4_copy : ByteArray := prog_6_method_6_code
def yX4_copy : MethodName := ⟨RX4, "copy", "(LMeltingHeaps$Row;)V"⟩
def RX5 : String := "MeltingHeaps$Script"
def TX5 : u_T := fun k => match k with
  | 0 => ("MeltingHeaps$Script", "tape", "LMeltingHeaps$Row;", true)
  | 1 => ("MeltingHeaps$Script", "store", "LMeltingHeaps$Store;", true)
  | 2 => ("MeltingHeaps$Script", "numbers", "[I", true)
  | 3 => ("MeltingHeaps$Script", "at", "I", false)
  | 4 => ("MeltingHeaps$Script", "kind", "I", false)
  | 5 => ("MeltingHeaps$Script", "place", "I", false)
  | 6 => ("MeltingHeaps$Script", "value", "I", false)
  | 7 => ("MeltingHeaps$Script", "faultKind", "I", false)
  | _ => ("MeltingHeaps$Script", "faultPlace", "I", false)
def tyX5 : Nat → FieldType := fun k => match k with
  | 0 => .object "MeltingHeaps$Row"
  | 1 => .object "MeltingHeaps$Store"
  | 2 => .array .int
  | 3 => .int
  | 4 => .int
  | 5 => .int
  | 6 => .int
  | 7 => .int
  | _ => .int
abbrev wsX50 : List Cond := u_ws RX5 TX5 9
theorem nmX5 : ∀ a, a < 9 → ∀ b, b < 9 → a ≠ b → (TX5 a).2.1 ≠ (TX5 b).2.1 := by decide +kernel
theorem tyX5_ok : ∀ k, k < 9 → parseFieldDescriptor (TX5 k).2.2.1 = some (tyX5 k) := by decide +kernel
abbrev cX5_init : ByteArray := prog_7_method_1_code
def yX5_init : MethodName := ⟨RX5, "<init>", "(LMeltingHeaps$Row;LMeltingHeaps$Store;)V"⟩
abbrev cX5_perform : ByteArray := prog_7_method_2_code
def yX5_perform : MethodName := ⟨RX5, "perform", "()V"⟩
abbrev cX5_doLine : ByteArray := prog_7_method_3_code
def yX5_doLine : MethodName := ⟨RX5, "doLine", "()V"⟩
abbrev cX5_fail : ByteArray := prog_7_method_4_code
def yX5_fail : MethodName := ⟨RX5, "fail", "(II)V"⟩
abbrev cX5_lineHere : ByteArray := prog_7_method_5_code
def yX5_lineHere : MethodName := ⟨RX5, "lineHere", "()I"⟩
abbrev cX5_spells : ByteArray := prog_7_method_6_code
def yX5_spells : MethodName := ⟨RX5, "spells", "(Ljava/lang/String;)Z"⟩
abbrev cX5_shapeOf : ByteArray := prog_7_method_7_code
def yX5_shapeOf : MethodName := ⟨RX5, "shapeOf", "(I)Ljava/lang/String;"⟩
abbrev cX5_takeArgument : ByteArray := prog_7_method_8_code
def yX5_takeArgument : MethodName := ⟨RX5, "takeArgument", "(C)I"⟩
abbrev cX5_takeNumber : ByteArray := prog_7_method_9_code
def yX5_takeNumber : MethodName := ⟨RX5, "takeNumber", "(I)I"⟩
abbrev cX5_putItem : ByteArray := prog_7_method_10_code
def yX5_putItem : MethodName := ⟨RX5, "putItem", "(I)V"⟩
abbrev cX5_act : ByteArray := prog_7_method_11_code
def yX5_act : MethodName := ⟨RX5, "act", "(I)I"⟩
abbrev cX5_advance : ByteArray := prog_7_method_12_code
def yX5_advance : MethodName := ⟨RX5, "advance", "()V"⟩
abbrev cX5_readWord : ByteArray := prog_7_method_13_code
def yX5_readWord : MethodName := ⟨RX5, "readWord", "()V"⟩
abbrev cX5_readNumber : ByteArray := prog_7_method_14_code
def yX5_readNumber : MethodName := ⟨RX5, "readNumber", "()V"⟩
abbrev cX5_isBlank : ByteArray := prog_7_method_15_code
def yX5_isBlank : MethodName := ⟨RX5, "isBlank", "(I)Z"⟩
abbrev cX5_isLetter : ByteArray := prog_7_method_16_code
def yX5_isLetter : MethodName := ⟨RX5, "isLetter", "(I)Z"⟩
abbrev cX5_isDigit : ByteArray := prog_7_method_17_code
def yX5_isDigit : MethodName := ⟨RX5, "isDigit", "(I)Z"⟩
def RX6 : String := "MeltingHeaps$Snapshot"
def TX6 : u_T := fun k => match k with
  | 0 => ("MeltingHeaps$Snapshot", "entries", "[I", true)
  | 1 => ("MeltingHeaps$Snapshot", "sizes", "[I", true)
  | _ => ("MeltingHeaps$Snapshot", "fingers", "[I", true)
def tyX6 : Nat → FieldType := fun k => match k with
  | 0 => .array .int
  | 1 => .array .int
  | _ => .array .int
abbrev wsX60 : List Cond := u_ws RX6 TX6 3
theorem nmX6 : ∀ a, a < 3 → ∀ b, b < 3 → a ≠ b → (TX6 a).2.1 ≠ (TX6 b).2.1 := by decide +kernel
theorem tyX6_ok : ∀ k, k < 3 → parseFieldDescriptor (TX6 k).2.2.1 = some (tyX6 k) := by decide +kernel
abbrev cX6_init : ByteArray := prog_8_method_1_code
def yX6_init : MethodName := ⟨RX6, "<init>", "()V"⟩
abbrev cX6_take : ByteArray := prog_8_method_2_code
def yX6_take : MethodName := ⟨RX6, "take", "(LMeltingHeaps$Store;)V"⟩
abbrev cX6_give : ByteArray := prog_8_method_3_code
def yX6_give : MethodName := ⟨RX6, "give", "(LMeltingHeaps$Store;)V"⟩
def RX7 : String := "MeltingHeaps$Store"
def TX7 : u_T := fun k => match k with
  | 0 => ("MeltingHeaps$Store", "heaps", "[LMeltingHeaps$Heap;", true)
  | 1 => ("MeltingHeaps$Store", "tree", "LMeltingHeaps$Tree;", true)
  | 2 => ("MeltingHeaps$Store", "weave", "LMeltingHeaps$Weave;", true)
  | 3 => ("MeltingHeaps$Store", "parade", "LMeltingHeaps$Parade;", true)
  | 4 => ("MeltingHeaps$Store", "weights", "[I", true)
  | 5 => ("MeltingHeaps$Store", "cheapestOne", "I", false)
  | 6 => ("MeltingHeaps$Store", "cheapestOther", "I", false)
  | _ => ("MeltingHeaps$Store", "cheapestCost", "I", false)
def tyX7 : Nat → FieldType := fun k => match k with
  | 0 => .array (.object "MeltingHeaps$Heap")
  | 1 => .object "MeltingHeaps$Tree"
  | 2 => .object "MeltingHeaps$Weave"
  | 3 => .object "MeltingHeaps$Parade"
  | 4 => .array .int
  | 5 => .int
  | 6 => .int
  | _ => .int
abbrev wsX70 : List Cond := u_ws RX7 TX7 8
theorem nmX7 : ∀ a, a < 8 → ∀ b, b < 8 → a ≠ b → (TX7 a).2.1 ≠ (TX7 b).2.1 := by decide +kernel
theorem tyX7_ok : ∀ k, k < 8 → parseFieldDescriptor (TX7 k).2.2.1 = some (tyX7 k) := by decide +kernel
abbrev cX7_init : ByteArray := prog_9_method_1_code
def yX7_init : MethodName := ⟨RX7, "<init>", "()V"⟩
abbrev cX7_empty : ByteArray := prog_9_method_2_code
def yX7_empty : MethodName := ⟨RX7, "empty", "()V"⟩
abbrev cX7_heapAt : ByteArray := prog_9_method_3_code
def yX7_heapAt : MethodName := ⟨RX7, "heapAt", "(I)LMeltingHeaps$Heap;"⟩
abbrev cX7_treeOf : ByteArray := prog_9_method_4_code
def yX7_treeOf : MethodName := ⟨RX7, "treeOf", "(LMeltingHeaps$Heap;)LMeltingHeaps$Tree;"⟩
abbrev cX7_weaveOf : ByteArray := prog_9_method_5_code
def yX7_weaveOf : MethodName := ⟨RX7, "weaveOf", "(LMeltingHeaps$Heap;LMeltingHeaps$Heap;)LMeltingHeaps$Weave;"⟩
abbrev cX7_total : ByteArray := prog_9_method_6_code
def yX7_total : MethodName := ⟨RX7, "total", "()I"⟩
abbrev cX7_putKey : ByteArray := prog_9_method_7_code
def yX7_putKey : MethodName := ⟨RX7, "putKey", "(II)I"⟩
abbrev cX7_dropKey : ByteArray := prog_9_method_8_code
def yX7_dropKey : MethodName := ⟨RX7, "dropKey", "(II)I"⟩
abbrev cX7_cutAbove : ByteArray := prog_9_method_9_code
def yX7_cutAbove : MethodName := ⟨RX7, "cutAbove", "(III)I"⟩
abbrev cX7_joinTo : ByteArray := prog_9_method_10_code
def yX7_joinTo : MethodName := ⟨RX7, "joinTo", "(II)I"⟩
abbrev cX7_whyNotJoin : ByteArray := prog_9_method_11_code
def yX7_whyNotJoin : MethodName := ⟨RX7, "whyNotJoin", "(LMeltingHeaps$Heap;LMeltingHeaps$Heap;)I"⟩
abbrev cX7_meltTo : ByteArray := prog_9_method_12_code
def yX7_meltTo : MethodName := ⟨RX7, "meltTo", "(II)I"⟩
abbrev cX7_whyNotMelt : ByteArray := prog_9_method_13_code
def yX7_whyNotMelt : MethodName := ⟨RX7, "whyNotMelt", "(LMeltingHeaps$Heap;LMeltingHeaps$Weave;)I"⟩
abbrev cX7_shiftBy : ByteArray := prog_9_method_14_code
def yX7_shiftBy : MethodName := ⟨RX7, "shiftBy", "(II)I"⟩
abbrev cX7_moveStretch : ByteArray := prog_9_method_15_code
def yX7_moveStretch : MethodName := ⟨RX7, "moveStretch", "(IIII)I"⟩
abbrev cX7_markStretch : ByteArray := prog_9_method_16_code
def yX7_markStretch : MethodName := ⟨RX7, "markStretch", "(IIIZ)I"⟩
abbrev cX7_seekFrom : ByteArray := prog_9_method_17_code
def yX7_seekFrom : MethodName := ⟨RX7, "seekFrom", "(II)I"⟩
abbrev cX7_notEmpty : ByteArray := prog_9_method_18_code
def yX7_notEmpty : MethodName := ⟨RX7, "notEmpty", "()I"⟩
abbrev cX7_allMarked : ByteArray := prog_9_method_19_code
def yX7_allMarked : MethodName := ⟨RX7, "allMarked", "()I"⟩
abbrev cX7_unlike : ByteArray := prog_9_method_20_code
def yX7_unlike : MethodName := ⟨RX7, "unlike", "()I"⟩
abbrev cX7_huffman : ByteArray := prog_9_method_21_code
def yX7_huffman : MethodName := ⟨RX7, "huffman", "()I"⟩
abbrev cX7_lightest : ByteArray := prog_9_method_22_code
def yX7_lightest : MethodName := ⟨RX7, "lightest", "(I)I"⟩
abbrev cX7_findCheapest : ByteArray := prog_9_method_23_code
def yX7_findCheapest : MethodName := ⟨RX7, "findCheapest", "()V"⟩
abbrev cX7_takeIfCheaper : ByteArray := prog_9_method_24_code
def yX7_takeIfCheaper : MethodName := ⟨RX7, "takeIfCheaper", "(II)V"⟩
def RX8 : String := "MeltingHeaps$Tree"
def TX8 : u_T := fun k => match k with
  | 0 => ("MeltingHeaps$Tree", "keys", "[I", true)
  | 1 => ("MeltingHeaps$Tree", "above", "[I", true)
  | 2 => ("MeltingHeaps$Tree", "left", "[I", true)
  | 3 => ("MeltingHeaps$Tree", "right", "[I", true)
  | 4 => ("MeltingHeaps$Tree", "depth", "[I", true)
  | 5 => ("MeltingHeaps$Tree", "under", "[I", true)
  | 6 => ("MeltingHeaps$Tree", "way", "[I", true)
  | 7 => ("MeltingHeaps$Tree", "size", "I", false)
  | _ => ("MeltingHeaps$Tree", "root", "I", false)
def tyX8 : Nat → FieldType := fun k => match k with
  | 0 => .array .int
  | 1 => .array .int
  | 2 => .array .int
  | 3 => .array .int
  | 4 => .array .int
  | 5 => .array .int
  | 6 => .array .int
  | 7 => .int
  | _ => .int
abbrev wsX80 : List Cond := u_ws RX8 TX8 9
theorem nmX8 : ∀ a, a < 9 → ∀ b, b < 9 → a ≠ b → (TX8 a).2.1 ≠ (TX8 b).2.1 := by decide +kernel
theorem tyX8_ok : ∀ k, k < 9 → parseFieldDescriptor (TX8 k).2.2.1 = some (tyX8 k) := by decide +kernel
abbrev cX8_init : ByteArray := prog_10_method_1_code
def yX8_init : MethodName := ⟨RX8, "<init>", "()V"⟩
abbrev cX8_grow : ByteArray := prog_10_method_2_code
def yX8_grow : MethodName := ⟨RX8, "grow", "(LMeltingHeaps$Heap;II)V"⟩
abbrev cX8_addKey : ByteArray := prog_10_method_3_code
def yX8_addKey : MethodName := ⟨RX8, "addKey", "(I)V"⟩
abbrev cX8_link : ByteArray := prog_10_method_4_code
def yX8_link : MethodName := ⟨RX8, "link", "()V"⟩
abbrev cX8_climb : ByteArray := prog_10_method_5_code
def yX8_climb : MethodName := ⟨RX8, "climb", "()V"⟩
abbrev cX8_isNode : ByteArray := prog_10_method_6_code
def yX8_isNode : MethodName := ⟨RX8, "isNode", "(I)Z"⟩
abbrev cX8_keyOf : ByteArray := prog_10_method_7_code
def yX8_keyOf : MethodName := ⟨RX8, "keyOf", "(I)I"⟩
abbrev cX8_rootKey : ByteArray := prog_10_method_8_code
def yX8_rootKey : MethodName := ⟨RX8, "rootKey", "()I"⟩
abbrev cX8_depthAt : ByteArray := prog_10_method_9_code
def yX8_depthAt : MethodName := ⟨RX8, "depthAt", "(I)I"⟩
abbrev cX8_keyAbove : ByteArray := prog_10_method_10_code
def yX8_keyAbove : MethodName := ⟨RX8, "keyAbove", "(I)I"⟩
abbrev cX8_keyAtLeft : ByteArray := prog_10_method_11_code
def yX8_keyAtLeft : MethodName := ⟨RX8, "keyAtLeft", "(I)I"⟩
abbrev cX8_keyAtRight : ByteArray := prog_10_method_12_code
def yX8_keyAtRight : MethodName := ⟨RX8, "keyAtRight", "(I)I"⟩
abbrev cX8_howManyBelow : ByteArray := prog_10_method_13_code
def yX8_howManyBelow : MethodName := ⟨RX8, "howManyBelow", "(I)I"⟩
abbrev cX8_high : ByteArray := prog_10_method_14_code
def yX8_high : MethodName := ⟨RX8, "high", "()I"⟩
abbrev cX8_allDepths : ByteArray := prog_10_method_15_code
def yX8_allDepths : MethodName := ⟨RX8, "allDepths", "()I"⟩
abbrev cX8_steps : ByteArray := prog_10_method_16_code
def yX8_steps : MethodName := ⟨RX8, "steps", "(II)I"⟩
def RX9 : String := "MeltingHeaps$Weave"
def TX9 : u_T := fun k => match k with
  | 0 => ("MeltingHeaps$Weave", "runs", "I", false)
  | 1 => ("MeltingHeaps$Weave", "twins", "I", false)
  | 2 => ("MeltingHeaps$Weave", "cost", "I", false)
  | 3 => ("MeltingHeaps$Weave", "longest", "I", false)
  | _ => ("MeltingHeaps$Weave", "keys", "I", false)
def tyX9 : Nat → FieldType := fun k => match k with
  | 0 => .int
  | 1 => .int
  | 2 => .int
  | 3 => .int
  | _ => .int
abbrev wsX90 : List Cond := u_ws RX9 TX9 5
theorem nmX9 : ∀ a, a < 5 → ∀ b, b < 5 → a ≠ b → (TX9 a).2.1 ≠ (TX9 b).2.1 := by decide +kernel
theorem tyX9_ok : ∀ k, k < 5 → parseFieldDescriptor (TX9 k).2.2.1 = some (tyX9 k) := by decide +kernel
abbrev cX9_init : ByteArray := prog_11_method_1_code
def yX9_init : MethodName := ⟨RX9, "<init>", "()V"⟩
abbrev cX9_weave : ByteArray := prog_11_method_2_code
def yX9_weave : MethodName := ⟨RX9, "weave", "(LMeltingHeaps$Heap;LMeltingHeaps$Heap;)V"⟩
abbrev cX9_endRun : ByteArray := prog_11_method_3_code
def yX9_endRun : MethodName := ⟨RX9, "endRun", "(I)V"⟩
def RX10 : String := "MeltingHeaps"
def TX10 : u_T := fun k => match k with
  | 0 => ("MeltingHeaps", "store", "LMeltingHeaps$Store;", true)
  | 1 => ("MeltingHeaps", "past", "LMeltingHeaps$Past;", true)
  | 2 => ("MeltingHeaps", "tape", "LMeltingHeaps$Row;", true)
  | 3 => ("MeltingHeaps", "told", "LMeltingHeaps$Row;", true)
  | 4 => ("MeltingHeaps", "script", "LMeltingHeaps$Script;", true)
  | 5 => ("MeltingHeaps", "beforeText", "LMeltingHeaps$Snapshot;", true)
  | 6 => ("MeltingHeaps", "images", "[LMeltingHeaps$Image;", true)
  | 7 => ("MeltingHeaps", "faultKind", "I", false)
  | _ => ("MeltingHeaps", "faultPlace", "I", false)
def tyX10 : Nat → FieldType := fun k => match k with
  | 0 => .object "MeltingHeaps$Store"
  | 1 => .object "MeltingHeaps$Past"
  | 2 => .object "MeltingHeaps$Row"
  | 3 => .object "MeltingHeaps$Row"
  | 4 => .object "MeltingHeaps$Script"
  | 5 => .object "MeltingHeaps$Snapshot"
  | 6 => .array (.object "MeltingHeaps$Image")
  | 7 => .int
  | _ => .int
abbrev wsX100 : List Cond := u_ws RX10 TX10 9
theorem nmX10 : ∀ a, a < 9 → ∀ b, b < 9 → a ≠ b → (TX10 a).2.1 ≠ (TX10 b).2.1 := by decide +kernel
theorem tyX10_ok : ∀ k, k < 9 → parseFieldDescriptor (TX10 k).2.2.1 = some (tyX10 k) := by decide +kernel
abbrev cX10_init : ByteArray := prog_1_method_1_code
def yX10_init : MethodName := ⟨RX10, "<init>", "()V"⟩
abbrev cX10_feed : ByteArray := prog_1_method_2_code
def yX10_feed : MethodName := ⟨RX10, "feed", "(IIIII)I"⟩
abbrev cX10_end : ByteArray := prog_1_method_3_code
def yX10_end : MethodName := ⟨RX10, "end", "(I)I"⟩
abbrev cX10_text : ByteArray := prog_1_method_4_code
def yX10_text : MethodName := ⟨RX10, "text", "()I"⟩
abbrev cX10_fault : ByteArray := prog_1_method_5_code
def yX10_fault : MethodName := ⟨RX10, "fault", "(I)I"⟩
abbrev cX10_put : ByteArray := prog_1_method_6_code
def yX10_put : MethodName := ⟨RX10, "put", "(II)I"⟩
abbrev cX10_drop : ByteArray := prog_1_method_7_code
def yX10_drop : MethodName := ⟨RX10, "drop", "(II)I"⟩
abbrev cX10_cut : ByteArray := prog_1_method_8_code
def yX10_cut : MethodName := ⟨RX10, "cut", "(III)I"⟩
abbrev cX10_join : ByteArray := prog_1_method_9_code
def yX10_join : MethodName := ⟨RX10, "join", "(II)I"⟩
abbrev cX10_melt : ByteArray := prog_1_method_10_code
def yX10_melt : MethodName := ⟨RX10, "melt", "(II)I"⟩
abbrev cX10_shift : ByteArray := prog_1_method_11_code
def yX10_shift : MethodName := ⟨RX10, "shift", "(II)I"⟩
abbrev cX10_move : ByteArray := prog_1_method_12_code
def yX10_move : MethodName := ⟨RX10, "move", "(IIII)I"⟩
abbrev cX10_mark : ByteArray := prog_1_method_13_code
def yX10_mark : MethodName := ⟨RX10, "mark", "(IIIZ)I"⟩
abbrev cX10_seek : ByteArray := prog_1_method_14_code
def yX10_seek : MethodName := ⟨RX10, "seek", "(II)I"⟩
abbrev cX10_undo : ByteArray := prog_1_method_15_code
def yX10_undo : MethodName := ⟨RX10, "undo", "()I"⟩
abbrev cX10_set : ByteArray := prog_1_method_16_code
def yX10_set : MethodName := ⟨RX10, "set", "(II)I"⟩
abbrev cX10_key : ByteArray := prog_1_method_17_code
def yX10_key : MethodName := ⟨RX10, "key", "(II)I"⟩
abbrev cX10_of : ByteArray := prog_1_method_18_code
def yX10_of : MethodName := ⟨RX10, "of", "(III)I"⟩
abbrev cX10_within : ByteArray := prog_1_method_19_code
def yX10_within : MethodName := ⟨RX10, "within", "(IIIZ)I"⟩
abbrev cX10_far : ByteArray := prog_1_method_20_code
def yX10_far : MethodName := ⟨RX10, "far", "(III)I"⟩
abbrev cX10_where : ByteArray := prog_1_method_21_code
def yX10_where : MethodName := ⟨RX10, "where", "(I)I"⟩
abbrev cX10_count : ByteArray := prog_1_method_22_code
def yX10_count : MethodName := ⟨RX10, "count", "(I)I"⟩
abbrev cX10_pair : ByteArray := prog_1_method_23_code
def yX10_pair : MethodName := ⟨RX10, "pair", "(III)I"⟩
abbrev cX10_cheapest : ByteArray := prog_1_method_24_code
def yX10_cheapest : MethodName := ⟨RX10, "cheapest", "(I)I"⟩
abbrev cX10_merged : ByteArray := prog_1_method_25_code
def yX10_merged : MethodName := ⟨RX10, "merged", "(I)I"⟩
abbrev cX10_would : ByteArray := prog_1_method_26_code
def yX10_would : MethodName := ⟨RX10, "would", "(IIZ)I"⟩
abbrev cX10_halves : ByteArray := prog_1_method_27_code
def yX10_halves : MethodName := ⟨RX10, "halves", "(I)I"⟩
abbrev cX10_tell : ByteArray := prog_1_method_28_code
def yX10_tell : MethodName := ⟨RX10, "tell", "(I)I"⟩
abbrev cX10_octet : ByteArray := prog_1_method_29_code
def yX10_octet : MethodName := ⟨RX10, "octet", "(I)I"⟩
abbrev cX10_image : ByteArray := prog_1_method_30_code
def yX10_image : MethodName := ⟨RX10, "image", "(I)Z"⟩
abbrev cX10_again : ByteArray := prog_1_method_31_code
def yX10_again : MethodName := ⟨RX10, "again", "(I)Z"⟩
abbrev cX10_isKey : ByteArray := prog_1_method_32_code
def yX10_isKey : MethodName := ⟨RX10, "isKey", "(I)Z"⟩
abbrev cX10_priority : ByteArray := prog_1_method_33_code
def yX10_priority : MethodName := ⟨RX10, "priority", "(I)I"⟩
def RX11 : String := "MeltingHeapsModel"
def TX11 : u_T := fun k => match k with
  | 0 => ("MeltingHeapsModel", "all", "[I", true)
  | 1 => ("MeltingHeapsModel", "tape", "[I", true)
  | 2 => ("MeltingHeapsModel", "told", "[I", true)
  | 3 => ("MeltingHeapsModel", "isImage", "[Z", true)
  | 4 => ("MeltingHeapsModel", "taped", "I", false)
  | 5 => ("MeltingHeapsModel", "toldMany", "I", false)
  | 6 => ("MeltingHeapsModel", "faultKind", "I", false)
  | 7 => ("MeltingHeapsModel", "faultPlace", "I", false)
  | 8 => ("MeltingHeapsModel", "undos", "I", false)
  | 9 => ("MeltingHeapsModel", "b", "I", false)
  | 10 => ("MeltingHeapsModel", "row", "[I", true)
  | 11 => ("MeltingHeapsModel", "rowMany", "I", false)
  | 12 => ("MeltingHeapsModel", "wayFrom", "I", false)
  | 13 => ("MeltingHeapsModel", "wayLast", "I", false)
  | 14 => ("MeltingHeapsModel", "wayAbove", "I", false)
  | 15 => ("MeltingHeapsModel", "wayDeep", "I", false)
  | 16 => ("MeltingHeapsModel", "runs", "I", false)
  | 17 => ("MeltingHeapsModel", "cost", "I", false)
  | 18 => ("MeltingHeapsModel", "longest", "I", false)
  | 19 => ("MeltingHeapsModel", "run", "I", false)
  | 20 => ("MeltingHeapsModel", "runOf", "I", false)
  | 21 => ("MeltingHeapsModel", "sizes", "[I", true)
  | 22 => ("MeltingHeapsModel", "size0", "I", false)
  | 23 => ("MeltingHeapsModel", "next", "I", false)
  | 24 => ("MeltingHeapsModel", "token", "I", false)
  | 25 => ("MeltingHeapsModel", "place", "I", false)
  | _ => ("MeltingHeapsModel", "value", "J", false)
def tyX11 : Nat → FieldType := fun k => match k with
  | 0 => .array .int
  | 1 => .array .int
  | 2 => .array .int
  | 3 => .array .boolean
  | 4 => .int
  | 5 => .int
  | 6 => .int
  | 7 => .int
  | 8 => .int
  | 9 => .int
  | 10 => .array .int
  | 11 => .int
  | 12 => .int
  | 13 => .int
  | 14 => .int
  | 15 => .int
  | 16 => .int
  | 17 => .int
  | 18 => .int
  | 19 => .int
  | 20 => .int
  | 21 => .array .int
  | 22 => .int
  | 23 => .int
  | 24 => .int
  | 25 => .int
  | _ => .long
abbrev wsX110 : List Cond := u_ws RX11 TX11 27
theorem nmX11 : ∀ a, a < 27 → ∀ b, b < 27 → a ≠ b → (TX11 a).2.1 ≠ (TX11 b).2.1 := by decide +kernel
theorem tyX11_ok : ∀ k, k < 27 → parseFieldDescriptor (TX11 k).2.2.1 = some (tyX11 k) := by decide +kernel
abbrev cX11_init : ByteArray := prog_13_method_1_code
def yX11_init : MethodName := ⟨RX11, "<init>", "()V"⟩
abbrev cX11_empties : ByteArray := prog_13_method_2_code
def yX11_empties : MethodName := ⟨RX11, "empties", "(I)V"⟩
abbrev cX11_isIn : ByteArray := prog_13_method_3_code
def yX11_isIn : MethodName := ⟨RX11, "isIn", "(III)Z"⟩
abbrev cX11_copies : ByteArray := prog_13_method_4_code
def yX11_copies : MethodName := ⟨RX11, "copies", "(III)V"⟩
abbrev cX11_isSet : ByteArray := prog_13_method_5_code
def yX11_isSet : MethodName := ⟨RX11, "isSet", "(I)Z"⟩
abbrev cX11_isKey : ByteArray := prog_13_method_6_code
def yX11_isKey : MethodName := ⟨RX11, "isKey", "(I)Z"⟩
abbrev cX11_many : ByteArray := prog_13_method_7_code
def yX11_many : MethodName := ⟨RX11, "many", "(I)I"⟩
abbrev cX11_keyAt : ByteArray := prog_13_method_8_code
def yX11_keyAt : MethodName := ⟨RX11, "keyAt", "(II)I"⟩
abbrev cX11_markAt : ByteArray := prog_13_method_9_code
def yX11_markAt : MethodName := ⟨RX11, "markAt", "(II)I"⟩
abbrev cX11_finger : ByteArray := prog_13_method_10_code
def yX11_finger : MethodName := ⟨RX11, "finger", "(I)I"⟩
abbrev cX11_points : ByteArray := prog_13_method_11_code
def yX11_points : MethodName := ⟨RX11, "points", "(II)V"⟩
abbrev cX11_below : ByteArray := prog_13_method_12_code
def yX11_below : MethodName := ⟨RX11, "below", "(II)I"⟩
abbrev cX11_placeOf : ByteArray := prog_13_method_13_code
def yX11_placeOf : MethodName := ⟨RX11, "placeOf", "(II)I"⟩
abbrev cX11_puts : ByteArray := prog_13_method_14_code
def yX11_puts : MethodName := ⟨RX11, "puts", "(III)V"⟩
abbrev cX11_drops : ByteArray := prog_13_method_15_code
def yX11_drops : MethodName := ⟨RX11, "drops", "(II)V"⟩
abbrev cX11_total : ByteArray := prog_13_method_16_code
def yX11_total : MethodName := ⟨RX11, "total", "()I"⟩
abbrev cX11_twins : ByteArray := prog_13_method_17_code
def yX11_twins : MethodName := ⟨RX11, "twins", "(II)I"⟩
abbrev cX11_counted : ByteArray := prog_13_method_18_code
def yX11_counted : MethodName := ⟨RX11, "counted", "(III)I"⟩
abbrev cX11_laysRow : ByteArray := prog_13_method_19_code
def yX11_laysRow : MethodName := ⟨RX11, "laysRow", "(I)V"⟩
abbrev cX11_priority : ByteArray := prog_13_method_20_code
def yX11_priority : MethodName := ⟨RX11, "priority", "(I)I"⟩
abbrev cX11_ahead : ByteArray := prog_13_method_21_code
def yX11_ahead : MethodName := ⟨RX11, "ahead", "(II)I"⟩
abbrev cX11_goesTo : ByteArray := prog_13_method_22_code
def yX11_goesTo : MethodName := ⟨RX11, "goesTo", "(I)V"⟩
abbrev cX11_depth : ByteArray := prog_13_method_23_code
def yX11_depth : MethodName := ⟨RX11, "depth", "(I)I"⟩
abbrev cX11_high : ByteArray := prog_13_method_24_code
def yX11_high : MethodName := ⟨RX11, "high", "()I"⟩
abbrev cX11_farOf : ByteArray := prog_13_method_25_code
def yX11_farOf : MethodName := ⟨RX11, "farOf", "(II)I"⟩
abbrev cX11_endsRun : ByteArray := prog_13_method_26_code
def yX11_endsRun : MethodName := ⟨RX11, "endsRun", "()V"⟩
abbrev cX11_goes : ByteArray := prog_13_method_27_code
def yX11_goes : MethodName := ⟨RX11, "goes", "(I)V"⟩
abbrev cX11_laysRuns : ByteArray := prog_13_method_28_code
def yX11_laysRuns : MethodName := ⟨RX11, "laysRuns", "(II)V"⟩
abbrev cX11_areTwo : ByteArray := prog_13_method_29_code
def yX11_areTwo : MethodName := ⟨RX11, "areTwo", "(II)Z"⟩
abbrev cX11_refusesPut : ByteArray := prog_13_method_30_code
def yX11_refusesPut : MethodName := ⟨RX11, "refusesPut", "(II)I"⟩
abbrev cX11_refusesCut : ByteArray := prog_13_method_31_code
def yX11_refusesCut : MethodName := ⟨RX11, "refusesCut", "(III)I"⟩
abbrev cX11_refusesJoin : ByteArray := prog_13_method_32_code
def yX11_refusesJoin : MethodName := ⟨RX11, "refusesJoin", "(II)I"⟩
abbrev cX11_refusesMelt : ByteArray := prog_13_method_33_code
def yX11_refusesMelt : MethodName := ⟨RX11, "refusesMelt", "(II)I"⟩
abbrev cX11_refusesShift : ByteArray := prog_13_method_34_code
def yX11_refusesShift : MethodName := ⟨RX11, "refusesShift", "(II)I"⟩
abbrev cX11_refusesMove : ByteArray := prog_13_method_35_code
def yX11_refusesMove : MethodName := ⟨RX11, "refusesMove", "(IIII)I"⟩
abbrev cX11_marked : ByteArray := prog_13_method_36_code
def yX11_marked : MethodName := ⟨RX11, "marked", "(IIIIZ)I"⟩
abbrev cX11_refusesMark : ByteArray := prog_13_method_37_code
def yX11_refusesMark : MethodName := ⟨RX11, "refusesMark", "(IIII)I"⟩
abbrev cX11_goOver : ByteArray := prog_13_method_38_code
def yX11_goOver : MethodName := ⟨RX11, "goOver", "(IIII)I"⟩
abbrev cX11_shifts : ByteArray := prog_13_method_39_code
def yX11_shifts : MethodName := ⟨RX11, "shifts", "(II)V"⟩
abbrev cX11_keeps : ByteArray := prog_13_method_40_code
def yX11_keeps : MethodName := ⟨RX11, "keeps", "()V"⟩
abbrev cX11_begins : ByteArray := prog_13_method_41_code
def yX11_begins : MethodName := ⟨RX11, "begins", "(I)I"⟩
abbrev cX11_put : ByteArray := prog_13_method_42_code
def yX11_put : MethodName := ⟨RX11, "put", "(II)I"⟩
abbrev cX11_drop : ByteArray := prog_13_method_43_code
def yX11_drop : MethodName := ⟨RX11, "drop", "(II)I"⟩
abbrev cX11_cut : ByteArray := prog_13_method_44_code
def yX11_cut : MethodName := ⟨RX11, "cut", "(III)I"⟩
abbrev cX11_join : ByteArray := prog_13_method_45_code
def yX11_join : MethodName := ⟨RX11, "join", "(II)I"⟩
abbrev cX11_melt : ByteArray := prog_13_method_46_code
def yX11_melt : MethodName := ⟨RX11, "melt", "(II)I"⟩
abbrev cX11_shift : ByteArray := prog_13_method_47_code
def yX11_shift : MethodName := ⟨RX11, "shift", "(II)I"⟩
abbrev cX11_move : ByteArray := prog_13_method_48_code
def yX11_move : MethodName := ⟨RX11, "move", "(IIII)I"⟩
abbrev cX11_mark : ByteArray := prog_13_method_49_code
def yX11_mark : MethodName := ⟨RX11, "mark", "(IIIZ)I"⟩
abbrev cX11_seek : ByteArray := prog_13_method_50_code
def yX11_seek : MethodName := ⟨RX11, "seek", "(II)I"⟩
abbrev cX11_undo : ByteArray := prog_13_method_51_code
def yX11_undo : MethodName := ⟨RX11, "undo", "()I"⟩
abbrev cX11_summed : ByteArray := prog_13_method_52_code
def yX11_summed : MethodName := ⟨RX11, "summed", "(II)I"⟩
abbrev cX11_set : ByteArray := prog_13_method_53_code
def yX11_set : MethodName := ⟨RX11, "set", "(II)I"⟩
abbrev cX11_key : ByteArray := prog_13_method_54_code
def yX11_key : MethodName := ⟨RX11, "key", "(II)I"⟩
abbrev cX11_keyOf : ByteArray := prog_13_method_55_code
def yX11_keyOf : MethodName := ⟨RX11, "keyOf", "(I)I"⟩
abbrev cX11_of : ByteArray := prog_13_method_56_code
def yX11_of : MethodName := ⟨RX11, "of", "(III)I"⟩
abbrev cX11_within : ByteArray := prog_13_method_57_code
def yX11_within : MethodName := ⟨RX11, "within", "(IIIZ)I"⟩
abbrev cX11_far : ByteArray := prog_13_method_58_code
def yX11_far : MethodName := ⟨RX11, "far", "(III)I"⟩
abbrev cX11_where : ByteArray := prog_13_method_59_code
def yX11_where : MethodName := ⟨RX11, "where", "(I)I"⟩
abbrev cX11_unlike : ByteArray := prog_13_method_60_code
def yX11_unlike : MethodName := ⟨RX11, "unlike", "()I"⟩
abbrev cX11_fewest : ByteArray := prog_13_method_61_code
def yX11_fewest : MethodName := ⟨RX11, "fewest", "(I)I"⟩
abbrev cX11_huffman : ByteArray := prog_13_method_62_code
def yX11_huffman : MethodName := ⟨RX11, "huffman", "()I"⟩
abbrev cX11_count : ByteArray := prog_13_method_63_code
def yX11_count : MethodName := ⟨RX11, "count", "(I)I"⟩
abbrev cX11_pair : ByteArray := prog_13_method_64_code
def yX11_pair : MethodName := ⟨RX11, "pair", "(III)I"⟩
abbrev cX11_cheapest : ByteArray := prog_13_method_65_code
def yX11_cheapest : MethodName := ⟨RX11, "cheapest", "(I)I"⟩
abbrev cX11_merged : ByteArray := prog_13_method_66_code
def yX11_merged : MethodName := ⟨RX11, "merged", "(I)I"⟩
abbrev cX11_would : ByteArray := prog_13_method_67_code
def yX11_would : MethodName := ⟨RX11, "would", "(IIZ)I"⟩
abbrev cX11_halves : ByteArray := prog_13_method_68_code
def yX11_halves : MethodName := ⟨RX11, "halves", "(I)I"⟩
abbrev cX11_tells : ByteArray := prog_13_method_69_code
def yX11_tells : MethodName := ⟨RX11, "tells", "(I)V"⟩
abbrev cX11_number : ByteArray := prog_13_method_70_code
def yX11_number : MethodName := ⟨RX11, "number", "(I)V"⟩
abbrev cX11_tell : ByteArray := prog_13_method_71_code
def yX11_tell : MethodName := ⟨RX11, "tell", "(I)I"⟩
abbrev cX11_octet : ByteArray := prog_13_method_72_code
def yX11_octet : MethodName := ⟨RX11, "octet", "(I)I"⟩
abbrev cX11_feed : ByteArray := prog_13_method_73_code
def yX11_feed : MethodName := ⟨RX11, "feed", "(IIIII)I"⟩
abbrev cX11_end : ByteArray := prog_13_method_74_code
def yX11_end : MethodName := ⟨RX11, "end", "(I)I"⟩
abbrev cX11_fault : ByteArray := prog_13_method_75_code
def yX11_fault : MethodName := ⟨RX11, "fault", "(I)I"⟩
abbrev cX11_byteAt : ByteArray := prog_13_method_76_code
def yX11_byteAt : MethodName := ⟨RX11, "byteAt", "(I)I"⟩
abbrev cX11_isLetter : ByteArray := prog_13_method_77_code
def yX11_isLetter : MethodName := ⟨RX11, "isLetter", "(I)Z"⟩
abbrev cX11_isDigit : ByteArray := prog_13_method_78_code
def yX11_isDigit : MethodName := ⟨RX11, "isDigit", "(I)Z"⟩
abbrev cX11_takes : ByteArray := prog_13_method_79_code
def yX11_takes : MethodName := ⟨RX11, "takes", "()V"⟩
abbrev cX11_fails : ByteArray := prog_13_method_80_code
def yX11_fails : MethodName := ⟨RX11, "fails", "(II)V"⟩
abbrev cX11_isGood : ByteArray := prog_13_method_81_code
def yX11_isGood : MethodName := ⟨RX11, "isGood", "()Z"⟩
abbrev cX11_hasWord : ByteArray := prog_13_method_82_code
def yX11_hasWord : MethodName := ⟨RX11, "hasWord", "(J)Z"⟩
abbrev cX11_hasSign : ByteArray := prog_13_method_83_code
def yX11_hasSign : MethodName := ⟨RX11, "hasSign", "(I)Z"⟩
abbrev cX11_numeral : ByteArray := prog_13_method_84_code
def yX11_numeral : MethodName := ⟨RX11, "numeral", "()I"⟩
abbrev cX11_setNumber : ByteArray := prog_13_method_85_code
def yX11_setNumber : MethodName := ⟨RX11, "setNumber", "()I"⟩
abbrev cX11_readsKeys : ByteArray := prog_13_method_86_code
def yX11_readsKeys : MethodName := ⟨RX11, "readsKeys", "(I)V"⟩
abbrev cX11_readsSet : ByteArray := prog_13_method_87_code
def yX11_readsSet : MethodName := ⟨RX11, "readsSet", "()V"⟩
abbrev cX11_ends : ByteArray := prog_13_method_88_code
def yX11_ends : MethodName := ⟨RX11, "ends", "()V"⟩
abbrev cX11_readsAct : ByteArray := prog_13_method_89_code
def yX11_readsAct : MethodName := ⟨RX11, "readsAct", "(J)I"⟩
abbrev cX11_readsLine : ByteArray := prog_13_method_90_code
def yX11_readsLine : MethodName := ⟨RX11, "readsLine", "()V"⟩
abbrev cX11_text : ByteArray := prog_13_method_91_code
def yX11_text : MethodName := ⟨RX11, "text", "()I"⟩
abbrev cX11_image : ByteArray := prog_13_method_92_code
def yX11_image : MethodName := ⟨RX11, "image", "(I)Z"⟩
abbrev cX11_again : ByteArray := prog_13_method_93_code
def yX11_again : MethodName := ⟨RX11, "again", "(I)Z"⟩
def RJ6 : String := "java/lang/Integer"
abbrev cJ6_compare_7cf53 : ByteArray := prog_14_method_40_code
def yJ6_compare_7cf53 : MethodName := ⟨RJ6, "compare", "(II)I"⟩
def RJ9 : String := "java/lang/Math"
abbrev cJ9_max_7cf53 : ByteArray := prog_15_method_65_code
def yJ9_max_7cf53 : MethodName := ⟨RJ9, "max", "(II)I"⟩
abbrev cJ9_min_7cf53 : ByteArray := prog_15_method_69_code
def yJ9_min_7cf53 : MethodName := ⟨RJ9, "min", "(II)I"⟩
def RJ0 : String := "java/lang/String"
abbrev cJ0_length_8abf5 : ByteArray := prog_16_method_54_code
def yJ0_length_8abf5 : MethodName := ⟨RJ0, "length", "()I"⟩
abbrev cJ0_charAt_5068e : ByteArray := prog_16_method_56_code
def yJ0_charAt_5068e : MethodName := ⟨RJ0, "charAt", "(I)C"⟩
abbrev cJ0_coder_7d493 : ByteArray := prog_16_method_152_code
def yJ0_coder_7d493 : MethodName := ⟨RJ0, "coder", "()B"⟩
abbrev cJ0_isLatin1_aae02 : ByteArray := prog_16_method_154_code
def yJ0_isLatin1_aae02 : MethodName := ⟨RJ0, "isLatin1", "()Z"⟩
abbrev cJ0_checkIndex_df160 : ByteArray := prog_16_method_155_code
def yJ0_checkIndex_df160 : MethodName := ⟨RJ0, "checkIndex", "(II)V"⟩
def RJ1 : String := "java/lang/StringLatin1"
abbrev cJ1_charAt_3b067 : ByteArray := prog_17_method_2_code
def yJ1_charAt_3b067 : MethodName := ⟨RJ1, "charAt", "([BI)C"⟩
def RJ2 : String := "java/lang/StringUTF16"
abbrev cJ2_getChar_3b067 : ByteArray := prog_18_method_5_code
def yJ2_getChar_3b067 : MethodName := ⟨RJ2, "getChar", "([BI)C"⟩
abbrev cJ2_length_9d52b : ByteArray := prog_18_method_6_code
def yJ2_length_9d52b : MethodName := ⟨RJ2, "length", "([B)I"⟩
abbrev cJ2_charAt_3b067 : ByteArray := prog_18_method_83_code
def yJ2_charAt_3b067 : MethodName := ⟨RJ2, "charAt", "([BI)C"⟩
abbrev cJ2_checkIndex_2214a : ByteArray := prog_18_method_91_code
def yJ2_checkIndex_2214a : MethodName := ⟨RJ2, "checkIndex", "(I[B)V"⟩
def RJ10 : String := "java/lang/System"
def RJ3 : String := "jdk/internal/util/Preconditions"
abbrev cJ3_checkIndex_8e157 : ByteArray := prog_20_method_11_code
def yJ3_checkIndex_8e157 : MethodName := ⟨RJ3, "checkIndex", "(IILjava/util/function/BiFunction;)I"⟩
def RL : String := "MeltingHeapsLaw"
abbrev cL_law : ByteArray := code
def yL_law : MethodName := ⟨RL, "law", "([I)Z"⟩
abbrev vwCl : List vw_C := [(RX0, TX0, 3), (RX1, TX1, 6), (RX2, TX2, 2), (RX3, TX3, 3), (RX4, TX4, 2), (RX5, TX5, 9), (RX6, TX6, 3), (RX7, TX7, 8), (RX8, TX8, 9), (RX9, TX9, 5), (RX10, TX10, 9), (RX11, TX11, 27)]
end
section
theorem dX0_init_0 : decode cX0_init 0 = .ok (.aload_n 0, 1) := by decide +kernel
theorem dX0_init_1 : decode cX0_init 1 = .ok (.invokespecial 3, 3) := by decide +kernel
theorem dX0_init_4 : decode cX0_init 4 = .ok (.aload_n 0, 1) := by decide +kernel
theorem dX0_init_5 : decode cX0_init 5 = .ok (.bipush 60, 2) := by decide +kernel
theorem dX0_init_7 : decode cX0_init 7 = .ok (.newarray .int, 2) := by decide +kernel
theorem dX0_init_9 : decode cX0_init 9 = .ok (.putfield 9, 3) := by decide +kernel
theorem dX0_init_12 : decode cX0_init 12 = .ok (.aload_n 0, 1) := by decide +kernel
theorem dX0_init_13 : decode cX0_init 13 = .ok (.iconst 0, 1) := by decide +kernel
theorem dX0_init_14 : decode cX0_init 14 = .ok (.putfield 15, 3) := by decide +kernel
theorem dX0_init_17 : decode cX0_init 17 = .ok (.aload_n 0, 1) := by decide +kernel
theorem dX0_init_18 : decode cX0_init 18 = .ok (.iconst (-1), 1) := by decide +kernel
theorem dX0_init_19 : decode cX0_init 19 = .ok (.putfield 19, 3) := by decide +kernel
theorem dX0_init_22 : decode cX0_init 22 = .ok (.return_, 1) := by decide +kernel
theorem dX0_empty_0 : decode cX0_empty 0 = .ok (.aload_n 0, 1) := by decide +kernel
theorem dX0_empty_1 : decode cX0_empty 1 = .ok (.iconst 0, 1) := by decide +kernel
theorem dX0_empty_2 : decode cX0_empty 2 = .ok (.putfield 15, 3) := by decide +kernel
theorem dX0_empty_5 : decode cX0_empty 5 = .ok (.aload_n 0, 1) := by decide +kernel
theorem dX0_empty_6 : decode cX0_empty 6 = .ok (.iconst (-1), 1) := by decide +kernel
theorem dX0_empty_7 : decode cX0_empty 7 = .ok (.putfield 19, 3) := by decide +kernel
theorem dX0_empty_10 : decode cX0_empty 10 = .ok (.return_, 1) := by decide +kernel
theorem dX0_keyAt_0 : decode cX0_keyAt 0 = .ok (.iload_n 1, 1) := by decide +kernel
theorem dX0_keyAt_1 : decode cX0_keyAt 1 = .ok (.ifCond .lt 22, 3) := by decide +kernel
theorem dX0_keyAt_4 : decode cX0_keyAt 4 = .ok (.iload_n 1, 1) := by decide +kernel
theorem dX0_keyAt_5 : decode cX0_keyAt 5 = .ok (.aload_n 0, 1) := by decide +kernel
theorem dX0_keyAt_6 : decode cX0_keyAt 6 = .ok (.getfield 15, 3) := by decide +kernel
theorem dX0_keyAt_9 : decode cX0_keyAt 9 = .ok (.if_icmp .ge 14, 3) := by decide +kernel
theorem dX0_keyAt_12 : decode cX0_keyAt 12 = .ok (.aload_n 0, 1) := by decide +kernel
theorem dX0_keyAt_13 : decode cX0_keyAt 13 = .ok (.getfield 9, 3) := by decide +kernel
theorem dX0_keyAt_16 : decode cX0_keyAt 16 = .ok (.iload_n 1, 1) := by decide +kernel
theorem dX0_keyAt_17 : decode cX0_keyAt 17 = .ok (.iaload, 1) := by decide +kernel
theorem dX0_keyAt_18 : decode cX0_keyAt 18 = .ok (.iconst 1, 1) := by decide +kernel
theorem dX0_keyAt_19 : decode cX0_keyAt 19 = .ok (.ishr, 1) := by decide +kernel
theorem dX0_keyAt_20 : decode cX0_keyAt 20 = .ok (.goto 4, 3) := by decide +kernel
theorem dX0_keyAt_23 : decode cX0_keyAt 23 = .ok (.iconst (-1), 1) := by decide +kernel
theorem dX0_keyAt_24 : decode cX0_keyAt 24 = .ok (.ireturn, 1) := by decide +kernel
theorem dX0_markAt_0 : decode cX0_markAt 0 = .ok (.iload_n 1, 1) := by decide +kernel
theorem dX0_markAt_1 : decode cX0_markAt 1 = .ok (.ifCond .lt 22, 3) := by decide +kernel
theorem dX0_markAt_4 : decode cX0_markAt 4 = .ok (.iload_n 1, 1) := by decide +kernel
theorem dX0_markAt_5 : decode cX0_markAt 5 = .ok (.aload_n 0, 1) := by decide +kernel
theorem dX0_markAt_6 : decode cX0_markAt 6 = .ok (.getfield 15, 3) := by decide +kernel
theorem dX0_markAt_9 : decode cX0_markAt 9 = .ok (.if_icmp .ge 14, 3) := by decide +kernel
theorem dX0_markAt_12 : decode cX0_markAt 12 = .ok (.aload_n 0, 1) := by decide +kernel
theorem dX0_markAt_13 : decode cX0_markAt 13 = .ok (.getfield 9, 3) := by decide +kernel
theorem dX0_markAt_16 : decode cX0_markAt 16 = .ok (.iload_n 1, 1) := by decide +kernel
theorem dX0_markAt_17 : decode cX0_markAt 17 = .ok (.iaload, 1) := by decide +kernel
theorem dX0_markAt_18 : decode cX0_markAt 18 = .ok (.iconst 1, 1) := by decide +kernel
theorem dX0_markAt_19 : decode cX0_markAt 19 = .ok (.iand, 1) := by decide +kernel
theorem dX0_markAt_20 : decode cX0_markAt 20 = .ok (.goto 4, 3) := by decide +kernel
theorem dX0_markAt_23 : decode cX0_markAt 23 = .ok (.iconst 0, 1) := by decide +kernel
theorem dX0_markAt_24 : decode cX0_markAt 24 = .ok (.ireturn, 1) := by decide +kernel
theorem dX0_below_0 : decode cX0_below 0 = .ok (.iconst 0, 1) := by decide +kernel
theorem dX0_below_1 : decode cX0_below 1 = .ok (.istore_n 2, 1) := by decide +kernel
theorem dX0_below_2 : decode cX0_below 2 = .ok (.iload_n 2, 1) := by decide +kernel
theorem dX0_below_3 : decode cX0_below 3 = .ok (.aload_n 0, 1) := by decide +kernel
theorem dX0_below_4 : decode cX0_below 4 = .ok (.getfield 15, 3) := by decide +kernel
theorem dX0_below_7 : decode cX0_below 7 = .ok (.if_icmp .ge 21, 3) := by decide +kernel
theorem dX0_below_10 : decode cX0_below 10 = .ok (.aload_n 0, 1) := by decide +kernel
theorem dX0_below_11 : decode cX0_below 11 = .ok (.getfield 9, 3) := by decide +kernel
theorem dX0_below_14 : decode cX0_below 14 = .ok (.iload_n 2, 1) := by decide +kernel
theorem dX0_below_15 : decode cX0_below 15 = .ok (.iaload, 1) := by decide +kernel
theorem dX0_below_16 : decode cX0_below 16 = .ok (.iconst 1, 1) := by decide +kernel
theorem dX0_below_17 : decode cX0_below 17 = .ok (.ishr, 1) := by decide +kernel
theorem dX0_below_18 : decode cX0_below 18 = .ok (.iload_n 1, 1) := by decide +kernel
theorem dX0_below_19 : decode cX0_below 19 = .ok (.if_icmp .ge 9, 3) := by decide +kernel
theorem dX0_below_22 : decode cX0_below 22 = .ok (.iinc 2 1, 3) := by decide +kernel
theorem dX0_below_25 : decode cX0_below 25 = .ok (.goto (-23), 3) := by decide +kernel
theorem dX0_below_28 : decode cX0_below 28 = .ok (.iload_n 2, 1) := by decide +kernel
theorem dX0_below_29 : decode cX0_below 29 = .ok (.ireturn, 1) := by decide +kernel
theorem dX0_notAbove_0 : decode cX0_notAbove 0 = .ok (.iconst 0, 1) := by decide +kernel
theorem dX0_notAbove_1 : decode cX0_notAbove 1 = .ok (.istore_n 2, 1) := by decide +kernel
theorem dX0_notAbove_2 : decode cX0_notAbove 2 = .ok (.iload_n 2, 1) := by decide +kernel
theorem dX0_notAbove_3 : decode cX0_notAbove 3 = .ok (.aload_n 0, 1) := by decide +kernel
theorem dX0_notAbove_4 : decode cX0_notAbove 4 = .ok (.getfield 15, 3) := by decide +kernel
theorem dX0_notAbove_7 : decode cX0_notAbove 7 = .ok (.if_icmp .ge 21, 3) := by decide +kernel
theorem dX0_notAbove_10 : decode cX0_notAbove 10 = .ok (.aload_n 0, 1) := by decide +kernel
theorem dX0_notAbove_11 : decode cX0_notAbove 11 = .ok (.getfield 9, 3) := by decide +kernel
theorem dX0_notAbove_14 : decode cX0_notAbove 14 = .ok (.iload_n 2, 1) := by decide +kernel
theorem dX0_notAbove_15 : decode cX0_notAbove 15 = .ok (.iaload, 1) := by decide +kernel
theorem dX0_notAbove_16 : decode cX0_notAbove 16 = .ok (.iconst 1, 1) := by decide +kernel
theorem dX0_notAbove_17 : decode cX0_notAbove 17 = .ok (.ishr, 1) := by decide +kernel
theorem dX0_notAbove_18 : decode cX0_notAbove 18 = .ok (.iload_n 1, 1) := by decide +kernel
theorem dX0_notAbove_19 : decode cX0_notAbove 19 = .ok (.if_icmp .gt 9, 3) := by decide +kernel
theorem dX0_notAbove_22 : decode cX0_notAbove 22 = .ok (.iinc 2 1, 3) := by decide +kernel
theorem dX0_notAbove_25 : decode cX0_notAbove 25 = .ok (.goto (-23), 3) := by decide +kernel
theorem dX0_notAbove_28 : decode cX0_notAbove 28 = .ok (.iload_n 2, 1) := by decide +kernel
theorem dX0_notAbove_29 : decode cX0_notAbove 29 = .ok (.ireturn, 1) := by decide +kernel
theorem dX0_rankOf_0 : decode cX0_rankOf 0 = .ok (.aload_n 0, 1) := by decide +kernel
theorem dX0_rankOf_1 : decode cX0_rankOf 1 = .ok (.iload_n 1, 1) := by decide +kernel
theorem dX0_rankOf_2 : decode cX0_rankOf 2 = .ok (.invokevirtual 22, 3) := by decide +kernel
theorem dX0_rankOf_5 : decode cX0_rankOf 5 = .ok (.istore_n 2, 1) := by decide +kernel
theorem dX0_rankOf_6 : decode cX0_rankOf 6 = .ok (.iload_n 2, 1) := by decide +kernel
theorem dX0_rankOf_7 : decode cX0_rankOf 7 = .ok (.aload_n 0, 1) := by decide +kernel
theorem dX0_rankOf_8 : decode cX0_rankOf 8 = .ok (.getfield 15, 3) := by decide +kernel
theorem dX0_rankOf_11 : decode cX0_rankOf 11 = .ok (.if_icmp .ge 19, 3) := by decide +kernel
theorem dX0_rankOf_14 : decode cX0_rankOf 14 = .ok (.aload_n 0, 1) := by decide +kernel
theorem dX0_rankOf_15 : decode cX0_rankOf 15 = .ok (.getfield 9, 3) := by decide +kernel
theorem dX0_rankOf_18 : decode cX0_rankOf 18 = .ok (.iload_n 2, 1) := by decide +kernel
theorem dX0_rankOf_19 : decode cX0_rankOf 19 = .ok (.iaload, 1) := by decide +kernel
theorem dX0_rankOf_20 : decode cX0_rankOf 20 = .ok (.iconst 1, 1) := by decide +kernel
theorem dX0_rankOf_21 : decode cX0_rankOf 21 = .ok (.ishr, 1) := by decide +kernel
theorem dX0_rankOf_22 : decode cX0_rankOf 22 = .ok (.iload_n 1, 1) := by decide +kernel
theorem dX0_rankOf_23 : decode cX0_rankOf 23 = .ok (.if_icmp .ne 7, 3) := by decide +kernel
theorem dX0_rankOf_26 : decode cX0_rankOf 26 = .ok (.iload_n 2, 1) := by decide +kernel
theorem dX0_rankOf_27 : decode cX0_rankOf 27 = .ok (.goto 4, 3) := by decide +kernel
theorem dX0_rankOf_30 : decode cX0_rankOf 30 = .ok (.iconst (-1), 1) := by decide +kernel
theorem dX0_rankOf_31 : decode cX0_rankOf 31 = .ok (.ireturn, 1) := by decide +kernel
theorem dX0_howManyBetween_0 : decode cX0_howManyBetween 0 = .ok (.iconst 0, 1) := by decide +kernel
theorem dX0_howManyBetween_1 : decode cX0_howManyBetween 1 = .ok (.aload_n 0, 1) := by decide +kernel
theorem dX0_howManyBetween_2 : decode cX0_howManyBetween 2 = .ok (.iload_n 2, 1) := by decide +kernel
theorem dX0_howManyBetween_3 : decode cX0_howManyBetween 3 = .ok (.invokevirtual 26, 3) := by decide +kernel
theorem dX0_howManyBetween_6 : decode cX0_howManyBetween 6 = .ok (.aload_n 0, 1) := by decide +kernel
theorem dX0_howManyBetween_7 : decode cX0_howManyBetween 7 = .ok (.iload_n 1, 1) := by decide +kernel
theorem dX0_howManyBetween_8 : decode cX0_howManyBetween 8 = .ok (.invokevirtual 22, 3) := by decide +kernel
theorem dX0_howManyBetween_11 : decode cX0_howManyBetween 11 = .ok (.isub, 1) := by decide +kernel
theorem dX0_howManyBetween_12 : decode cX0_howManyBetween 12 = .ok (.invokestatic 29, 3) := by decide +kernel
theorem dX0_howManyBetween_15 : decode cX0_howManyBetween 15 = .ok (.ireturn, 1) := by decide +kernel
theorem dX0_markedBetween_0 : decode cX0_markedBetween 0 = .ok (.aload_n 0, 1) := by decide +kernel
theorem dX0_markedBetween_1 : decode cX0_markedBetween 1 = .ok (.iload_n 2, 1) := by decide +kernel
theorem dX0_markedBetween_2 : decode cX0_markedBetween 2 = .ok (.invokevirtual 26, 3) := by decide +kernel
theorem dX0_markedBetween_5 : decode cX0_markedBetween 5 = .ok (.istore_n 3, 1) := by decide +kernel
theorem dX0_markedBetween_6 : decode cX0_markedBetween 6 = .ok (.iconst 0, 1) := by decide +kernel
theorem dX0_markedBetween_7 : decode cX0_markedBetween 7 = .ok (.istore 4, 2) := by decide +kernel
theorem dX0_markedBetween_9 : decode cX0_markedBetween 9 = .ok (.aload_n 0, 1) := by decide +kernel
theorem dX0_markedBetween_10 : decode cX0_markedBetween 10 = .ok (.iload_n 1, 1) := by decide +kernel
theorem dX0_markedBetween_11 : decode cX0_markedBetween 11 = .ok (.invokevirtual 22, 3) := by decide +kernel
theorem dX0_markedBetween_14 : decode cX0_markedBetween 14 = .ok (.istore 5, 2) := by decide +kernel
theorem dX0_markedBetween_16 : decode cX0_markedBetween 16 = .ok (.iload 5, 2) := by decide +kernel
theorem dX0_markedBetween_18 : decode cX0_markedBetween 18 = .ok (.iload_n 3, 1) := by decide +kernel
theorem dX0_markedBetween_19 : decode cX0_markedBetween 19 = .ok (.if_icmp .ge 20, 3) := by decide +kernel
theorem dX0_markedBetween_22 : decode cX0_markedBetween 22 = .ok (.iload 4, 2) := by decide +kernel
theorem dX0_markedBetween_24 : decode cX0_markedBetween 24 = .ok (.aload_n 0, 1) := by decide +kernel
theorem dX0_markedBetween_25 : decode cX0_markedBetween 25 = .ok (.iload 5, 2) := by decide +kernel
theorem dX0_markedBetween_27 : decode cX0_markedBetween 27 = .ok (.invokevirtual 35, 3) := by decide +kernel
theorem dX0_markedBetween_30 : decode cX0_markedBetween 30 = .ok (.iadd, 1) := by decide +kernel
theorem dX0_markedBetween_31 : decode cX0_markedBetween 31 = .ok (.istore 4, 2) := by decide +kernel
theorem dX0_markedBetween_33 : decode cX0_markedBetween 33 = .ok (.iinc 5 1, 3) := by decide +kernel
theorem dX0_markedBetween_36 : decode cX0_markedBetween 36 = .ok (.goto (-20), 3) := by decide +kernel
theorem dX0_markedBetween_39 : decode cX0_markedBetween 39 = .ok (.iload 4, 2) := by decide +kernel
theorem dX0_markedBetween_41 : decode cX0_markedBetween 41 = .ok (.ireturn, 1) := by decide +kernel
theorem dX0_leastDifference_0 : decode cX0_leastDifference 0 = .ok (.iconst (-1), 1) := by decide +kernel
theorem dX0_leastDifference_1 : decode cX0_leastDifference 1 = .ok (.istore_n 1, 1) := by decide +kernel
theorem dX0_leastDifference_2 : decode cX0_leastDifference 2 = .ok (.iconst 1, 1) := by decide +kernel
theorem dX0_leastDifference_3 : decode cX0_leastDifference 3 = .ok (.istore_n 2, 1) := by decide +kernel
theorem dX0_leastDifference_4 : decode cX0_leastDifference 4 = .ok (.iload_n 2, 1) := by decide +kernel
theorem dX0_leastDifference_5 : decode cX0_leastDifference 5 = .ok (.aload_n 0, 1) := by decide +kernel
theorem dX0_leastDifference_6 : decode cX0_leastDifference 6 = .ok (.getfield 15, 3) := by decide +kernel
theorem dX0_leastDifference_9 : decode cX0_leastDifference 9 = .ok (.if_icmp .ge 38, 3) := by decide +kernel
theorem dX0_leastDifference_12 : decode cX0_leastDifference 12 = .ok (.aload_n 0, 1) := by decide +kernel
theorem dX0_leastDifference_13 : decode cX0_leastDifference 13 = .ok (.iload_n 2, 1) := by decide +kernel
theorem dX0_leastDifference_14 : decode cX0_leastDifference 14 = .ok (.invokevirtual 38, 3) := by decide +kernel
theorem dX0_leastDifference_17 : decode cX0_leastDifference 17 = .ok (.aload_n 0, 1) := by decide +kernel
theorem dX0_leastDifference_18 : decode cX0_leastDifference 18 = .ok (.iload_n 2, 1) := by decide +kernel
theorem dX0_leastDifference_19 : decode cX0_leastDifference 19 = .ok (.iconst 1, 1) := by decide +kernel
theorem dX0_leastDifference_20 : decode cX0_leastDifference 20 = .ok (.isub, 1) := by decide +kernel
theorem dX0_leastDifference_21 : decode cX0_leastDifference 21 = .ok (.invokevirtual 38, 3) := by decide +kernel
theorem dX0_leastDifference_24 : decode cX0_leastDifference 24 = .ok (.isub, 1) := by decide +kernel
theorem dX0_leastDifference_25 : decode cX0_leastDifference 25 = .ok (.istore_n 3, 1) := by decide +kernel
theorem dX0_leastDifference_26 : decode cX0_leastDifference 26 = .ok (.iload_n 1, 1) := by decide +kernel
theorem dX0_leastDifference_27 : decode cX0_leastDifference 27 = .ok (.iconst (-1), 1) := by decide +kernel
theorem dX0_leastDifference_28 : decode cX0_leastDifference 28 = .ok (.if_icmp .ne 7, 3) := by decide +kernel
theorem dX0_leastDifference_31 : decode cX0_leastDifference 31 = .ok (.iload_n 3, 1) := by decide +kernel
theorem dX0_leastDifference_32 : decode cX0_leastDifference 32 = .ok (.goto 8, 3) := by decide +kernel
theorem dX0_leastDifference_35 : decode cX0_leastDifference 35 = .ok (.iload_n 1, 1) := by decide +kernel
theorem dX0_leastDifference_36 : decode cX0_leastDifference 36 = .ok (.iload_n 3, 1) := by decide +kernel
theorem dX0_leastDifference_37 : decode cX0_leastDifference 37 = .ok (.invokestatic 41, 3) := by decide +kernel
theorem dX0_leastDifference_40 : decode cX0_leastDifference 40 = .ok (.istore_n 1, 1) := by decide +kernel
theorem dX0_leastDifference_41 : decode cX0_leastDifference 41 = .ok (.iinc 2 1, 3) := by decide +kernel
theorem dX0_leastDifference_44 : decode cX0_leastDifference 44 = .ok (.goto (-40), 3) := by decide +kernel
theorem dX0_leastDifference_47 : decode cX0_leastDifference 47 = .ok (.iload_n 1, 1) := by decide +kernel
theorem dX0_leastDifference_48 : decode cX0_leastDifference 48 = .ok (.ireturn, 1) := by decide +kernel
theorem dX0_stretches_0 : decode cX0_stretches 0 = .ok (.iconst 0, 1) := by decide +kernel
theorem dX0_stretches_1 : decode cX0_stretches 1 = .ok (.istore_n 1, 1) := by decide +kernel
theorem dX0_stretches_2 : decode cX0_stretches 2 = .ok (.iconst 0, 1) := by decide +kernel
theorem dX0_stretches_3 : decode cX0_stretches 3 = .ok (.istore_n 2, 1) := by decide +kernel
theorem dX0_stretches_4 : decode cX0_stretches 4 = .ok (.iload_n 2, 1) := by decide +kernel
theorem dX0_stretches_5 : decode cX0_stretches 5 = .ok (.aload_n 0, 1) := by decide +kernel
theorem dX0_stretches_6 : decode cX0_stretches 6 = .ok (.getfield 15, 3) := by decide +kernel
theorem dX0_stretches_9 : decode cX0_stretches 9 = .ok (.if_icmp .ge 33, 3) := by decide +kernel
theorem dX0_stretches_12 : decode cX0_stretches 12 = .ok (.iload_n 2, 1) := by decide +kernel
theorem dX0_stretches_13 : decode cX0_stretches 13 = .ok (.ifCond .eq 20, 3) := by decide +kernel
theorem dX0_stretches_16 : decode cX0_stretches 16 = .ok (.aload_n 0, 1) := by decide +kernel
theorem dX0_stretches_17 : decode cX0_stretches 17 = .ok (.iload_n 2, 1) := by decide +kernel
theorem dX0_stretches_18 : decode cX0_stretches 18 = .ok (.invokevirtual 38, 3) := by decide +kernel
theorem dX0_stretches_21 : decode cX0_stretches 21 = .ok (.aload_n 0, 1) := by decide +kernel
theorem dX0_stretches_22 : decode cX0_stretches 22 = .ok (.iload_n 2, 1) := by decide +kernel
theorem dX0_stretches_23 : decode cX0_stretches 23 = .ok (.iconst 1, 1) := by decide +kernel
theorem dX0_stretches_24 : decode cX0_stretches 24 = .ok (.isub, 1) := by decide +kernel
theorem dX0_stretches_25 : decode cX0_stretches 25 = .ok (.invokevirtual 38, 3) := by decide +kernel
theorem dX0_stretches_28 : decode cX0_stretches 28 = .ok (.isub, 1) := by decide +kernel
theorem dX0_stretches_29 : decode cX0_stretches 29 = .ok (.iconst 1, 1) := by decide +kernel
theorem dX0_stretches_30 : decode cX0_stretches 30 = .ok (.if_icmp .le 6, 3) := by decide +kernel
theorem dX0_stretches_33 : decode cX0_stretches 33 = .ok (.iinc 1 1, 3) := by decide +kernel
theorem dX0_stretches_36 : decode cX0_stretches 36 = .ok (.iinc 2 1, 3) := by decide +kernel
theorem dX0_stretches_39 : decode cX0_stretches 39 = .ok (.goto (-35), 3) := by decide +kernel
theorem dX0_stretches_42 : decode cX0_stretches 42 = .ok (.iload_n 1, 1) := by decide +kernel
theorem dX0_stretches_43 : decode cX0_stretches 43 = .ok (.ireturn, 1) := by decide +kernel
theorem dX0_sum_0 : decode cX0_sum 0 = .ok (.iconst 0, 1) := by decide +kernel
theorem dX0_sum_1 : decode cX0_sum 1 = .ok (.istore_n 1, 1) := by decide +kernel
theorem dX0_sum_2 : decode cX0_sum 2 = .ok (.iconst 0, 1) := by decide +kernel
theorem dX0_sum_3 : decode cX0_sum 3 = .ok (.istore_n 2, 1) := by decide +kernel
theorem dX0_sum_4 : decode cX0_sum 4 = .ok (.iload_n 2, 1) := by decide +kernel
theorem dX0_sum_5 : decode cX0_sum 5 = .ok (.aload_n 0, 1) := by decide +kernel
theorem dX0_sum_6 : decode cX0_sum 6 = .ok (.getfield 15, 3) := by decide +kernel
theorem dX0_sum_9 : decode cX0_sum 9 = .ok (.if_icmp .ge 17, 3) := by decide +kernel
theorem dX0_sum_12 : decode cX0_sum 12 = .ok (.iload_n 1, 1) := by decide +kernel
theorem dX0_sum_13 : decode cX0_sum 13 = .ok (.aload_n 0, 1) := by decide +kernel
theorem dX0_sum_14 : decode cX0_sum 14 = .ok (.iload_n 2, 1) := by decide +kernel
theorem dX0_sum_15 : decode cX0_sum 15 = .ok (.invokevirtual 38, 3) := by decide +kernel
theorem dX0_sum_18 : decode cX0_sum 18 = .ok (.iadd, 1) := by decide +kernel
theorem dX0_sum_19 : decode cX0_sum 19 = .ok (.istore_n 1, 1) := by decide +kernel
theorem dX0_sum_20 : decode cX0_sum 20 = .ok (.iinc 2 1, 3) := by decide +kernel
theorem dX0_sum_23 : decode cX0_sum 23 = .ok (.goto (-19), 3) := by decide +kernel
theorem dX0_sum_26 : decode cX0_sum 26 = .ok (.iload_n 1, 1) := by decide +kernel
theorem dX0_sum_27 : decode cX0_sum 27 = .ok (.ireturn, 1) := by decide +kernel
theorem dX0_lastToldWith_0 : decode cX0_lastToldWith 0 = .ok (.iload_n 1, 1) := by decide +kernel
theorem dX0_lastToldWith_1 : decode cX0_lastToldWith 1 = .ok (.iconst 0, 1) := by decide +kernel
theorem dX0_lastToldWith_2 : decode cX0_lastToldWith 2 = .ok (.invokestatic 29, 3) := by decide +kernel
theorem dX0_lastToldWith_5 : decode cX0_lastToldWith 5 = .ok (.istore_n 2, 1) := by decide +kernel
theorem dX0_lastToldWith_6 : decode cX0_lastToldWith 6 = .ok (.iload_n 2, 1) := by decide +kernel
theorem dX0_lastToldWith_7 : decode cX0_lastToldWith 7 = .ok (.iconst 1, 1) := by decide +kernel
theorem dX0_lastToldWith_8 : decode cX0_lastToldWith 8 = .ok (.iadd, 1) := by decide +kernel
theorem dX0_lastToldWith_9 : decode cX0_lastToldWith 9 = .ok (.aload_n 0, 1) := by decide +kernel
theorem dX0_lastToldWith_10 : decode cX0_lastToldWith 10 = .ok (.getfield 15, 3) := by decide +kernel
theorem dX0_lastToldWith_13 : decode cX0_lastToldWith 13 = .ok (.if_icmp .ge 28, 3) := by decide +kernel
theorem dX0_lastToldWith_16 : decode cX0_lastToldWith 16 = .ok (.aload_n 0, 1) := by decide +kernel
theorem dX0_lastToldWith_17 : decode cX0_lastToldWith 17 = .ok (.getfield 9, 3) := by decide +kernel
theorem dX0_lastToldWith_20 : decode cX0_lastToldWith 20 = .ok (.iload_n 2, 1) := by decide +kernel
theorem dX0_lastToldWith_21 : decode cX0_lastToldWith 21 = .ok (.iconst 1, 1) := by decide +kernel
theorem dX0_lastToldWith_22 : decode cX0_lastToldWith 22 = .ok (.iadd, 1) := by decide +kernel
theorem dX0_lastToldWith_23 : decode cX0_lastToldWith 23 = .ok (.iaload, 1) := by decide +kernel
theorem dX0_lastToldWith_24 : decode cX0_lastToldWith 24 = .ok (.aload_n 0, 1) := by decide +kernel
theorem dX0_lastToldWith_25 : decode cX0_lastToldWith 25 = .ok (.getfield 9, 3) := by decide +kernel
theorem dX0_lastToldWith_28 : decode cX0_lastToldWith 28 = .ok (.iload_n 2, 1) := by decide +kernel
theorem dX0_lastToldWith_29 : decode cX0_lastToldWith 29 = .ok (.iaload, 1) := by decide +kernel
theorem dX0_lastToldWith_30 : decode cX0_lastToldWith 30 = .ok (.isub, 1) := by decide +kernel
theorem dX0_lastToldWith_31 : decode cX0_lastToldWith 31 = .ok (.iconst 2, 1) := by decide +kernel
theorem dX0_lastToldWith_32 : decode cX0_lastToldWith 32 = .ok (.if_icmp .ne 9, 3) := by decide +kernel
theorem dX0_lastToldWith_35 : decode cX0_lastToldWith 35 = .ok (.iinc 2 1, 3) := by decide +kernel
theorem dX0_lastToldWith_38 : decode cX0_lastToldWith 38 = .ok (.goto (-32), 3) := by decide +kernel
theorem dX0_lastToldWith_41 : decode cX0_lastToldWith 41 = .ok (.iload_n 2, 1) := by decide +kernel
theorem dX0_lastToldWith_42 : decode cX0_lastToldWith 42 = .ok (.iload_n 1, 1) := by decide +kernel
theorem dX0_lastToldWith_43 : decode cX0_lastToldWith 43 = .ok (.isub, 1) := by decide +kernel
theorem dX0_lastToldWith_44 : decode cX0_lastToldWith 44 = .ok (.iconst 2, 1) := by decide +kernel
theorem dX0_lastToldWith_45 : decode cX0_lastToldWith 45 = .ok (.if_icmp .ge 7, 3) := by decide +kernel
theorem dX0_lastToldWith_48 : decode cX0_lastToldWith 48 = .ok (.iload_n 1, 1) := by decide +kernel
theorem dX0_lastToldWith_49 : decode cX0_lastToldWith 49 = .ok (.goto 4, 3) := by decide +kernel
theorem dX0_lastToldWith_52 : decode cX0_lastToldWith 52 = .ok (.iload_n 2, 1) := by decide +kernel
theorem dX0_lastToldWith_53 : decode cX0_lastToldWith 53 = .ok (.ireturn, 1) := by decide +kernel
theorem dX0_openGap_0 : decode cX0_openGap 0 = .ok (.iload_n 1, 1) := by decide +kernel
theorem dX0_openGap_1 : decode cX0_openGap 1 = .ok (.ifCond .lt 26, 3) := by decide +kernel
theorem dX0_openGap_4 : decode cX0_openGap 4 = .ok (.iload_n 1, 1) := by decide +kernel
theorem dX0_openGap_5 : decode cX0_openGap 5 = .ok (.aload_n 0, 1) := by decide +kernel
theorem dX0_openGap_6 : decode cX0_openGap 6 = .ok (.getfield 15, 3) := by decide +kernel
theorem dX0_openGap_9 : decode cX0_openGap 9 = .ok (.if_icmp .gt 18, 3) := by decide +kernel
theorem dX0_openGap_12 : decode cX0_openGap 12 = .ok (.iload_n 2, 1) := by decide +kernel
theorem dX0_openGap_13 : decode cX0_openGap 13 = .ok (.ifCond .lt 14, 3) := by decide +kernel
theorem dX0_openGap_16 : decode cX0_openGap 16 = .ok (.iload_n 2, 1) := by decide +kernel
theorem dX0_openGap_17 : decode cX0_openGap 17 = .ok (.bipush 60, 2) := by decide +kernel
theorem dX0_openGap_19 : decode cX0_openGap 19 = .ok (.aload_n 0, 1) := by decide +kernel
theorem dX0_openGap_20 : decode cX0_openGap 20 = .ok (.getfield 15, 3) := by decide +kernel
theorem dX0_openGap_23 : decode cX0_openGap 23 = .ok (.isub, 1) := by decide +kernel
theorem dX0_openGap_24 : decode cX0_openGap 24 = .ok (.if_icmp .le 5, 3) := by decide +kernel
theorem dX0_openGap_27 : decode cX0_openGap 27 = .ok (.iconst 0, 1) := by decide +kernel
theorem dX0_openGap_28 : decode cX0_openGap 28 = .ok (.ireturn, 1) := by decide +kernel
theorem dX0_openGap_29 : decode cX0_openGap 29 = .ok (.aload_n 0, 1) := by decide +kernel
theorem dX0_openGap_30 : decode cX0_openGap 30 = .ok (.getfield 9, 3) := by decide +kernel
theorem dX0_openGap_33 : decode cX0_openGap 33 = .ok (.iload_n 1, 1) := by decide +kernel
theorem dX0_openGap_34 : decode cX0_openGap 34 = .ok (.aload_n 0, 1) := by decide +kernel
theorem dX0_openGap_35 : decode cX0_openGap 35 = .ok (.getfield 9, 3) := by decide +kernel
theorem dX0_openGap_38 : decode cX0_openGap 38 = .ok (.iload_n 1, 1) := by decide +kernel
theorem dX0_openGap_39 : decode cX0_openGap 39 = .ok (.iload_n 2, 1) := by decide +kernel
theorem dX0_openGap_40 : decode cX0_openGap 40 = .ok (.iadd, 1) := by decide +kernel
theorem dX0_openGap_41 : decode cX0_openGap 41 = .ok (.aload_n 0, 1) := by decide +kernel
theorem dX0_openGap_42 : decode cX0_openGap 42 = .ok (.getfield 15, 3) := by decide +kernel
theorem dX0_openGap_45 : decode cX0_openGap 45 = .ok (.iload_n 1, 1) := by decide +kernel
theorem dX0_openGap_46 : decode cX0_openGap 46 = .ok (.isub, 1) := by decide +kernel
theorem dX0_openGap_47 : decode cX0_openGap 47 = .ok (.invokestatic 44, 3) := by decide +kernel
theorem dX0_openGap_50 : decode cX0_openGap 50 = .ok (.aload_n 0, 1) := by decide +kernel
theorem dX0_openGap_51 : decode cX0_openGap 51 = .ok (.dup, 1) := by decide +kernel
theorem dX0_openGap_52 : decode cX0_openGap 52 = .ok (.getfield 15, 3) := by decide +kernel
theorem dX0_openGap_55 : decode cX0_openGap 55 = .ok (.iload_n 2, 1) := by decide +kernel
theorem dX0_openGap_56 : decode cX0_openGap 56 = .ok (.iadd, 1) := by decide +kernel
theorem dX0_openGap_57 : decode cX0_openGap 57 = .ok (.putfield 15, 3) := by decide +kernel
theorem dX0_openGap_60 : decode cX0_openGap 60 = .ok (.aload_n 0, 1) := by decide +kernel
theorem dX0_openGap_61 : decode cX0_openGap 61 = .ok (.iconst (-1), 1) := by decide +kernel
theorem dX0_openGap_62 : decode cX0_openGap 62 = .ok (.putfield 19, 3) := by decide +kernel
theorem dX0_openGap_65 : decode cX0_openGap 65 = .ok (.iconst 1, 1) := by decide +kernel
theorem dX0_openGap_66 : decode cX0_openGap 66 = .ok (.ireturn, 1) := by decide +kernel
theorem dX0_closeGap_0 : decode cX0_closeGap 0 = .ok (.iload_n 1, 1) := by decide +kernel
theorem dX0_closeGap_1 : decode cX0_closeGap 1 = .ok (.ifCond .lt 55, 3) := by decide +kernel
theorem dX0_closeGap_4 : decode cX0_closeGap 4 = .ok (.iload_n 2, 1) := by decide +kernel
theorem dX0_closeGap_5 : decode cX0_closeGap 5 = .ok (.ifCond .lt 51, 3) := by decide +kernel
theorem dX0_closeGap_8 : decode cX0_closeGap 8 = .ok (.iload_n 2, 1) := by decide +kernel
theorem dX0_closeGap_9 : decode cX0_closeGap 9 = .ok (.aload_n 0, 1) := by decide +kernel
theorem dX0_closeGap_10 : decode cX0_closeGap 10 = .ok (.getfield 15, 3) := by decide +kernel
theorem dX0_closeGap_13 : decode cX0_closeGap 13 = .ok (.iload_n 1, 1) := by decide +kernel
theorem dX0_closeGap_14 : decode cX0_closeGap 14 = .ok (.isub, 1) := by decide +kernel
theorem dX0_closeGap_15 : decode cX0_closeGap 15 = .ok (.if_icmp .gt 41, 3) := by decide +kernel
theorem dX0_closeGap_18 : decode cX0_closeGap 18 = .ok (.aload_n 0, 1) := by decide +kernel
theorem dX0_closeGap_19 : decode cX0_closeGap 19 = .ok (.getfield 9, 3) := by decide +kernel
theorem dX0_closeGap_22 : decode cX0_closeGap 22 = .ok (.iload_n 1, 1) := by decide +kernel
theorem dX0_closeGap_23 : decode cX0_closeGap 23 = .ok (.iload_n 2, 1) := by decide +kernel
theorem dX0_closeGap_24 : decode cX0_closeGap 24 = .ok (.iadd, 1) := by decide +kernel
theorem dX0_closeGap_25 : decode cX0_closeGap 25 = .ok (.aload_n 0, 1) := by decide +kernel
theorem dX0_closeGap_26 : decode cX0_closeGap 26 = .ok (.getfield 9, 3) := by decide +kernel
theorem dX0_closeGap_29 : decode cX0_closeGap 29 = .ok (.iload_n 1, 1) := by decide +kernel
theorem dX0_closeGap_30 : decode cX0_closeGap 30 = .ok (.aload_n 0, 1) := by decide +kernel
theorem dX0_closeGap_31 : decode cX0_closeGap 31 = .ok (.getfield 15, 3) := by decide +kernel
theorem dX0_closeGap_34 : decode cX0_closeGap 34 = .ok (.iload_n 1, 1) := by decide +kernel
theorem dX0_closeGap_35 : decode cX0_closeGap 35 = .ok (.isub, 1) := by decide +kernel
theorem dX0_closeGap_36 : decode cX0_closeGap 36 = .ok (.iload_n 2, 1) := by decide +kernel
theorem dX0_closeGap_37 : decode cX0_closeGap 37 = .ok (.isub, 1) := by decide +kernel
theorem dX0_closeGap_38 : decode cX0_closeGap 38 = .ok (.invokestatic 44, 3) := by decide +kernel
theorem dX0_closeGap_41 : decode cX0_closeGap 41 = .ok (.aload_n 0, 1) := by decide +kernel
theorem dX0_closeGap_42 : decode cX0_closeGap 42 = .ok (.dup, 1) := by decide +kernel
theorem dX0_closeGap_43 : decode cX0_closeGap 43 = .ok (.getfield 15, 3) := by decide +kernel
theorem dX0_closeGap_46 : decode cX0_closeGap 46 = .ok (.iload_n 2, 1) := by decide +kernel
theorem dX0_closeGap_47 : decode cX0_closeGap 47 = .ok (.isub, 1) := by decide +kernel
theorem dX0_closeGap_48 : decode cX0_closeGap 48 = .ok (.putfield 15, 3) := by decide +kernel
theorem dX0_closeGap_51 : decode cX0_closeGap 51 = .ok (.aload_n 0, 1) := by decide +kernel
theorem dX0_closeGap_52 : decode cX0_closeGap 52 = .ok (.iconst (-1), 1) := by decide +kernel
theorem dX0_closeGap_53 : decode cX0_closeGap 53 = .ok (.putfield 19, 3) := by decide +kernel
theorem dX0_closeGap_56 : decode cX0_closeGap 56 = .ok (.return_, 1) := by decide +kernel
theorem dX0_insert_0 : decode cX0_insert 0 = .ok (.aload_n 0, 1) := by decide +kernel
theorem dX0_insert_1 : decode cX0_insert 1 = .ok (.iload_n 1, 1) := by decide +kernel
theorem dX0_insert_2 : decode cX0_insert 2 = .ok (.invokevirtual 22, 3) := by decide +kernel
theorem dX0_insert_5 : decode cX0_insert 5 = .ok (.istore_n 2, 1) := by decide +kernel
theorem dX0_insert_6 : decode cX0_insert 6 = .ok (.aload_n 0, 1) := by decide +kernel
theorem dX0_insert_7 : decode cX0_insert 7 = .ok (.iload_n 2, 1) := by decide +kernel
theorem dX0_insert_8 : decode cX0_insert 8 = .ok (.iconst 1, 1) := by decide +kernel
theorem dX0_insert_9 : decode cX0_insert 9 = .ok (.invokevirtual 50, 3) := by decide +kernel
theorem dX0_insert_12 : decode cX0_insert 12 = .ok (.ifCond .eq 12, 3) := by decide +kernel
theorem dX0_insert_15 : decode cX0_insert 15 = .ok (.aload_n 0, 1) := by decide +kernel
theorem dX0_insert_16 : decode cX0_insert 16 = .ok (.getfield 9, 3) := by decide +kernel
theorem dX0_insert_19 : decode cX0_insert 19 = .ok (.iload_n 2, 1) := by decide +kernel
theorem dX0_insert_20 : decode cX0_insert 20 = .ok (.iload_n 1, 1) := by decide +kernel
theorem dX0_insert_21 : decode cX0_insert 21 = .ok (.iconst 2, 1) := by decide +kernel
theorem dX0_insert_22 : decode cX0_insert 22 = .ok (.imul, 1) := by decide +kernel
theorem dX0_insert_23 : decode cX0_insert 23 = .ok (.iastore, 1) := by decide +kernel
theorem dX0_insert_24 : decode cX0_insert 24 = .ok (.iload_n 2, 1) := by decide +kernel
theorem dX0_insert_25 : decode cX0_insert 25 = .ok (.ireturn, 1) := by decide +kernel
theorem dX0_giveStretch_0 : decode cX0_giveStretch 0 = .ok (.iload_n 1, 1) := by decide +kernel
theorem dX0_giveStretch_1 : decode cX0_giveStretch 1 = .ok (.ifCond .lt 18, 3) := by decide +kernel
theorem dX0_giveStretch_4 : decode cX0_giveStretch 4 = .ok (.iload_n 2, 1) := by decide +kernel
theorem dX0_giveStretch_5 : decode cX0_giveStretch 5 = .ok (.iconst 1, 1) := by decide +kernel
theorem dX0_giveStretch_6 : decode cX0_giveStretch 6 = .ok (.if_icmp .lt 13, 3) := by decide +kernel
theorem dX0_giveStretch_9 : decode cX0_giveStretch 9 = .ok (.iload_n 2, 1) := by decide +kernel
theorem dX0_giveStretch_10 : decode cX0_giveStretch 10 = .ok (.aload_n 0, 1) := by decide +kernel
theorem dX0_giveStretch_11 : decode cX0_giveStretch 11 = .ok (.getfield 15, 3) := by decide +kernel
theorem dX0_giveStretch_14 : decode cX0_giveStretch 14 = .ok (.iload_n 1, 1) := by decide +kernel
theorem dX0_giveStretch_15 : decode cX0_giveStretch 15 = .ok (.isub, 1) := by decide +kernel
theorem dX0_giveStretch_16 : decode cX0_giveStretch 16 = .ok (.if_icmp .le 4, 3) := by decide +kernel
theorem dX0_giveStretch_19 : decode cX0_giveStretch 19 = .ok (.return_, 1) := by decide +kernel
theorem dX0_giveStretch_20 : decode cX0_giveStretch 20 = .ok (.aload_n 3, 1) := by decide +kernel
theorem dX0_giveStretch_21 : decode cX0_giveStretch 21 = .ok (.aload_n 0, 1) := by decide +kernel
theorem dX0_giveStretch_22 : decode cX0_giveStretch 22 = .ok (.getfield 9, 3) := by decide +kernel
theorem dX0_giveStretch_25 : decode cX0_giveStretch 25 = .ok (.iload_n 1, 1) := by decide +kernel
theorem dX0_giveStretch_26 : decode cX0_giveStretch 26 = .ok (.iaload, 1) := by decide +kernel
theorem dX0_giveStretch_27 : decode cX0_giveStretch 27 = .ok (.iconst 1, 1) := by decide +kernel
theorem dX0_giveStretch_28 : decode cX0_giveStretch 28 = .ok (.ishr, 1) := by decide +kernel
theorem dX0_giveStretch_29 : decode cX0_giveStretch 29 = .ok (.invokevirtual 22, 3) := by decide +kernel
theorem dX0_giveStretch_32 : decode cX0_giveStretch 32 = .ok (.istore 4, 2) := by decide +kernel
theorem dX0_giveStretch_34 : decode cX0_giveStretch 34 = .ok (.aload_n 3, 1) := by decide +kernel
theorem dX0_giveStretch_35 : decode cX0_giveStretch 35 = .ok (.iload 4, 2) := by decide +kernel
theorem dX0_giveStretch_37 : decode cX0_giveStretch 37 = .ok (.iload_n 2, 1) := by decide +kernel
theorem dX0_giveStretch_38 : decode cX0_giveStretch 38 = .ok (.invokevirtual 50, 3) := by decide +kernel
theorem dX0_giveStretch_41 : decode cX0_giveStretch 41 = .ok (.ifCond .eq 24, 3) := by decide +kernel
theorem dX0_giveStretch_44 : decode cX0_giveStretch 44 = .ok (.aload_n 0, 1) := by decide +kernel
theorem dX0_giveStretch_45 : decode cX0_giveStretch 45 = .ok (.getfield 9, 3) := by decide +kernel
theorem dX0_giveStretch_48 : decode cX0_giveStretch 48 = .ok (.iload_n 1, 1) := by decide +kernel
theorem dX0_giveStretch_49 : decode cX0_giveStretch 49 = .ok (.aload_n 3, 1) := by decide +kernel
theorem dX0_giveStretch_50 : decode cX0_giveStretch 50 = .ok (.getfield 9, 3) := by decide +kernel
theorem dX0_giveStretch_53 : decode cX0_giveStretch 53 = .ok (.iload 4, 2) := by decide +kernel
theorem dX0_giveStretch_55 : decode cX0_giveStretch 55 = .ok (.iload_n 2, 1) := by decide +kernel
theorem dX0_giveStretch_56 : decode cX0_giveStretch 56 = .ok (.invokestatic 44, 3) := by decide +kernel
theorem dX0_giveStretch_59 : decode cX0_giveStretch 59 = .ok (.aload_n 0, 1) := by decide +kernel
theorem dX0_giveStretch_60 : decode cX0_giveStretch 60 = .ok (.iload_n 1, 1) := by decide +kernel
theorem dX0_giveStretch_61 : decode cX0_giveStretch 61 = .ok (.iload_n 2, 1) := by decide +kernel
theorem dX0_giveStretch_62 : decode cX0_giveStretch 62 = .ok (.invokevirtual 54, 3) := by decide +kernel
theorem dX0_giveStretch_65 : decode cX0_giveStretch 65 = .ok (.return_, 1) := by decide +kernel
theorem dX0_absorb_0 : decode cX0_absorb 0 = .ok (.aload_n 0, 1) := by decide +kernel
theorem dX0_absorb_1 : decode cX0_absorb 1 = .ok (.getfield 15, 3) := by decide +kernel
theorem dX0_absorb_4 : decode cX0_absorb 4 = .ok (.iconst 1, 1) := by decide +kernel
theorem dX0_absorb_5 : decode cX0_absorb 5 = .ok (.isub, 1) := by decide +kernel
theorem dX0_absorb_6 : decode cX0_absorb 6 = .ok (.istore_n 3, 1) := by decide +kernel
theorem dX0_absorb_7 : decode cX0_absorb 7 = .ok (.aload_n 1, 1) := by decide +kernel
theorem dX0_absorb_8 : decode cX0_absorb 8 = .ok (.getfield 15, 3) := by decide +kernel
theorem dX0_absorb_11 : decode cX0_absorb 11 = .ok (.iconst 1, 1) := by decide +kernel
theorem dX0_absorb_12 : decode cX0_absorb 12 = .ok (.isub, 1) := by decide +kernel
theorem dX0_absorb_13 : decode cX0_absorb 13 = .ok (.istore 4, 2) := by decide +kernel
theorem dX0_absorb_15 : decode cX0_absorb 15 = .ok (.iload_n 2, 1) := by decide +kernel
theorem dX0_absorb_16 : decode cX0_absorb 16 = .ok (.bipush 60, 2) := by decide +kernel
theorem dX0_absorb_18 : decode cX0_absorb 18 = .ok (.invokestatic 41, 3) := by decide +kernel
theorem dX0_absorb_21 : decode cX0_absorb 21 = .ok (.iconst 1, 1) := by decide +kernel
theorem dX0_absorb_22 : decode cX0_absorb 22 = .ok (.isub, 1) := by decide +kernel
theorem dX0_absorb_23 : decode cX0_absorb 23 = .ok (.istore 5, 2) := by decide +kernel
theorem dX0_absorb_25 : decode cX0_absorb 25 = .ok (.iload 5, 2) := by decide +kernel
theorem dX0_absorb_27 : decode cX0_absorb 27 = .ok (.ifCond .lt 82, 3) := by decide +kernel
theorem dX0_absorb_30 : decode cX0_absorb 30 = .ok (.aload_n 0, 1) := by decide +kernel
theorem dX0_absorb_31 : decode cX0_absorb 31 = .ok (.iload_n 3, 1) := by decide +kernel
theorem dX0_absorb_32 : decode cX0_absorb 32 = .ok (.invokevirtual 38, 3) := by decide +kernel
theorem dX0_absorb_35 : decode cX0_absorb 35 = .ok (.aload_n 1, 1) := by decide +kernel
theorem dX0_absorb_36 : decode cX0_absorb 36 = .ok (.iload 4, 2) := by decide +kernel
theorem dX0_absorb_38 : decode cX0_absorb 38 = .ok (.invokevirtual 38, 3) := by decide +kernel
theorem dX0_absorb_41 : decode cX0_absorb 41 = .ok (.invokestatic 58, 3) := by decide +kernel
theorem dX0_absorb_44 : decode cX0_absorb 44 = .ok (.istore 6, 2) := by decide +kernel
theorem dX0_absorb_46 : decode cX0_absorb 46 = .ok (.iconst 0, 1) := by decide +kernel
theorem dX0_absorb_47 : decode cX0_absorb 47 = .ok (.istore 7, 2) := by decide +kernel
theorem dX0_absorb_49 : decode cX0_absorb 49 = .ok (.iload 6, 2) := by decide +kernel
theorem dX0_absorb_51 : decode cX0_absorb 51 = .ok (.ifCond .lt 18, 3) := by decide +kernel
theorem dX0_absorb_54 : decode cX0_absorb 54 = .ok (.iload_n 3, 1) := by decide +kernel
theorem dX0_absorb_55 : decode cX0_absorb 55 = .ok (.ifCond .lt 14, 3) := by decide +kernel
theorem dX0_absorb_58 : decode cX0_absorb 58 = .ok (.aload_n 0, 1) := by decide +kernel
theorem dX0_absorb_59 : decode cX0_absorb 59 = .ok (.getfield 9, 3) := by decide +kernel
theorem dX0_absorb_62 : decode cX0_absorb 62 = .ok (.iload_n 3, 1) := by decide +kernel
theorem dX0_absorb_63 : decode cX0_absorb 63 = .ok (.iaload, 1) := by decide +kernel
theorem dX0_absorb_64 : decode cX0_absorb 64 = .ok (.istore 7, 2) := by decide +kernel
theorem dX0_absorb_66 : decode cX0_absorb 66 = .ok (.iinc 3 (-1), 3) := by decide +kernel
theorem dX0_absorb_69 : decode cX0_absorb 69 = .ok (.iload 6, 2) := by decide +kernel
theorem dX0_absorb_71 : decode cX0_absorb 71 = .ok (.ifCond .gt 23, 3) := by decide +kernel
theorem dX0_absorb_74 : decode cX0_absorb 74 = .ok (.iload 4, 2) := by decide +kernel
theorem dX0_absorb_76 : decode cX0_absorb 76 = .ok (.ifCond .lt 18, 3) := by decide +kernel
theorem dX0_absorb_79 : decode cX0_absorb 79 = .ok (.iload 7, 2) := by decide +kernel
theorem dX0_absorb_81 : decode cX0_absorb 81 = .ok (.aload_n 1, 1) := by decide +kernel
theorem dX0_absorb_82 : decode cX0_absorb 82 = .ok (.getfield 9, 3) := by decide +kernel
theorem dX0_absorb_85 : decode cX0_absorb 85 = .ok (.iload 4, 2) := by decide +kernel
theorem dX0_absorb_87 : decode cX0_absorb 87 = .ok (.iaload, 1) := by decide +kernel
theorem dX0_absorb_88 : decode cX0_absorb 88 = .ok (.ior, 1) := by decide +kernel
theorem dX0_absorb_89 : decode cX0_absorb 89 = .ok (.istore 7, 2) := by decide +kernel
theorem dX0_absorb_91 : decode cX0_absorb 91 = .ok (.iinc 4 (-1), 3) := by decide +kernel
theorem dX0_absorb_94 : decode cX0_absorb 94 = .ok (.aload_n 0, 1) := by decide +kernel
theorem dX0_absorb_95 : decode cX0_absorb 95 = .ok (.getfield 9, 3) := by decide +kernel
theorem dX0_absorb_98 : decode cX0_absorb 98 = .ok (.iload 5, 2) := by decide +kernel
theorem dX0_absorb_100 : decode cX0_absorb 100 = .ok (.iload 7, 2) := by decide +kernel
theorem dX0_absorb_102 : decode cX0_absorb 102 = .ok (.iastore, 1) := by decide +kernel
theorem dX0_absorb_103 : decode cX0_absorb 103 = .ok (.iinc 5 (-1), 3) := by decide +kernel
theorem dX0_absorb_106 : decode cX0_absorb 106 = .ok (.goto (-81), 3) := by decide +kernel
theorem dX0_absorb_109 : decode cX0_absorb 109 = .ok (.iload_n 2, 1) := by decide +kernel
theorem dX0_absorb_110 : decode cX0_absorb 110 = .ok (.aload_n 0, 1) := by decide +kernel
theorem dX0_absorb_111 : decode cX0_absorb 111 = .ok (.getfield 15, 3) := by decide +kernel
theorem dX0_absorb_114 : decode cX0_absorb 114 = .ok (.if_icmp .eq 8, 3) := by decide +kernel
theorem dX0_absorb_117 : decode cX0_absorb 117 = .ok (.aload_n 0, 1) := by decide +kernel
theorem dX0_absorb_118 : decode cX0_absorb 118 = .ok (.iconst (-1), 1) := by decide +kernel
theorem dX0_absorb_119 : decode cX0_absorb 119 = .ok (.putfield 19, 3) := by decide +kernel
theorem dX0_absorb_122 : decode cX0_absorb 122 = .ok (.aload_n 0, 1) := by decide +kernel
theorem dX0_absorb_123 : decode cX0_absorb 123 = .ok (.iload_n 2, 1) := by decide +kernel
theorem dX0_absorb_124 : decode cX0_absorb 124 = .ok (.bipush 60, 2) := by decide +kernel
theorem dX0_absorb_126 : decode cX0_absorb 126 = .ok (.invokestatic 41, 3) := by decide +kernel
theorem dX0_absorb_129 : decode cX0_absorb 129 = .ok (.putfield 15, 3) := by decide +kernel
theorem dX0_absorb_132 : decode cX0_absorb 132 = .ok (.aload_n 1, 1) := by decide +kernel
theorem dX0_absorb_133 : decode cX0_absorb 133 = .ok (.invokevirtual 63, 3) := by decide +kernel
theorem dX0_absorb_136 : decode cX0_absorb 136 = .ok (.return_, 1) := by decide +kernel
theorem dX0_shiftAll_0 : decode cX0_shiftAll 0 = .ok (.iconst 0, 1) := by decide +kernel
theorem dX0_shiftAll_1 : decode cX0_shiftAll 1 = .ok (.istore_n 2, 1) := by decide +kernel
theorem dX0_shiftAll_2 : decode cX0_shiftAll 2 = .ok (.iload_n 2, 1) := by decide +kernel
theorem dX0_shiftAll_3 : decode cX0_shiftAll 3 = .ok (.aload_n 0, 1) := by decide +kernel
theorem dX0_shiftAll_4 : decode cX0_shiftAll 4 = .ok (.getfield 15, 3) := by decide +kernel
theorem dX0_shiftAll_7 : decode cX0_shiftAll 7 = .ok (.if_icmp .ge 21, 3) := by decide +kernel
theorem dX0_shiftAll_10 : decode cX0_shiftAll 10 = .ok (.aload_n 0, 1) := by decide +kernel
theorem dX0_shiftAll_11 : decode cX0_shiftAll 11 = .ok (.getfield 9, 3) := by decide +kernel
theorem dX0_shiftAll_14 : decode cX0_shiftAll 14 = .ok (.iload_n 2, 1) := by decide +kernel
theorem dX0_shiftAll_15 : decode cX0_shiftAll 15 = .ok (.dup2, 1) := by decide +kernel
theorem dX0_shiftAll_16 : decode cX0_shiftAll 16 = .ok (.iaload, 1) := by decide +kernel
theorem dX0_shiftAll_17 : decode cX0_shiftAll 17 = .ok (.iload_n 1, 1) := by decide +kernel
theorem dX0_shiftAll_18 : decode cX0_shiftAll 18 = .ok (.iconst 2, 1) := by decide +kernel
theorem dX0_shiftAll_19 : decode cX0_shiftAll 19 = .ok (.imul, 1) := by decide +kernel
theorem dX0_shiftAll_20 : decode cX0_shiftAll 20 = .ok (.iadd, 1) := by decide +kernel
theorem dX0_shiftAll_21 : decode cX0_shiftAll 21 = .ok (.iastore, 1) := by decide +kernel
theorem dX0_shiftAll_22 : decode cX0_shiftAll 22 = .ok (.iinc 2 1, 3) := by decide +kernel
theorem dX0_shiftAll_25 : decode cX0_shiftAll 25 = .ok (.goto (-23), 3) := by decide +kernel
theorem dX0_shiftAll_28 : decode cX0_shiftAll 28 = .ok (.aload_n 0, 1) := by decide +kernel
theorem dX0_shiftAll_29 : decode cX0_shiftAll 29 = .ok (.getfield 19, 3) := by decide +kernel
theorem dX0_shiftAll_32 : decode cX0_shiftAll 32 = .ok (.iconst (-1), 1) := by decide +kernel
theorem dX0_shiftAll_33 : decode cX0_shiftAll 33 = .ok (.if_icmp .eq 13, 3) := by decide +kernel
theorem dX0_shiftAll_36 : decode cX0_shiftAll 36 = .ok (.aload_n 0, 1) := by decide +kernel
theorem dX0_shiftAll_37 : decode cX0_shiftAll 37 = .ok (.dup, 1) := by decide +kernel
theorem dX0_shiftAll_38 : decode cX0_shiftAll 38 = .ok (.getfield 19, 3) := by decide +kernel
theorem dX0_shiftAll_41 : decode cX0_shiftAll 41 = .ok (.iload_n 1, 1) := by decide +kernel
theorem dX0_shiftAll_42 : decode cX0_shiftAll 42 = .ok (.iadd, 1) := by decide +kernel
theorem dX0_shiftAll_43 : decode cX0_shiftAll 43 = .ok (.putfield 19, 3) := by decide +kernel
theorem dX0_shiftAll_46 : decode cX0_shiftAll 46 = .ok (.return_, 1) := by decide +kernel
theorem dX0_markBetween_0 : decode cX0_markBetween 0 = .ok (.aload_n 0, 1) := by decide +kernel
theorem dX0_markBetween_1 : decode cX0_markBetween 1 = .ok (.iload_n 2, 1) := by decide +kernel
theorem dX0_markBetween_2 : decode cX0_markBetween 2 = .ok (.invokevirtual 26, 3) := by decide +kernel
theorem dX0_markBetween_5 : decode cX0_markBetween 5 = .ok (.istore 4, 2) := by decide +kernel
theorem dX0_markBetween_7 : decode cX0_markBetween 7 = .ok (.iconst 0, 1) := by decide +kernel
theorem dX0_markBetween_8 : decode cX0_markBetween 8 = .ok (.istore 5, 2) := by decide +kernel
theorem dX0_markBetween_10 : decode cX0_markBetween 10 = .ok (.aload_n 0, 1) := by decide +kernel
theorem dX0_markBetween_11 : decode cX0_markBetween 11 = .ok (.iload_n 1, 1) := by decide +kernel
theorem dX0_markBetween_12 : decode cX0_markBetween 12 = .ok (.invokevirtual 22, 3) := by decide +kernel
theorem dX0_markBetween_15 : decode cX0_markBetween 15 = .ok (.istore 6, 2) := by decide +kernel
theorem dX0_markBetween_17 : decode cX0_markBetween 17 = .ok (.iload 6, 2) := by decide +kernel
theorem dX0_markBetween_19 : decode cX0_markBetween 19 = .ok (.iload 4, 2) := by decide +kernel
theorem dX0_markBetween_21 : decode cX0_markBetween 21 = .ok (.if_icmp .ge 36, 3) := by decide +kernel
theorem dX0_markBetween_24 : decode cX0_markBetween 24 = .ok (.aload_n 0, 1) := by decide +kernel
theorem dX0_markBetween_25 : decode cX0_markBetween 25 = .ok (.getfield 9, 3) := by decide +kernel
theorem dX0_markBetween_28 : decode cX0_markBetween 28 = .ok (.iload 6, 2) := by decide +kernel
theorem dX0_markBetween_30 : decode cX0_markBetween 30 = .ok (.iaload, 1) := by decide +kernel
theorem dX0_markBetween_31 : decode cX0_markBetween 31 = .ok (.iconst 1, 1) := by decide +kernel
theorem dX0_markBetween_32 : decode cX0_markBetween 32 = .ok (.iand, 1) := by decide +kernel
theorem dX0_markBetween_33 : decode cX0_markBetween 33 = .ok (.iload_n 3, 1) := by decide +kernel
theorem dX0_markBetween_34 : decode cX0_markBetween 34 = .ok (.if_icmp .eq 17, 3) := by decide +kernel
theorem dX0_markBetween_37 : decode cX0_markBetween 37 = .ok (.aload_n 0, 1) := by decide +kernel
theorem dX0_markBetween_38 : decode cX0_markBetween 38 = .ok (.getfield 9, 3) := by decide +kernel
theorem dX0_markBetween_41 : decode cX0_markBetween 41 = .ok (.iload 6, 2) := by decide +kernel
theorem dX0_markBetween_43 : decode cX0_markBetween 43 = .ok (.dup2, 1) := by decide +kernel
theorem dX0_markBetween_44 : decode cX0_markBetween 44 = .ok (.iaload, 1) := by decide +kernel
theorem dX0_markBetween_45 : decode cX0_markBetween 45 = .ok (.iconst 1, 1) := by decide +kernel
theorem dX0_markBetween_46 : decode cX0_markBetween 46 = .ok (.ixor, 1) := by decide +kernel
theorem dX0_markBetween_47 : decode cX0_markBetween 47 = .ok (.iastore, 1) := by decide +kernel
theorem dX0_markBetween_48 : decode cX0_markBetween 48 = .ok (.iinc 5 1, 3) := by decide +kernel
theorem dX0_markBetween_51 : decode cX0_markBetween 51 = .ok (.iinc 6 1, 3) := by decide +kernel
theorem dX0_markBetween_54 : decode cX0_markBetween 54 = .ok (.goto (-37), 3) := by decide +kernel
theorem dX0_markBetween_57 : decode cX0_markBetween 57 = .ok (.iload 5, 2) := by decide +kernel
theorem dX0_markBetween_59 : decode cX0_markBetween 59 = .ok (.ireturn, 1) := by decide +kernel
theorem dX1_init_0 : decode cX1_init 0 = .ok (.aload_n 0, 1) := by decide +kernel
theorem dX1_init_1 : decode cX1_init 1 = .ok (.invokespecial 3, 3) := by decide +kernel
theorem dX1_init_4 : decode cX1_init 4 = .ok (.aload_n 0, 1) := by decide +kernel
theorem dX1_init_5 : decode cX1_init 5 = .ok (.new 9, 3) := by decide +kernel
theorem dX1_init_8 : decode cX1_init 8 = .ok (.dup, 1) := by decide +kernel
theorem dX1_init_9 : decode cX1_init 9 = .ok (.invokespecial 11, 3) := by decide +kernel
theorem dX1_init_12 : decode cX1_init 12 = .ok (.putfield 12, 3) := by decide +kernel
theorem dX1_init_15 : decode cX1_init 15 = .ok (.aload_n 0, 1) := by decide +kernel
theorem dX1_init_16 : decode cX1_init 16 = .ok (.new 18, 3) := by decide +kernel
theorem dX1_init_19 : decode cX1_init 19 = .ok (.dup, 1) := by decide +kernel
theorem dX1_init_20 : decode cX1_init 20 = .ok (.sipush 800, 3) := by decide +kernel
theorem dX1_init_23 : decode cX1_init 23 = .ok (.newarray .byte, 2) := by decide +kernel
theorem dX1_init_25 : decode cX1_init 25 = .ok (.invokespecial 20, 3) := by decide +kernel
theorem dX1_init_28 : decode cX1_init 28 = .ok (.putfield 23, 3) := by decide +kernel
theorem dX1_init_31 : decode cX1_init 31 = .ok (.aload_n 0, 1) := by decide +kernel
theorem dX1_init_32 : decode cX1_init 32 = .ok (.new 18, 3) := by decide +kernel
theorem dX1_init_35 : decode cX1_init 35 = .ok (.dup, 1) := by decide +kernel
theorem dX1_init_36 : decode cX1_init 36 = .ok (.sipush 360, 3) := by decide +kernel
theorem dX1_init_39 : decode cX1_init 39 = .ok (.newarray .byte, 2) := by decide +kernel
theorem dX1_init_41 : decode cX1_init 41 = .ok (.invokespecial 20, 3) := by decide +kernel
theorem dX1_init_44 : decode cX1_init 44 = .ok (.putfield 27, 3) := by decide +kernel
theorem dX1_init_47 : decode cX1_init 47 = .ok (.aload_n 0, 1) := by decide +kernel
theorem dX1_init_48 : decode cX1_init 48 = .ok (.iconst 0, 1) := by decide +kernel
theorem dX1_init_49 : decode cX1_init 49 = .ok (.putfield 30, 3) := by decide +kernel
theorem dX1_init_52 : decode cX1_init 52 = .ok (.aload_n 0, 1) := by decide +kernel
theorem dX1_init_53 : decode cX1_init 53 = .ok (.iconst 0, 1) := by decide +kernel
theorem dX1_init_54 : decode cX1_init 54 = .ok (.putfield 34, 3) := by decide +kernel
theorem dX1_init_57 : decode cX1_init 57 = .ok (.aload_n 0, 1) := by decide +kernel
theorem dX1_init_58 : decode cX1_init 58 = .ok (.iconst (-1), 1) := by decide +kernel
theorem dX1_init_59 : decode cX1_init 59 = .ok (.putfield 38, 3) := by decide +kernel
theorem dX1_init_62 : decode cX1_init 62 = .ok (.return_, 1) := by decide +kernel
theorem dX2_init_0 : decode cX2_init 0 = .ok (.aload_n 0, 1) := by decide +kernel
theorem dX2_init_1 : decode cX2_init 1 = .ok (.invokespecial 3, 3) := by decide +kernel
theorem dX2_init_4 : decode cX2_init 4 = .ok (.aload_n 0, 1) := by decide +kernel
theorem dX2_init_5 : decode cX2_init 5 = .ok (.bipush 8, 2) := by decide +kernel
theorem dX2_init_7 : decode cX2_init 7 = .ok (.newarray .int, 2) := by decide +kernel
theorem dX2_init_9 : decode cX2_init 9 = .ok (.putfield 9, 3) := by decide +kernel
theorem dX2_init_12 : decode cX2_init 12 = .ok (.aload_n 0, 1) := by decide +kernel
theorem dX2_init_13 : decode cX2_init 13 = .ok (.aload_n 1, 1) := by decide +kernel
theorem dX2_init_14 : decode cX2_init 14 = .ok (.putfield 15, 3) := by decide +kernel
theorem dX2_init_17 : decode cX2_init 17 = .ok (.return_, 1) := by decide +kernel
theorem dX2_begin_0 : decode cX2_begin 0 = .ok (.iconst 0, 1) := by decide +kernel
theorem dX2_begin_1 : decode cX2_begin 1 = .ok (.istore_n 1, 1) := by decide +kernel
theorem dX2_begin_2 : decode cX2_begin 2 = .ok (.iload_n 1, 1) := by decide +kernel
theorem dX2_begin_3 : decode cX2_begin 3 = .ok (.bipush 8, 2) := by decide +kernel
theorem dX2_begin_5 : decode cX2_begin 5 = .ok (.if_icmp .ge 16, 3) := by decide +kernel
theorem dX2_begin_8 : decode cX2_begin 8 = .ok (.aload_n 0, 1) := by decide +kernel
theorem dX2_begin_9 : decode cX2_begin 9 = .ok (.getfield 9, 3) := by decide +kernel
theorem dX2_begin_12 : decode cX2_begin 12 = .ok (.iload_n 1, 1) := by decide +kernel
theorem dX2_begin_13 : decode cX2_begin 13 = .ok (.iconst 0, 1) := by decide +kernel
theorem dX2_begin_14 : decode cX2_begin 14 = .ok (.iastore, 1) := by decide +kernel
theorem dX2_begin_15 : decode cX2_begin 15 = .ok (.iinc 1 1, 3) := by decide +kernel
theorem dX2_begin_18 : decode cX2_begin 18 = .ok (.goto (-16), 3) := by decide +kernel
theorem dX2_begin_21 : decode cX2_begin 21 = .ok (.return_, 1) := by decide +kernel
theorem dX2_next_0 : decode cX2_next 0 = .ok (.iconst (-1), 1) := by decide +kernel
theorem dX2_next_1 : decode cX2_next 1 = .ok (.istore_n 1, 1) := by decide +kernel
theorem dX2_next_2 : decode cX2_next 2 = .ok (.iconst (-1), 1) := by decide +kernel
theorem dX2_next_3 : decode cX2_next 3 = .ok (.istore_n 2, 1) := by decide +kernel
theorem dX2_next_4 : decode cX2_next 4 = .ok (.iconst 0, 1) := by decide +kernel
theorem dX2_next_5 : decode cX2_next 5 = .ok (.istore_n 3, 1) := by decide +kernel
theorem dX2_next_6 : decode cX2_next 6 = .ok (.iload_n 3, 1) := by decide +kernel
theorem dX2_next_7 : decode cX2_next 7 = .ok (.bipush 8, 2) := by decide +kernel
theorem dX2_next_9 : decode cX2_next 9 = .ok (.if_icmp .ge 57, 3) := by decide +kernel
theorem dX2_next_12 : decode cX2_next 12 = .ok (.iload_n 3, 1) := by decide +kernel
theorem dX2_next_13 : decode cX2_next 13 = .ok (.aload_n 0, 1) := by decide +kernel
theorem dX2_next_14 : decode cX2_next 14 = .ok (.getfield 15, 3) := by decide +kernel
theorem dX2_next_17 : decode cX2_next 17 = .ok (.arraylength, 1) := by decide +kernel
theorem dX2_next_18 : decode cX2_next 18 = .ok (.if_icmp .ge 48, 3) := by decide +kernel
theorem dX2_next_21 : decode cX2_next 21 = .ok (.aload_n 0, 1) := by decide +kernel
theorem dX2_next_22 : decode cX2_next 22 = .ok (.getfield 15, 3) := by decide +kernel
theorem dX2_next_25 : decode cX2_next 25 = .ok (.iload_n 3, 1) := by decide +kernel
theorem dX2_next_26 : decode cX2_next 26 = .ok (.aaload, 1) := by decide +kernel
theorem dX2_next_27 : decode cX2_next 27 = .ok (.aload_n 0, 1) := by decide +kernel
theorem dX2_next_28 : decode cX2_next 28 = .ok (.getfield 9, 3) := by decide +kernel
theorem dX2_next_31 : decode cX2_next 31 = .ok (.iload_n 3, 1) := by decide +kernel
theorem dX2_next_32 : decode cX2_next 32 = .ok (.iaload, 1) := by decide +kernel
theorem dX2_next_33 : decode cX2_next 33 = .ok (.invokevirtual 19, 3) := by decide +kernel
theorem dX2_next_36 : decode cX2_next 36 = .ok (.istore 4, 2) := by decide +kernel
theorem dX2_next_38 : decode cX2_next 38 = .ok (.iload 4, 2) := by decide +kernel
theorem dX2_next_40 : decode cX2_next 40 = .ok (.iconst (-1), 1) := by decide +kernel
theorem dX2_next_41 : decode cX2_next 41 = .ok (.if_icmp .eq 19, 3) := by decide +kernel
theorem dX2_next_44 : decode cX2_next 44 = .ok (.iload_n 1, 1) := by decide +kernel
theorem dX2_next_45 : decode cX2_next 45 = .ok (.iconst (-1), 1) := by decide +kernel
theorem dX2_next_46 : decode cX2_next 46 = .ok (.if_icmp .eq 9, 3) := by decide +kernel
theorem dX2_next_49 : decode cX2_next 49 = .ok (.iload 4, 2) := by decide +kernel
theorem dX2_next_51 : decode cX2_next 51 = .ok (.iload_n 1, 1) := by decide +kernel
theorem dX2_next_52 : decode cX2_next 52 = .ok (.if_icmp .ge 8, 3) := by decide +kernel
theorem dX2_next_55 : decode cX2_next 55 = .ok (.iload 4, 2) := by decide +kernel
theorem dX2_next_57 : decode cX2_next 57 = .ok (.istore_n 1, 1) := by decide +kernel
theorem dX2_next_58 : decode cX2_next 58 = .ok (.iload_n 3, 1) := by decide +kernel
theorem dX2_next_59 : decode cX2_next 59 = .ok (.istore_n 2, 1) := by decide +kernel
theorem dX2_next_60 : decode cX2_next 60 = .ok (.iinc 3 1, 3) := by decide +kernel
theorem dX2_next_63 : decode cX2_next 63 = .ok (.goto (-57), 3) := by decide +kernel
theorem dX2_next_66 : decode cX2_next 66 = .ok (.iload_n 2, 1) := by decide +kernel
theorem dX2_next_67 : decode cX2_next 67 = .ok (.iconst (-1), 1) := by decide +kernel
theorem dX2_next_68 : decode cX2_next 68 = .ok (.if_icmp .eq 13, 3) := by decide +kernel
theorem dX2_next_71 : decode cX2_next 71 = .ok (.aload_n 0, 1) := by decide +kernel
theorem dX2_next_72 : decode cX2_next 72 = .ok (.getfield 9, 3) := by decide +kernel
theorem dX2_next_75 : decode cX2_next 75 = .ok (.iload_n 2, 1) := by decide +kernel
theorem dX2_next_76 : decode cX2_next 76 = .ok (.dup2, 1) := by decide +kernel
theorem dX2_next_77 : decode cX2_next 77 = .ok (.iaload, 1) := by decide +kernel
theorem dX2_next_78 : decode cX2_next 78 = .ok (.iconst 1, 1) := by decide +kernel
theorem dX2_next_79 : decode cX2_next 79 = .ok (.iadd, 1) := by decide +kernel
theorem dX2_next_80 : decode cX2_next 80 = .ok (.iastore, 1) := by decide +kernel
theorem dX2_next_81 : decode cX2_next 81 = .ok (.iload_n 1, 1) := by decide +kernel
theorem dX2_next_82 : decode cX2_next 82 = .ok (.ireturn, 1) := by decide +kernel
theorem dX3_init_0 : decode cX3_init 0 = .ok (.aload_n 0, 1) := by decide +kernel
theorem dX3_init_1 : decode cX3_init 1 = .ok (.invokespecial 3, 3) := by decide +kernel
theorem dX3_init_4 : decode cX3_init 4 = .ok (.aload_n 0, 1) := by decide +kernel
theorem dX3_init_5 : decode cX3_init 5 = .ok (.bipush 13, 2) := by decide +kernel
theorem dX3_init_7 : decode cX3_init 7 = .ok (.anewarray 11, 3) := by decide +kernel
theorem dX3_init_10 : decode cX3_init 10 = .ok (.putfield 13, 3) := by decide +kernel
theorem dX3_init_13 : decode cX3_init 13 = .ok (.aload_n 0, 1) := by decide +kernel
theorem dX3_init_14 : decode cX3_init 14 = .ok (.iconst 0, 1) := by decide +kernel
theorem dX3_init_15 : decode cX3_init 15 = .ok (.putfield 17, 3) := by decide +kernel
theorem dX3_init_18 : decode cX3_init 18 = .ok (.aload_n 0, 1) := by decide +kernel
theorem dX3_init_19 : decode cX3_init 19 = .ok (.iconst 0, 1) := by decide +kernel
theorem dX3_init_20 : decode cX3_init 20 = .ok (.putfield 21, 3) := by decide +kernel
theorem dX3_init_23 : decode cX3_init 23 = .ok (.iconst 0, 1) := by decide +kernel
theorem dX3_init_24 : decode cX3_init 24 = .ok (.istore_n 1, 1) := by decide +kernel
theorem dX3_init_25 : decode cX3_init 25 = .ok (.iload_n 1, 1) := by decide +kernel
theorem dX3_init_26 : decode cX3_init 26 = .ok (.bipush 13, 2) := by decide +kernel
theorem dX3_init_28 : decode cX3_init 28 = .ok (.if_icmp .ge 22, 3) := by decide +kernel
theorem dX3_init_31 : decode cX3_init 31 = .ok (.aload_n 0, 1) := by decide +kernel
theorem dX3_init_32 : decode cX3_init 32 = .ok (.getfield 13, 3) := by decide +kernel
theorem dX3_init_35 : decode cX3_init 35 = .ok (.iload_n 1, 1) := by decide +kernel
theorem dX3_init_36 : decode cX3_init 36 = .ok (.new 11, 3) := by decide +kernel
theorem dX3_init_39 : decode cX3_init 39 = .ok (.dup, 1) := by decide +kernel
theorem dX3_init_40 : decode cX3_init 40 = .ok (.invokespecial 24, 3) := by decide +kernel
theorem dX3_init_43 : decode cX3_init 43 = .ok (.aastore, 1) := by decide +kernel
theorem dX3_init_44 : decode cX3_init 44 = .ok (.iinc 1 1, 3) := by decide +kernel
theorem dX3_init_47 : decode cX3_init 47 = .ok (.goto (-22), 3) := by decide +kernel
theorem dX3_init_50 : decode cX3_init 50 = .ok (.return_, 1) := by decide +kernel
theorem dX3_prepare_0 : decode cX3_prepare 0 = .ok (.aload_n 0, 1) := by decide +kernel
theorem dX3_prepare_1 : decode cX3_prepare 1 = .ok (.getfield 13, 3) := by decide +kernel
theorem dX3_prepare_4 : decode cX3_prepare 4 = .ok (.aload_n 0, 1) := by decide +kernel
theorem dX3_prepare_5 : decode cX3_prepare 5 = .ok (.getfield 17, 3) := by decide +kernel
theorem dX3_prepare_8 : decode cX3_prepare 8 = .ok (.aaload, 1) := by decide +kernel
theorem dX3_prepare_9 : decode cX3_prepare 9 = .ok (.aload_n 1, 1) := by decide +kernel
theorem dX3_prepare_10 : decode cX3_prepare 10 = .ok (.invokevirtual 25, 3) := by decide +kernel
theorem dX3_prepare_13 : decode cX3_prepare 13 = .ok (.return_, 1) := by decide +kernel
theorem dX3_settle_0 : decode cX3_settle 0 = .ok (.iload_n 1, 1) := by decide +kernel
theorem dX3_settle_1 : decode cX3_settle 1 = .ok (.ifCond .lt 43, 3) := by decide +kernel
theorem dX3_settle_4 : decode cX3_settle 4 = .ok (.aload_n 0, 1) := by decide +kernel
theorem dX3_settle_5 : decode cX3_settle 5 = .ok (.aload_n 0, 1) := by decide +kernel
theorem dX3_settle_6 : decode cX3_settle 6 = .ok (.getfield 17, 3) := by decide +kernel
theorem dX3_settle_9 : decode cX3_settle 9 = .ok (.iconst 1, 1) := by decide +kernel
theorem dX3_settle_10 : decode cX3_settle 10 = .ok (.iadd, 1) := by decide +kernel
theorem dX3_settle_11 : decode cX3_settle 11 = .ok (.bipush 13, 2) := by decide +kernel
theorem dX3_settle_13 : decode cX3_settle 13 = .ok (.if_icmp .ge 12, 3) := by decide +kernel
theorem dX3_settle_16 : decode cX3_settle 16 = .ok (.aload_n 0, 1) := by decide +kernel
theorem dX3_settle_17 : decode cX3_settle 17 = .ok (.getfield 17, 3) := by decide +kernel
theorem dX3_settle_20 : decode cX3_settle 20 = .ok (.iconst 1, 1) := by decide +kernel
theorem dX3_settle_21 : decode cX3_settle 21 = .ok (.iadd, 1) := by decide +kernel
theorem dX3_settle_22 : decode cX3_settle 22 = .ok (.goto 4, 3) := by decide +kernel
theorem dX3_settle_25 : decode cX3_settle 25 = .ok (.iconst 0, 1) := by decide +kernel
theorem dX3_settle_26 : decode cX3_settle 26 = .ok (.putfield 17, 3) := by decide +kernel
theorem dX3_settle_29 : decode cX3_settle 29 = .ok (.aload_n 0, 1) := by decide +kernel
theorem dX3_settle_30 : decode cX3_settle 30 = .ok (.aload_n 0, 1) := by decide +kernel
theorem dX3_settle_31 : decode cX3_settle 31 = .ok (.getfield 21, 3) := by decide +kernel
theorem dX3_settle_34 : decode cX3_settle 34 = .ok (.iconst 1, 1) := by decide +kernel
theorem dX3_settle_35 : decode cX3_settle 35 = .ok (.iadd, 1) := by decide +kernel
theorem dX3_settle_36 : decode cX3_settle 36 = .ok (.bipush 12, 2) := by decide +kernel
theorem dX3_settle_38 : decode cX3_settle 38 = .ok (.invokestatic 29, 3) := by decide +kernel
theorem dX3_settle_41 : decode cX3_settle 41 = .ok (.putfield 21, 3) := by decide +kernel
theorem dX3_settle_44 : decode cX3_settle 44 = .ok (.iload_n 1, 1) := by decide +kernel
theorem dX3_settle_45 : decode cX3_settle 45 = .ok (.ireturn, 1) := by decide +kernel
theorem dX3_stepBack_0 : decode cX3_stepBack 0 = .ok (.aload_n 0, 1) := by decide +kernel
theorem dX3_stepBack_1 : decode cX3_stepBack 1 = .ok (.aload_n 0, 1) := by decide +kernel
theorem dX3_stepBack_2 : decode cX3_stepBack 2 = .ok (.getfield 17, 3) := by decide +kernel
theorem dX3_stepBack_5 : decode cX3_stepBack 5 = .ok (.ifCond .le 12, 3) := by decide +kernel
theorem dX3_stepBack_8 : decode cX3_stepBack 8 = .ok (.aload_n 0, 1) := by decide +kernel
theorem dX3_stepBack_9 : decode cX3_stepBack 9 = .ok (.getfield 17, 3) := by decide +kernel
theorem dX3_stepBack_12 : decode cX3_stepBack 12 = .ok (.iconst 1, 1) := by decide +kernel
theorem dX3_stepBack_13 : decode cX3_stepBack 13 = .ok (.isub, 1) := by decide +kernel
theorem dX3_stepBack_14 : decode cX3_stepBack 14 = .ok (.goto 5, 3) := by decide +kernel
theorem dX3_stepBack_17 : decode cX3_stepBack 17 = .ok (.bipush 12, 2) := by decide +kernel
theorem dX3_stepBack_19 : decode cX3_stepBack 19 = .ok (.putfield 17, 3) := by decide +kernel
theorem dX3_stepBack_22 : decode cX3_stepBack 22 = .ok (.aload_n 0, 1) := by decide +kernel
theorem dX3_stepBack_23 : decode cX3_stepBack 23 = .ok (.dup, 1) := by decide +kernel
theorem dX3_stepBack_24 : decode cX3_stepBack 24 = .ok (.getfield 21, 3) := by decide +kernel
theorem dX3_stepBack_27 : decode cX3_stepBack 27 = .ok (.iconst 1, 1) := by decide +kernel
theorem dX3_stepBack_28 : decode cX3_stepBack 28 = .ok (.isub, 1) := by decide +kernel
theorem dX3_stepBack_29 : decode cX3_stepBack 29 = .ok (.putfield 21, 3) := by decide +kernel
theorem dX3_stepBack_32 : decode cX3_stepBack 32 = .ok (.aload_n 0, 1) := by decide +kernel
theorem dX3_stepBack_33 : decode cX3_stepBack 33 = .ok (.getfield 13, 3) := by decide +kernel
theorem dX3_stepBack_36 : decode cX3_stepBack 36 = .ok (.aload_n 0, 1) := by decide +kernel
theorem dX3_stepBack_37 : decode cX3_stepBack 37 = .ok (.getfield 17, 3) := by decide +kernel
theorem dX3_stepBack_40 : decode cX3_stepBack 40 = .ok (.aaload, 1) := by decide +kernel
theorem dX3_stepBack_41 : decode cX3_stepBack 41 = .ok (.aload_n 1, 1) := by decide +kernel
theorem dX3_stepBack_42 : decode cX3_stepBack 42 = .ok (.invokevirtual 35, 3) := by decide +kernel
theorem dX3_stepBack_45 : decode cX3_stepBack 45 = .ok (.return_, 1) := by decide +kernel
theorem dX3_forget_0 : decode cX3_forget 0 = .ok (.aload_n 0, 1) := by decide +kernel
theorem dX3_forget_1 : decode cX3_forget 1 = .ok (.iconst 0, 1) := by decide +kernel
theorem dX3_forget_2 : decode cX3_forget 2 = .ok (.putfield 21, 3) := by decide +kernel
theorem dX3_forget_5 : decode cX3_forget 5 = .ok (.return_, 1) := by decide +kernel
theorem dX4_init_0 : decode cX4_init 0 = .ok (.aload_n 0, 1) := by decide +kernel
theorem dX4_init_1 : decode cX4_init 1 = .ok (.invokespecial 3, 3) := by decide +kernel
theorem dX4_init_4 : decode cX4_init 4 = .ok (.aload_n 0, 1) := by decide +kernel
theorem dX4_init_5 : decode cX4_init 5 = .ok (.aload_n 1, 1) := by decide +kernel
theorem dX4_init_6 : decode cX4_init 6 = .ok (.putfield 9, 3) := by decide +kernel
theorem dX4_init_9 : decode cX4_init 9 = .ok (.aload_n 0, 1) := by decide +kernel
theorem dX4_init_10 : decode cX4_init 10 = .ok (.iconst 0, 1) := by decide +kernel
theorem dX4_init_11 : decode cX4_init 11 = .ok (.putfield 15, 3) := by decide +kernel
theorem dX4_init_14 : decode cX4_init 14 = .ok (.return_, 1) := by decide +kernel
theorem dX4_byteAt_0 : decode cX4_byteAt 0 = .ok (.iload_n 1, 1) := by decide +kernel
theorem dX4_byteAt_1 : decode cX4_byteAt 1 = .ok (.ifCond .lt 33, 3) := by decide +kernel
theorem dX4_byteAt_4 : decode cX4_byteAt 4 = .ok (.iload_n 1, 1) := by decide +kernel
theorem dX4_byteAt_5 : decode cX4_byteAt 5 = .ok (.aload_n 0, 1) := by decide +kernel
theorem dX4_byteAt_6 : decode cX4_byteAt 6 = .ok (.getfield 15, 3) := by decide +kernel
theorem dX4_byteAt_9 : decode cX4_byteAt 9 = .ok (.if_icmp .ge 25, 3) := by decide +kernel
theorem dX4_byteAt_12 : decode cX4_byteAt 12 = .ok (.iload_n 1, 1) := by decide +kernel
theorem dX4_byteAt_13 : decode cX4_byteAt 13 = .ok (.aload_n 0, 1) := by decide +kernel
theorem dX4_byteAt_14 : decode cX4_byteAt 14 = .ok (.getfield 9, 3) := by decide +kernel
theorem dX4_byteAt_17 : decode cX4_byteAt 17 = .ok (.arraylength, 1) := by decide +kernel
theorem dX4_byteAt_18 : decode cX4_byteAt 18 = .ok (.if_icmp .ge 16, 3) := by decide +kernel
theorem dX4_byteAt_21 : decode cX4_byteAt 21 = .ok (.aload_n 0, 1) := by decide +kernel
theorem dX4_byteAt_22 : decode cX4_byteAt 22 = .ok (.getfield 9, 3) := by decide +kernel
theorem dX4_byteAt_25 : decode cX4_byteAt 25 = .ok (.iload_n 1, 1) := by decide +kernel
theorem dX4_byteAt_26 : decode cX4_byteAt 26 = .ok (.baload, 1) := by decide +kernel
theorem dX4_byteAt_27 : decode cX4_byteAt 27 = .ok (.sipush 255, 3) := by decide +kernel
theorem dX4_byteAt_30 : decode cX4_byteAt 30 = .ok (.iand, 1) := by decide +kernel
theorem dX4_byteAt_31 : decode cX4_byteAt 31 = .ok (.goto 4, 3) := by decide +kernel
theorem dX4_byteAt_34 : decode cX4_byteAt 34 = .ok (.iconst (-1), 1) := by decide +kernel
theorem dX4_byteAt_35 : decode cX4_byteAt 35 = .ok (.ireturn, 1) := by decide +kernel
theorem dX4_add_0 : decode cX4_add 0 = .ok (.aload_n 0, 1) := by decide +kernel
theorem dX4_add_1 : decode cX4_add 1 = .ok (.getfield 15, 3) := by decide +kernel
theorem dX4_add_4 : decode cX4_add 4 = .ok (.ifCond .lt 36, 3) := by decide +kernel
theorem dX4_add_7 : decode cX4_add 7 = .ok (.aload_n 0, 1) := by decide +kernel
theorem dX4_add_8 : decode cX4_add 8 = .ok (.getfield 15, 3) := by decide +kernel
theorem dX4_add_11 : decode cX4_add 11 = .ok (.aload_n 0, 1) := by decide +kernel
theorem dX4_add_12 : decode cX4_add 12 = .ok (.getfield 9, 3) := by decide +kernel
theorem dX4_add_15 : decode cX4_add 15 = .ok (.arraylength, 1) := by decide +kernel
theorem dX4_add_16 : decode cX4_add 16 = .ok (.if_icmp .ge 24, 3) := by decide +kernel
theorem dX4_add_19 : decode cX4_add 19 = .ok (.aload_n 0, 1) := by decide +kernel
theorem dX4_add_20 : decode cX4_add 20 = .ok (.getfield 9, 3) := by decide +kernel
theorem dX4_add_23 : decode cX4_add 23 = .ok (.aload_n 0, 1) := by decide +kernel
theorem dX4_add_24 : decode cX4_add 24 = .ok (.getfield 15, 3) := by decide +kernel
theorem dX4_add_27 : decode cX4_add 27 = .ok (.iload_n 1, 1) := by decide +kernel
theorem dX4_add_28 : decode cX4_add 28 = .ok (.i2b, 1) := by decide +kernel
theorem dX4_add_29 : decode cX4_add 29 = .ok (.bastore, 1) := by decide +kernel
theorem dX4_add_30 : decode cX4_add 30 = .ok (.aload_n 0, 1) := by decide +kernel
theorem dX4_add_31 : decode cX4_add 31 = .ok (.dup, 1) := by decide +kernel
theorem dX4_add_32 : decode cX4_add 32 = .ok (.getfield 15, 3) := by decide +kernel
theorem dX4_add_35 : decode cX4_add 35 = .ok (.iconst 1, 1) := by decide +kernel
theorem dX4_add_36 : decode cX4_add 36 = .ok (.iadd, 1) := by decide +kernel
theorem dX4_add_37 : decode cX4_add 37 = .ok (.putfield 15, 3) := by decide +kernel
theorem dX4_add_40 : decode cX4_add 40 = .ok (.return_, 1) := by decide +kernel
theorem dX4_addFour_0 : decode cX4_addFour 0 = .ok (.aload_n 0, 1) := by decide +kernel
theorem dX4_addFour_1 : decode cX4_addFour 1 = .ok (.iload_n 1, 1) := by decide +kernel
theorem dX4_addFour_2 : decode cX4_addFour 2 = .ok (.bipush 24, 2) := by decide +kernel
theorem dX4_addFour_4 : decode cX4_addFour 4 = .ok (.iushr, 1) := by decide +kernel
theorem dX4_addFour_5 : decode cX4_addFour 5 = .ok (.invokevirtual 19, 3) := by decide +kernel
theorem dX4_addFour_8 : decode cX4_addFour 8 = .ok (.aload_n 0, 1) := by decide +kernel
theorem dX4_addFour_9 : decode cX4_addFour 9 = .ok (.iload_n 1, 1) := by decide +kernel
theorem dX4_addFour_10 : decode cX4_addFour 10 = .ok (.bipush 16, 2) := by decide +kernel
theorem dX4_addFour_12 : decode cX4_addFour 12 = .ok (.iushr, 1) := by decide +kernel
theorem dX4_addFour_13 : decode cX4_addFour 13 = .ok (.invokevirtual 19, 3) := by decide +kernel
theorem dX4_addFour_16 : decode cX4_addFour 16 = .ok (.aload_n 0, 1) := by decide +kernel
theorem dX4_addFour_17 : decode cX4_addFour 17 = .ok (.iload_n 1, 1) := by decide +kernel
theorem dX4_addFour_18 : decode cX4_addFour 18 = .ok (.bipush 8, 2) := by decide +kernel
theorem dX4_addFour_20 : decode cX4_addFour 20 = .ok (.iushr, 1) := by decide +kernel
theorem dX4_addFour_21 : decode cX4_addFour 21 = .ok (.invokevirtual 19, 3) := by decide +kernel
theorem dX4_addFour_24 : decode cX4_addFour 24 = .ok (.aload_n 0, 1) := by decide +kernel
theorem dX4_addFour_25 : decode cX4_addFour 25 = .ok (.iload_n 1, 1) := by decide +kernel
theorem dX4_addFour_26 : decode cX4_addFour 26 = .ok (.invokevirtual 19, 3) := by decide +kernel
theorem dX4_addFour_29 : decode cX4_addFour 29 = .ok (.return_, 1) := by decide +kernel
theorem dX4_addNumber_0 : decode cX4_addNumber 0 = .ok (.iconst 0, 1) := by decide +kernel
theorem dX4_addNumber_1 : decode cX4_addNumber 1 = .ok (.istore_n 2, 1) := by decide +kernel
theorem dX4_addNumber_2 : decode cX4_addNumber 2 = .ok (.sipush 1000, 3) := by decide +kernel
theorem dX4_addNumber_5 : decode cX4_addNumber 5 = .ok (.istore_n 3, 1) := by decide +kernel
theorem dX4_addNumber_6 : decode cX4_addNumber 6 = .ok (.iload_n 3, 1) := by decide +kernel
theorem dX4_addNumber_7 : decode cX4_addNumber 7 = .ok (.ifCond .le 52, 3) := by decide +kernel
theorem dX4_addNumber_10 : decode cX4_addNumber 10 = .ok (.iload_n 1, 1) := by decide +kernel
theorem dX4_addNumber_11 : decode cX4_addNumber 11 = .ok (.iload_n 3, 1) := by decide +kernel
theorem dX4_addNumber_12 : decode cX4_addNumber 12 = .ok (.idiv, 1) := by decide +kernel
theorem dX4_addNumber_13 : decode cX4_addNumber 13 = .ok (.bipush 10, 2) := by decide +kernel
theorem dX4_addNumber_15 : decode cX4_addNumber 15 = .ok (.irem, 1) := by decide +kernel
theorem dX4_addNumber_16 : decode cX4_addNumber 16 = .ok (.istore 4, 2) := by decide +kernel
theorem dX4_addNumber_18 : decode cX4_addNumber 18 = .ok (.iload_n 2, 1) := by decide +kernel
theorem dX4_addNumber_19 : decode cX4_addNumber 19 = .ok (.ifCond .ne 13, 3) := by decide +kernel
theorem dX4_addNumber_22 : decode cX4_addNumber 22 = .ok (.iload 4, 2) := by decide +kernel
theorem dX4_addNumber_24 : decode cX4_addNumber 24 = .ok (.ifCond .gt 8, 3) := by decide +kernel
theorem dX4_addNumber_27 : decode cX4_addNumber 27 = .ok (.iload_n 3, 1) := by decide +kernel
theorem dX4_addNumber_28 : decode cX4_addNumber 28 = .ok (.iconst 1, 1) := by decide +kernel
theorem dX4_addNumber_29 : decode cX4_addNumber 29 = .ok (.if_icmp .ne 7, 3) := by decide +kernel
theorem dX4_addNumber_32 : decode cX4_addNumber 32 = .ok (.iconst 1, 1) := by decide +kernel
theorem dX4_addNumber_33 : decode cX4_addNumber 33 = .ok (.goto 4, 3) := by decide +kernel
theorem dX4_addNumber_36 : decode cX4_addNumber 36 = .ok (.iconst 0, 1) := by decide +kernel
theorem dX4_addNumber_37 : decode cX4_addNumber 37 = .ok (.istore_n 2, 1) := by decide +kernel
theorem dX4_addNumber_38 : decode cX4_addNumber 38 = .ok (.iload_n 2, 1) := by decide +kernel
theorem dX4_addNumber_39 : decode cX4_addNumber 39 = .ok (.ifCond .eq 12, 3) := by decide +kernel
theorem dX4_addNumber_42 : decode cX4_addNumber 42 = .ok (.aload_n 0, 1) := by decide +kernel
theorem dX4_addNumber_43 : decode cX4_addNumber 43 = .ok (.bipush 48, 2) := by decide +kernel
theorem dX4_addNumber_45 : decode cX4_addNumber 45 = .ok (.iload 4, 2) := by decide +kernel
theorem dX4_addNumber_47 : decode cX4_addNumber 47 = .ok (.iadd, 1) := by decide +kernel
theorem dX4_addNumber_48 : decode cX4_addNumber 48 = .ok (.invokevirtual 19, 3) := by decide +kernel
theorem dX4_addNumber_51 : decode cX4_addNumber 51 = .ok (.iload_n 3, 1) := by decide +kernel
theorem dX4_addNumber_52 : decode cX4_addNumber 52 = .ok (.bipush 10, 2) := by decide +kernel
theorem dX4_addNumber_54 : decode cX4_addNumber 54 = .ok (.idiv, 1) := by decide +kernel
theorem dX4_addNumber_55 : decode cX4_addNumber 55 = .ok (.istore_n 3, 1) := by decide +kernel
theorem dX4_addNumber_56 : decode cX4_addNumber 56 = .ok (.goto (-50), 3) := by decide +kernel
theorem dX4_addNumber_59 : decode cX4_addNumber 59 = .ok (.return_, 1) := by decide +kernel
theorem dX4_copy_0 : decode cX4_copy 0 = .ok (.aload_n 0, 1) := by decide +kernel
theorem dX4_copy_1 : decode cX4_copy 1 = .ok (.aload_n 1, 1) := by decide +kernel
theorem dX4_copy_2 : decode cX4_copy 2 = .ok (.getfield 15, 3) := by decide +kernel
theorem dX4_copy_5 : decode cX4_copy 5 = .ok (.aload_n 0, 1) := by decide +kernel
theorem dX4_copy_6 : decode cX4_copy 6 = .ok (.getfield 9, 3) := by decide +kernel
theorem dX4_copy_9 : decode cX4_copy 9 = .ok (.arraylength, 1) := by decide +kernel
theorem dX4_copy_10 : decode cX4_copy 10 = .ok (.invokestatic 23, 3) := by decide +kernel
theorem dX4_copy_13 : decode cX4_copy 13 = .ok (.putfield 15, 3) := by decide +kernel
theorem dX4_copy_16 : decode cX4_copy 16 = .ok (.aload_n 1, 1) := by decide +kernel
theorem dX4_copy_17 : decode cX4_copy 17 = .ok (.getfield 9, 3) := by decide +kernel
theorem dX4_copy_20 : decode cX4_copy 20 = .ok (.iconst 0, 1) := by decide +kernel
theorem dX4_copy_21 : decode cX4_copy 21 = .ok (.aload_n 0, 1) := by decide +kernel
theorem dX4_copy_22 : decode cX4_copy 22 = .ok (.getfield 9, 3) := by decide +kernel
theorem dX4_copy_25 : decode cX4_copy 25 = .ok (.iconst 0, 1) := by decide +kernel
theorem dX4_copy_26 : decode cX4_copy 26 = .ok (.aload_n 0, 1) := by decide +kernel
theorem dX4_copy_27 : decode cX4_copy 27 = .ok (.getfield 15, 3) := by decide +kernel
theorem dX4_copy_30 : decode cX4_copy 30 = .ok (.invokestatic 29, 3) := by decide +kernel
theorem dX4_copy_33 : decode cX4_copy 33 = .ok (.return_, 1) := by decide +kernel
theorem dX5_init_0 : decode cX5_init 0 = .ok (.aload_n 0, 1) := by decide +kernel
theorem dX5_init_1 : decode cX5_init 1 = .ok (.invokespecial 3, 3) := by decide +kernel
theorem dX5_init_4 : decode cX5_init 4 = .ok (.aload_n 0, 1) := by decide +kernel
theorem dX5_init_5 : decode cX5_init 5 = .ok (.iconst 4, 1) := by decide +kernel
theorem dX5_init_6 : decode cX5_init 6 = .ok (.newarray .int, 2) := by decide +kernel
theorem dX5_init_8 : decode cX5_init 8 = .ok (.putfield 9, 3) := by decide +kernel
theorem dX5_init_11 : decode cX5_init 11 = .ok (.aload_n 0, 1) := by decide +kernel
theorem dX5_init_12 : decode cX5_init 12 = .ok (.aload_n 1, 1) := by decide +kernel
theorem dX5_init_13 : decode cX5_init 13 = .ok (.putfield 15, 3) := by decide +kernel
theorem dX5_init_16 : decode cX5_init 16 = .ok (.aload_n 0, 1) := by decide +kernel
theorem dX5_init_17 : decode cX5_init 17 = .ok (.aload_n 2, 1) := by decide +kernel
theorem dX5_init_18 : decode cX5_init 18 = .ok (.putfield 19, 3) := by decide +kernel
theorem dX5_init_21 : decode cX5_init 21 = .ok (.return_, 1) := by decide +kernel
theorem dX5_perform_0 : decode cX5_perform 0 = .ok (.aload_n 0, 1) := by decide +kernel
theorem dX5_perform_1 : decode cX5_perform 1 = .ok (.iconst 0, 1) := by decide +kernel
theorem dX5_perform_2 : decode cX5_perform 2 = .ok (.putfield 23, 3) := by decide +kernel
theorem dX5_perform_5 : decode cX5_perform 5 = .ok (.aload_n 0, 1) := by decide +kernel
theorem dX5_perform_6 : decode cX5_perform 6 = .ok (.iconst 0, 1) := by decide +kernel
theorem dX5_perform_7 : decode cX5_perform 7 = .ok (.putfield 27, 3) := by decide +kernel
theorem dX5_perform_10 : decode cX5_perform 10 = .ok (.aload_n 0, 1) := by decide +kernel
theorem dX5_perform_11 : decode cX5_perform 11 = .ok (.iconst (-1), 1) := by decide +kernel
theorem dX5_perform_12 : decode cX5_perform 12 = .ok (.putfield 30, 3) := by decide +kernel
theorem dX5_perform_15 : decode cX5_perform 15 = .ok (.aload_n 0, 1) := by decide +kernel
theorem dX5_perform_16 : decode cX5_perform 16 = .ok (.invokevirtual 33, 3) := by decide +kernel
theorem dX5_perform_19 : decode cX5_perform 19 = .ok (.iconst 0, 1) := by decide +kernel
theorem dX5_perform_20 : decode cX5_perform 20 = .ok (.istore_n 1, 1) := by decide +kernel
theorem dX5_perform_21 : decode cX5_perform 21 = .ok (.iload_n 1, 1) := by decide +kernel
theorem dX5_perform_22 : decode cX5_perform 22 = .ok (.sipush 800, 3) := by decide +kernel
theorem dX5_perform_25 : decode cX5_perform 25 = .ok (.if_icmp .ge 27, 3) := by decide +kernel
theorem dX5_perform_28 : decode cX5_perform 28 = .ok (.aload_n 0, 1) := by decide +kernel
theorem dX5_perform_29 : decode cX5_perform 29 = .ok (.getfield 27, 3) := by decide +kernel
theorem dX5_perform_32 : decode cX5_perform 32 = .ok (.ifCond .ne 20, 3) := by decide +kernel
theorem dX5_perform_35 : decode cX5_perform 35 = .ok (.aload_n 0, 1) := by decide +kernel
theorem dX5_perform_36 : decode cX5_perform 36 = .ok (.getfield 36, 3) := by decide +kernel
theorem dX5_perform_39 : decode cX5_perform 39 = .ok (.ifCond .eq 13, 3) := by decide +kernel
theorem dX5_perform_42 : decode cX5_perform 42 = .ok (.aload_n 0, 1) := by decide +kernel
theorem dX5_perform_43 : decode cX5_perform 43 = .ok (.invokevirtual 39, 3) := by decide +kernel
theorem dX5_perform_46 : decode cX5_perform 46 = .ok (.iinc 1 1, 3) := by decide +kernel
theorem dX5_perform_49 : decode cX5_perform 49 = .ok (.goto (-28), 3) := by decide +kernel
theorem dX5_perform_52 : decode cX5_perform 52 = .ok (.return_, 1) := by decide +kernel
theorem dX5_doLine_0 : decode cX5_doLine 0 = .ok (.aload_n 0, 1) := by decide +kernel
theorem dX5_doLine_1 : decode cX5_doLine 1 = .ok (.getfield 42, 3) := by decide +kernel
theorem dX5_doLine_4 : decode cX5_doLine 4 = .ok (.istore_n 1, 1) := by decide +kernel
theorem dX5_doLine_5 : decode cX5_doLine 5 = .ok (.aload_n 0, 1) := by decide +kernel
theorem dX5_doLine_6 : decode cX5_doLine 6 = .ok (.getfield 36, 3) := by decide +kernel
theorem dX5_doLine_9 : decode cX5_doLine 9 = .ok (.iconst 2, 1) := by decide +kernel
theorem dX5_doLine_10 : decode cX5_doLine 10 = .ok (.if_icmp .ne 10, 3) := by decide +kernel
theorem dX5_doLine_13 : decode cX5_doLine 13 = .ok (.aload_n 0, 1) := by decide +kernel
theorem dX5_doLine_14 : decode cX5_doLine 14 = .ok (.invokevirtual 45, 3) := by decide +kernel
theorem dX5_doLine_17 : decode cX5_doLine 17 = .ok (.goto 4, 3) := by decide +kernel
theorem dX5_doLine_20 : decode cX5_doLine 20 = .ok (.iconst (-1), 1) := by decide +kernel
theorem dX5_doLine_21 : decode cX5_doLine 21 = .ok (.istore_n 2, 1) := by decide +kernel
theorem dX5_doLine_22 : decode cX5_doLine 22 = .ok (.iload_n 2, 1) := by decide +kernel
theorem dX5_doLine_23 : decode cX5_doLine 23 = .ok (.iconst (-1), 1) := by decide +kernel
theorem dX5_doLine_24 : decode cX5_doLine 24 = .ok (.if_icmp .ne 13, 3) := by decide +kernel
theorem dX5_doLine_27 : decode cX5_doLine 27 = .ok (.aload_n 0, 1) := by decide +kernel
theorem dX5_doLine_28 : decode cX5_doLine 28 = .ok (.iconst 1, 1) := by decide +kernel
theorem dX5_doLine_29 : decode cX5_doLine 29 = .ok (.aload_n 0, 1) := by decide +kernel
theorem dX5_doLine_30 : decode cX5_doLine 30 = .ok (.getfield 42, 3) := by decide +kernel
theorem dX5_doLine_33 : decode cX5_doLine 33 = .ok (.invokevirtual 49, 3) := by decide +kernel
theorem dX5_doLine_36 : decode cX5_doLine 36 = .ok (.return_, 1) := by decide +kernel
theorem dX5_doLine_37 : decode cX5_doLine 37 = .ok (.aload_n 0, 1) := by decide +kernel
theorem dX5_doLine_38 : decode cX5_doLine 38 = .ok (.invokevirtual 33, 3) := by decide +kernel
theorem dX5_doLine_41 : decode cX5_doLine 41 = .ok (.iload_n 2, 1) := by decide +kernel
theorem dX5_doLine_42 : decode cX5_doLine 42 = .ok (.invokestatic 53, 3) := by decide +kernel
theorem dX5_doLine_45 : decode cX5_doLine 45 = .ok (.astore_n 3, 1) := by decide +kernel
theorem dX5_doLine_46 : decode cX5_doLine 46 = .ok (.iconst 0, 1) := by decide +kernel
theorem dX5_doLine_47 : decode cX5_doLine 47 = .ok (.istore 4, 2) := by decide +kernel
theorem dX5_doLine_49 : decode cX5_doLine 49 = .ok (.iload 4, 2) := by decide +kernel
theorem dX5_doLine_51 : decode cX5_doLine 51 = .ok (.aload_n 3, 1) := by decide +kernel
theorem dX5_doLine_52 : decode cX5_doLine 52 = .ok (.invokevirtual 57, 3) := by decide +kernel
theorem dX5_doLine_55 : decode cX5_doLine 55 = .ok (.if_icmp .ge 36, 3) := by decide +kernel
theorem dX5_doLine_58 : decode cX5_doLine 58 = .ok (.iload 4, 2) := by decide +kernel
theorem dX5_doLine_60 : decode cX5_doLine 60 = .ok (.aload_n 0, 1) := by decide +kernel
theorem dX5_doLine_61 : decode cX5_doLine 61 = .ok (.getfield 9, 3) := by decide +kernel
theorem dX5_doLine_64 : decode cX5_doLine 64 = .ok (.arraylength, 1) := by decide +kernel
theorem dX5_doLine_65 : decode cX5_doLine 65 = .ok (.if_icmp .ge 26, 3) := by decide +kernel
theorem dX5_doLine_68 : decode cX5_doLine 68 = .ok (.aload_n 0, 1) := by decide +kernel
theorem dX5_doLine_69 : decode cX5_doLine 69 = .ok (.getfield 9, 3) := by decide +kernel
theorem dX5_doLine_72 : decode cX5_doLine 72 = .ok (.iload 4, 2) := by decide +kernel
theorem dX5_doLine_74 : decode cX5_doLine 74 = .ok (.aload_n 0, 1) := by decide +kernel
theorem dX5_doLine_75 : decode cX5_doLine 75 = .ok (.aload_n 3, 1) := by decide +kernel
theorem dX5_doLine_76 : decode cX5_doLine 76 = .ok (.iload 4, 2) := by decide +kernel
theorem dX5_doLine_78 : decode cX5_doLine 78 = .ok (.invokevirtual 62, 3) := by decide +kernel
theorem dX5_doLine_81 : decode cX5_doLine 81 = .ok (.invokevirtual 66, 3) := by decide +kernel
theorem dX5_doLine_84 : decode cX5_doLine 84 = .ok (.iastore, 1) := by decide +kernel
theorem dX5_doLine_85 : decode cX5_doLine 85 = .ok (.iinc 4 1, 3) := by decide +kernel
theorem dX5_doLine_88 : decode cX5_doLine 88 = .ok (.goto (-39), 3) := by decide +kernel
theorem dX5_doLine_91 : decode cX5_doLine 91 = .ok (.iconst 0, 1) := by decide +kernel
theorem dX5_doLine_92 : decode cX5_doLine 92 = .ok (.istore 4, 2) := by decide +kernel
theorem dX5_doLine_94 : decode cX5_doLine 94 = .ok (.iload 4, 2) := by decide +kernel
theorem dX5_doLine_96 : decode cX5_doLine 96 = .ok (.sipush 800, 3) := by decide +kernel
theorem dX5_doLine_99 : decode cX5_doLine 99 = .ok (.if_icmp .ge 38, 3) := by decide +kernel
theorem dX5_doLine_102 : decode cX5_doLine 102 = .ok (.iload_n 2, 1) := by decide +kernel
theorem dX5_doLine_103 : decode cX5_doLine 103 = .ok (.ifCond .ne 34, 3) := by decide +kernel
theorem dX5_doLine_106 : decode cX5_doLine 106 = .ok (.aload_n 0, 1) := by decide +kernel
theorem dX5_doLine_107 : decode cX5_doLine 107 = .ok (.getfield 27, 3) := by decide +kernel
theorem dX5_doLine_110 : decode cX5_doLine 110 = .ok (.ifCond .ne 27, 3) := by decide +kernel
theorem dX5_doLine_113 : decode cX5_doLine 113 = .ok (.aload_n 0, 1) := by decide +kernel
theorem dX5_doLine_114 : decode cX5_doLine 114 = .ok (.getfield 36, 3) := by decide +kernel
theorem dX5_doLine_117 : decode cX5_doLine 117 = .ok (.iconst 3, 1) := by decide +kernel
theorem dX5_doLine_118 : decode cX5_doLine 118 = .ok (.if_icmp .ne 19, 3) := by decide +kernel
theorem dX5_doLine_121 : decode cX5_doLine 121 = .ok (.aload_n 0, 1) := by decide +kernel
theorem dX5_doLine_122 : decode cX5_doLine 122 = .ok (.aload_n 0, 1) := by decide +kernel
theorem dX5_doLine_123 : decode cX5_doLine 123 = .ok (.getfield 9, 3) := by decide +kernel
theorem dX5_doLine_126 : decode cX5_doLine 126 = .ok (.iconst 0, 1) := by decide +kernel
theorem dX5_doLine_127 : decode cX5_doLine 127 = .ok (.iaload, 1) := by decide +kernel
theorem dX5_doLine_128 : decode cX5_doLine 128 = .ok (.invokevirtual 70, 3) := by decide +kernel
theorem dX5_doLine_131 : decode cX5_doLine 131 = .ok (.iinc 4 1, 3) := by decide +kernel
theorem dX5_doLine_134 : decode cX5_doLine 134 = .ok (.goto (-40), 3) := by decide +kernel
theorem dX5_doLine_137 : decode cX5_doLine 137 = .ok (.aload_n 0, 1) := by decide +kernel
theorem dX5_doLine_138 : decode cX5_doLine 138 = .ok (.getfield 36, 3) := by decide +kernel
theorem dX5_doLine_141 : decode cX5_doLine 141 = .ok (.bipush 59, 2) := by decide +kernel
theorem dX5_doLine_143 : decode cX5_doLine 143 = .ok (.if_icmp .eq 12, 3) := by decide +kernel
theorem dX5_doLine_146 : decode cX5_doLine 146 = .ok (.aload_n 0, 1) := by decide +kernel
theorem dX5_doLine_147 : decode cX5_doLine 147 = .ok (.iconst 1, 1) := by decide +kernel
theorem dX5_doLine_148 : decode cX5_doLine 148 = .ok (.aload_n 0, 1) := by decide +kernel
theorem dX5_doLine_149 : decode cX5_doLine 149 = .ok (.getfield 42, 3) := by decide +kernel
theorem dX5_doLine_152 : decode cX5_doLine 152 = .ok (.invokevirtual 49, 3) := by decide +kernel
theorem dX5_doLine_155 : decode cX5_doLine 155 = .ok (.aload_n 0, 1) := by decide +kernel
theorem dX5_doLine_156 : decode cX5_doLine 156 = .ok (.getfield 27, 3) := by decide +kernel
theorem dX5_doLine_159 : decode cX5_doLine 159 = .ok (.ifCond .ne 17, 3) := by decide +kernel
theorem dX5_doLine_162 : decode cX5_doLine 162 = .ok (.aload_n 0, 1) := by decide +kernel
theorem dX5_doLine_163 : decode cX5_doLine 163 = .ok (.iload_n 2, 1) := by decide +kernel
theorem dX5_doLine_164 : decode cX5_doLine 164 = .ok (.invokevirtual 74, 3) := by decide +kernel
theorem dX5_doLine_167 : decode cX5_doLine 167 = .ok (.ifCond .ge 9, 3) := by decide +kernel
theorem dX5_doLine_170 : decode cX5_doLine 170 = .ok (.aload_n 0, 1) := by decide +kernel
theorem dX5_doLine_171 : decode cX5_doLine 171 = .ok (.iconst 4, 1) := by decide +kernel
theorem dX5_doLine_172 : decode cX5_doLine 172 = .ok (.iload_n 1, 1) := by decide +kernel
theorem dX5_doLine_173 : decode cX5_doLine 173 = .ok (.invokevirtual 49, 3) := by decide +kernel
theorem dX5_doLine_176 : decode cX5_doLine 176 = .ok (.aload_n 0, 1) := by decide +kernel
theorem dX5_doLine_177 : decode cX5_doLine 177 = .ok (.invokevirtual 33, 3) := by decide +kernel
theorem dX5_doLine_180 : decode cX5_doLine 180 = .ok (.return_, 1) := by decide +kernel
theorem dX5_fail_0 : decode cX5_fail 0 = .ok (.aload_n 0, 1) := by decide +kernel
theorem dX5_fail_1 : decode cX5_fail 1 = .ok (.getfield 27, 3) := by decide +kernel
theorem dX5_fail_4 : decode cX5_fail 4 = .ok (.ifCond .ne 13, 3) := by decide +kernel
theorem dX5_fail_7 : decode cX5_fail 7 = .ok (.aload_n 0, 1) := by decide +kernel
theorem dX5_fail_8 : decode cX5_fail 8 = .ok (.iload_n 1, 1) := by decide +kernel
theorem dX5_fail_9 : decode cX5_fail 9 = .ok (.putfield 27, 3) := by decide +kernel
theorem dX5_fail_12 : decode cX5_fail 12 = .ok (.aload_n 0, 1) := by decide +kernel
theorem dX5_fail_13 : decode cX5_fail 13 = .ok (.iload_n 2, 1) := by decide +kernel
theorem dX5_fail_14 : decode cX5_fail 14 = .ok (.putfield 30, 3) := by decide +kernel
theorem dX5_fail_17 : decode cX5_fail 17 = .ok (.return_, 1) := by decide +kernel
theorem dX5_lineHere_0 : decode cX5_lineHere 0 = .ok (.aload_n 0, 1) := by decide +kernel
theorem dX5_lineHere_1 : decode cX5_lineHere 1 = .ok (.ldc 78, 2) := by decide +kernel
theorem dX5_lineHere_3 : decode cX5_lineHere 3 = .ok (.invokevirtual 80, 3) := by decide +kernel
theorem dX5_lineHere_6 : decode cX5_lineHere 6 = .ok (.ifCond .eq 7, 3) := by decide +kernel
theorem dX5_lineHere_9 : decode cX5_lineHere 9 = .ok (.iconst 0, 1) := by decide +kernel
theorem dX5_lineHere_10 : decode cX5_lineHere 10 = .ok (.goto 83, 3) := by decide +kernel
theorem dX5_lineHere_13 : decode cX5_lineHere 13 = .ok (.aload_n 0, 1) := by decide +kernel
theorem dX5_lineHere_14 : decode cX5_lineHere 14 = .ok (.ldc 84, 2) := by decide +kernel
theorem dX5_lineHere_16 : decode cX5_lineHere 16 = .ok (.invokevirtual 80, 3) := by decide +kernel
theorem dX5_lineHere_19 : decode cX5_lineHere 19 = .ok (.ifCond .eq 7, 3) := by decide +kernel
theorem dX5_lineHere_22 : decode cX5_lineHere 22 = .ok (.iconst 1, 1) := by decide +kernel
theorem dX5_lineHere_23 : decode cX5_lineHere 23 = .ok (.goto 70, 3) := by decide +kernel
theorem dX5_lineHere_26 : decode cX5_lineHere 26 = .ok (.aload_n 0, 1) := by decide +kernel
theorem dX5_lineHere_27 : decode cX5_lineHere 27 = .ok (.ldc 86, 2) := by decide +kernel
theorem dX5_lineHere_29 : decode cX5_lineHere 29 = .ok (.invokevirtual 80, 3) := by decide +kernel
theorem dX5_lineHere_32 : decode cX5_lineHere 32 = .ok (.ifCond .eq 7, 3) := by decide +kernel
theorem dX5_lineHere_35 : decode cX5_lineHere 35 = .ok (.iconst 2, 1) := by decide +kernel
theorem dX5_lineHere_36 : decode cX5_lineHere 36 = .ok (.goto 57, 3) := by decide +kernel
theorem dX5_lineHere_39 : decode cX5_lineHere 39 = .ok (.aload_n 0, 1) := by decide +kernel
theorem dX5_lineHere_40 : decode cX5_lineHere 40 = .ok (.ldc 88, 2) := by decide +kernel
theorem dX5_lineHere_42 : decode cX5_lineHere 42 = .ok (.invokevirtual 80, 3) := by decide +kernel
theorem dX5_lineHere_45 : decode cX5_lineHere 45 = .ok (.ifCond .eq 7, 3) := by decide +kernel
theorem dX5_lineHere_48 : decode cX5_lineHere 48 = .ok (.iconst 3, 1) := by decide +kernel
theorem dX5_lineHere_49 : decode cX5_lineHere 49 = .ok (.goto 44, 3) := by decide +kernel
theorem dX5_lineHere_52 : decode cX5_lineHere 52 = .ok (.aload_n 0, 1) := by decide +kernel
theorem dX5_lineHere_53 : decode cX5_lineHere 53 = .ok (.ldc 90, 2) := by decide +kernel
theorem dX5_lineHere_55 : decode cX5_lineHere 55 = .ok (.invokevirtual 80, 3) := by decide +kernel
theorem dX5_lineHere_58 : decode cX5_lineHere 58 = .ok (.ifCond .eq 7, 3) := by decide +kernel
theorem dX5_lineHere_61 : decode cX5_lineHere 61 = .ok (.iconst 4, 1) := by decide +kernel
theorem dX5_lineHere_62 : decode cX5_lineHere 62 = .ok (.goto 31, 3) := by decide +kernel
theorem dX5_lineHere_65 : decode cX5_lineHere 65 = .ok (.aload_n 0, 1) := by decide +kernel
theorem dX5_lineHere_66 : decode cX5_lineHere 66 = .ok (.ldc 92, 2) := by decide +kernel
theorem dX5_lineHere_68 : decode cX5_lineHere 68 = .ok (.invokevirtual 80, 3) := by decide +kernel
theorem dX5_lineHere_71 : decode cX5_lineHere 71 = .ok (.ifCond .eq 7, 3) := by decide +kernel
theorem dX5_lineHere_74 : decode cX5_lineHere 74 = .ok (.iconst 5, 1) := by decide +kernel
theorem dX5_lineHere_75 : decode cX5_lineHere 75 = .ok (.goto 18, 3) := by decide +kernel
theorem dX5_lineHere_78 : decode cX5_lineHere 78 = .ok (.aload_n 0, 1) := by decide +kernel
theorem dX5_lineHere_79 : decode cX5_lineHere 79 = .ok (.ldc 94, 2) := by decide +kernel
theorem dX5_lineHere_81 : decode cX5_lineHere 81 = .ok (.invokevirtual 80, 3) := by decide +kernel
theorem dX5_lineHere_84 : decode cX5_lineHere 84 = .ok (.ifCond .eq 8, 3) := by decide +kernel
theorem dX5_lineHere_87 : decode cX5_lineHere 87 = .ok (.bipush 6, 2) := by decide +kernel
theorem dX5_lineHere_89 : decode cX5_lineHere 89 = .ok (.goto 4, 3) := by decide +kernel
theorem dX5_lineHere_92 : decode cX5_lineHere 92 = .ok (.iconst (-1), 1) := by decide +kernel
theorem dX5_lineHere_93 : decode cX5_lineHere 93 = .ok (.ireturn, 1) := by decide +kernel
theorem dX5_spells_0 : decode cX5_spells 0 = .ok (.aload_n 0, 1) := by decide +kernel
theorem dX5_spells_1 : decode cX5_spells 1 = .ok (.getfield 23, 3) := by decide +kernel
theorem dX5_spells_4 : decode cX5_spells 4 = .ok (.aload_n 0, 1) := by decide +kernel
theorem dX5_spells_5 : decode cX5_spells 5 = .ok (.getfield 42, 3) := by decide +kernel
theorem dX5_spells_8 : decode cX5_spells 8 = .ok (.isub, 1) := by decide +kernel
theorem dX5_spells_9 : decode cX5_spells 9 = .ok (.aload_n 1, 1) := by decide +kernel
theorem dX5_spells_10 : decode cX5_spells 10 = .ok (.invokevirtual 57, 3) := by decide +kernel
theorem dX5_spells_13 : decode cX5_spells 13 = .ok (.if_icmp .ne 7, 3) := by decide +kernel
theorem dX5_spells_16 : decode cX5_spells 16 = .ok (.iconst 1, 1) := by decide +kernel
theorem dX5_spells_17 : decode cX5_spells 17 = .ok (.goto 4, 3) := by decide +kernel
theorem dX5_spells_20 : decode cX5_spells 20 = .ok (.iconst 0, 1) := by decide +kernel
theorem dX5_spells_21 : decode cX5_spells 21 = .ok (.istore_n 2, 1) := by decide +kernel
theorem dX5_spells_22 : decode cX5_spells 22 = .ok (.iconst 0, 1) := by decide +kernel
theorem dX5_spells_23 : decode cX5_spells 23 = .ok (.istore_n 3, 1) := by decide +kernel
theorem dX5_spells_24 : decode cX5_spells 24 = .ok (.iload_n 3, 1) := by decide +kernel
theorem dX5_spells_25 : decode cX5_spells 25 = .ok (.aload_n 1, 1) := by decide +kernel
theorem dX5_spells_26 : decode cX5_spells 26 = .ok (.invokevirtual 57, 3) := by decide +kernel
theorem dX5_spells_29 : decode cX5_spells 29 = .ok (.if_icmp .ge 40, 3) := by decide +kernel
theorem dX5_spells_32 : decode cX5_spells 32 = .ok (.iload_n 2, 1) := by decide +kernel
theorem dX5_spells_33 : decode cX5_spells 33 = .ok (.ifCond .eq 36, 3) := by decide +kernel
theorem dX5_spells_36 : decode cX5_spells 36 = .ok (.aload_n 0, 1) := by decide +kernel
theorem dX5_spells_37 : decode cX5_spells 37 = .ok (.getfield 15, 3) := by decide +kernel
theorem dX5_spells_40 : decode cX5_spells 40 = .ok (.aload_n 0, 1) := by decide +kernel
theorem dX5_spells_41 : decode cX5_spells 41 = .ok (.getfield 42, 3) := by decide +kernel
theorem dX5_spells_44 : decode cX5_spells 44 = .ok (.iload_n 3, 1) := by decide +kernel
theorem dX5_spells_45 : decode cX5_spells 45 = .ok (.iadd, 1) := by decide +kernel
theorem dX5_spells_46 : decode cX5_spells 46 = .ok (.invokevirtual 96, 3) := by decide +kernel
theorem dX5_spells_49 : decode cX5_spells 49 = .ok (.aload_n 1, 1) := by decide +kernel
theorem dX5_spells_50 : decode cX5_spells 50 = .ok (.iload_n 3, 1) := by decide +kernel
theorem dX5_spells_51 : decode cX5_spells 51 = .ok (.invokevirtual 62, 3) := by decide +kernel
theorem dX5_spells_54 : decode cX5_spells 54 = .ok (.if_icmp .ne 7, 3) := by decide +kernel
theorem dX5_spells_57 : decode cX5_spells 57 = .ok (.iconst 1, 1) := by decide +kernel
theorem dX5_spells_58 : decode cX5_spells 58 = .ok (.goto 4, 3) := by decide +kernel
theorem dX5_spells_61 : decode cX5_spells 61 = .ok (.iconst 0, 1) := by decide +kernel
theorem dX5_spells_62 : decode cX5_spells 62 = .ok (.istore_n 2, 1) := by decide +kernel
theorem dX5_spells_63 : decode cX5_spells 63 = .ok (.iinc 3 1, 3) := by decide +kernel
theorem dX5_spells_66 : decode cX5_spells 66 = .ok (.goto (-42), 3) := by decide +kernel
theorem dX5_spells_69 : decode cX5_spells 69 = .ok (.iload_n 2, 1) := by decide +kernel
theorem dX5_spells_70 : decode cX5_spells 70 = .ok (.ireturn, 1) := by decide +kernel
theorem dX5_shapeOf_0 : decode cX5_shapeOf 0 = .ok (.iload_n 0, 1) := by decide +kernel
theorem dX5_shapeOf_1 : decode cX5_shapeOf 1 = .ok (.tableswitch 58 0 6 #[43, 46, 49, 58, 58, 52, 55], 43) := by decide +kernel
theorem dX5_shapeOf_44 : decode cX5_shapeOf 44 = .ok (.ldc 101, 2) := by decide +kernel
theorem dX5_shapeOf_46 : decode cX5_shapeOf 46 = .ok (.areturn, 1) := by decide +kernel
theorem dX5_shapeOf_47 : decode cX5_shapeOf 47 = .ok (.ldc 103, 2) := by decide +kernel
theorem dX5_shapeOf_49 : decode cX5_shapeOf 49 = .ok (.areturn, 1) := by decide +kernel
theorem dX5_shapeOf_50 : decode cX5_shapeOf 50 = .ok (.ldc 105, 2) := by decide +kernel
theorem dX5_shapeOf_52 : decode cX5_shapeOf 52 = .ok (.areturn, 1) := by decide +kernel
theorem dX5_shapeOf_53 : decode cX5_shapeOf 53 = .ok (.ldc 107, 2) := by decide +kernel
theorem dX5_shapeOf_55 : decode cX5_shapeOf 55 = .ok (.areturn, 1) := by decide +kernel
theorem dX5_shapeOf_56 : decode cX5_shapeOf 56 = .ok (.ldc 109, 2) := by decide +kernel
theorem dX5_shapeOf_58 : decode cX5_shapeOf 58 = .ok (.areturn, 1) := by decide +kernel
theorem dX5_shapeOf_59 : decode cX5_shapeOf 59 = .ok (.ldc 111, 2) := by decide +kernel
theorem dX5_shapeOf_61 : decode cX5_shapeOf 61 = .ok (.areturn, 1) := by decide +kernel
theorem dX5_takeArgument_0 : decode cX5_takeArgument 0 = .ok (.iload_n 1, 1) := by decide +kernel
theorem dX5_takeArgument_1 : decode cX5_takeArgument 1 = .ok (.bipush 98, 2) := by decide +kernel
theorem dX5_takeArgument_3 : decode cX5_takeArgument 3 = .ok (.if_icmp .ne 16, 3) := by decide +kernel
theorem dX5_takeArgument_6 : decode cX5_takeArgument 6 = .ok (.aload_n 0, 1) := by decide +kernel
theorem dX5_takeArgument_7 : decode cX5_takeArgument 7 = .ok (.getfield 36, 3) := by decide +kernel
theorem dX5_takeArgument_10 : decode cX5_takeArgument 10 = .ok (.bipush 45, 2) := by decide +kernel
theorem dX5_takeArgument_12 : decode cX5_takeArgument 12 = .ok (.if_icmp .ne 7, 3) := by decide +kernel
theorem dX5_takeArgument_15 : decode cX5_takeArgument 15 = .ok (.iconst 1, 1) := by decide +kernel
theorem dX5_takeArgument_16 : decode cX5_takeArgument 16 = .ok (.goto 4, 3) := by decide +kernel
theorem dX5_takeArgument_19 : decode cX5_takeArgument 19 = .ok (.iconst 0, 1) := by decide +kernel
theorem dX5_takeArgument_20 : decode cX5_takeArgument 20 = .ok (.istore_n 2, 1) := by decide +kernel
theorem dX5_takeArgument_21 : decode cX5_takeArgument 21 = .ok (.iload_n 2, 1) := by decide +kernel
theorem dX5_takeArgument_22 : decode cX5_takeArgument 22 = .ok (.ifCond .eq 7, 3) := by decide +kernel
theorem dX5_takeArgument_25 : decode cX5_takeArgument 25 = .ok (.aload_n 0, 1) := by decide +kernel
theorem dX5_takeArgument_26 : decode cX5_takeArgument 26 = .ok (.invokevirtual 33, 3) := by decide +kernel
theorem dX5_takeArgument_29 : decode cX5_takeArgument 29 = .ok (.aload_n 0, 1) := by decide +kernel
theorem dX5_takeArgument_30 : decode cX5_takeArgument 30 = .ok (.iload_n 1, 1) := by decide +kernel
theorem dX5_takeArgument_31 : decode cX5_takeArgument 31 = .ok (.bipush 115, 2) := by decide +kernel
theorem dX5_takeArgument_33 : decode cX5_takeArgument 33 = .ok (.if_icmp .ne 8, 3) := by decide +kernel
theorem dX5_takeArgument_36 : decode cX5_takeArgument 36 = .ok (.bipush 7, 2) := by decide +kernel
theorem dX5_takeArgument_38 : decode cX5_takeArgument 38 = .ok (.goto 6, 3) := by decide +kernel
theorem dX5_takeArgument_41 : decode cX5_takeArgument 41 = .ok (.sipush 9999, 3) := by decide +kernel
theorem dX5_takeArgument_44 : decode cX5_takeArgument 44 = .ok (.invokevirtual 113, 3) := by decide +kernel
theorem dX5_takeArgument_47 : decode cX5_takeArgument 47 = .ok (.istore_n 3, 1) := by decide +kernel
theorem dX5_takeArgument_48 : decode cX5_takeArgument 48 = .ok (.iload_n 2, 1) := by decide +kernel
theorem dX5_takeArgument_49 : decode cX5_takeArgument 49 = .ok (.ifCond .eq 8, 3) := by decide +kernel
theorem dX5_takeArgument_52 : decode cX5_takeArgument 52 = .ok (.iload_n 3, 1) := by decide +kernel
theorem dX5_takeArgument_53 : decode cX5_takeArgument 53 = .ok (.ineg, 1) := by decide +kernel
theorem dX5_takeArgument_54 : decode cX5_takeArgument 54 = .ok (.goto 4, 3) := by decide +kernel
theorem dX5_takeArgument_57 : decode cX5_takeArgument 57 = .ok (.iload_n 3, 1) := by decide +kernel
theorem dX5_takeArgument_58 : decode cX5_takeArgument 58 = .ok (.ireturn, 1) := by decide +kernel
theorem dX5_takeNumber_0 : decode cX5_takeNumber 0 = .ok (.aload_n 0, 1) := by decide +kernel
theorem dX5_takeNumber_1 : decode cX5_takeNumber 1 = .ok (.getfield 36, 3) := by decide +kernel
theorem dX5_takeNumber_4 : decode cX5_takeNumber 4 = .ok (.iconst 3, 1) := by decide +kernel
theorem dX5_takeNumber_5 : decode cX5_takeNumber 5 = .ok (.if_icmp .eq 15, 3) := by decide +kernel
theorem dX5_takeNumber_8 : decode cX5_takeNumber 8 = .ok (.aload_n 0, 1) := by decide +kernel
theorem dX5_takeNumber_9 : decode cX5_takeNumber 9 = .ok (.iconst 1, 1) := by decide +kernel
theorem dX5_takeNumber_10 : decode cX5_takeNumber 10 = .ok (.aload_n 0, 1) := by decide +kernel
theorem dX5_takeNumber_11 : decode cX5_takeNumber 11 = .ok (.getfield 42, 3) := by decide +kernel
theorem dX5_takeNumber_14 : decode cX5_takeNumber 14 = .ok (.invokevirtual 49, 3) := by decide +kernel
theorem dX5_takeNumber_17 : decode cX5_takeNumber 17 = .ok (.goto 20, 3) := by decide +kernel
theorem dX5_takeNumber_20 : decode cX5_takeNumber 20 = .ok (.aload_n 0, 1) := by decide +kernel
theorem dX5_takeNumber_21 : decode cX5_takeNumber 21 = .ok (.getfield 116, 3) := by decide +kernel
theorem dX5_takeNumber_24 : decode cX5_takeNumber 24 = .ok (.iload_n 1, 1) := by decide +kernel
theorem dX5_takeNumber_25 : decode cX5_takeNumber 25 = .ok (.if_icmp .le 12, 3) := by decide +kernel
theorem dX5_takeNumber_28 : decode cX5_takeNumber 28 = .ok (.aload_n 0, 1) := by decide +kernel
theorem dX5_takeNumber_29 : decode cX5_takeNumber 29 = .ok (.iconst 2, 1) := by decide +kernel
theorem dX5_takeNumber_30 : decode cX5_takeNumber 30 = .ok (.aload_n 0, 1) := by decide +kernel
theorem dX5_takeNumber_31 : decode cX5_takeNumber 31 = .ok (.getfield 42, 3) := by decide +kernel
theorem dX5_takeNumber_34 : decode cX5_takeNumber 34 = .ok (.invokevirtual 49, 3) := by decide +kernel
theorem dX5_takeNumber_37 : decode cX5_takeNumber 37 = .ok (.aload_n 0, 1) := by decide +kernel
theorem dX5_takeNumber_38 : decode cX5_takeNumber 38 = .ok (.getfield 27, 3) := by decide +kernel
theorem dX5_takeNumber_41 : decode cX5_takeNumber 41 = .ok (.ifCond .eq 5, 3) := by decide +kernel
theorem dX5_takeNumber_44 : decode cX5_takeNumber 44 = .ok (.iconst 0, 1) := by decide +kernel
theorem dX5_takeNumber_45 : decode cX5_takeNumber 45 = .ok (.ireturn, 1) := by decide +kernel
theorem dX5_takeNumber_46 : decode cX5_takeNumber 46 = .ok (.aload_n 0, 1) := by decide +kernel
theorem dX5_takeNumber_47 : decode cX5_takeNumber 47 = .ok (.getfield 116, 3) := by decide +kernel
theorem dX5_takeNumber_50 : decode cX5_takeNumber 50 = .ok (.istore_n 2, 1) := by decide +kernel
theorem dX5_takeNumber_51 : decode cX5_takeNumber 51 = .ok (.aload_n 0, 1) := by decide +kernel
theorem dX5_takeNumber_52 : decode cX5_takeNumber 52 = .ok (.invokevirtual 33, 3) := by decide +kernel
theorem dX5_takeNumber_55 : decode cX5_takeNumber 55 = .ok (.iload_n 2, 1) := by decide +kernel
theorem dX5_takeNumber_56 : decode cX5_takeNumber 56 = .ok (.ireturn, 1) := by decide +kernel
theorem dX5_putItem_0 : decode cX5_putItem 0 = .ok (.aload_n 0, 1) := by decide +kernel
theorem dX5_putItem_1 : decode cX5_putItem 1 = .ok (.getfield 42, 3) := by decide +kernel
theorem dX5_putItem_4 : decode cX5_putItem 4 = .ok (.istore_n 2, 1) := by decide +kernel
theorem dX5_putItem_5 : decode cX5_putItem 5 = .ok (.aload_n 0, 1) := by decide +kernel
theorem dX5_putItem_6 : decode cX5_putItem 6 = .ok (.sipush 9999, 3) := by decide +kernel
theorem dX5_putItem_9 : decode cX5_putItem 9 = .ok (.invokevirtual 113, 3) := by decide +kernel
theorem dX5_putItem_12 : decode cX5_putItem 12 = .ok (.istore_n 3, 1) := by decide +kernel
theorem dX5_putItem_13 : decode cX5_putItem 13 = .ok (.iload_n 3, 1) := by decide +kernel
theorem dX5_putItem_14 : decode cX5_putItem 14 = .ok (.istore 4, 2) := by decide +kernel
theorem dX5_putItem_16 : decode cX5_putItem 16 = .ok (.aload_n 0, 1) := by decide +kernel
theorem dX5_putItem_17 : decode cX5_putItem 17 = .ok (.getfield 36, 3) := by decide +kernel
theorem dX5_putItem_20 : decode cX5_putItem 20 = .ok (.bipush 45, 2) := by decide +kernel
theorem dX5_putItem_22 : decode cX5_putItem 22 = .ok (.if_icmp .ne 35, 3) := by decide +kernel
theorem dX5_putItem_25 : decode cX5_putItem 25 = .ok (.aload_n 0, 1) := by decide +kernel
theorem dX5_putItem_26 : decode cX5_putItem 26 = .ok (.invokevirtual 33, 3) := by decide +kernel
theorem dX5_putItem_29 : decode cX5_putItem 29 = .ok (.aload_n 0, 1) := by decide +kernel
theorem dX5_putItem_30 : decode cX5_putItem 30 = .ok (.getfield 42, 3) := by decide +kernel
theorem dX5_putItem_33 : decode cX5_putItem 33 = .ok (.istore 5, 2) := by decide +kernel
theorem dX5_putItem_35 : decode cX5_putItem 35 = .ok (.aload_n 0, 1) := by decide +kernel
theorem dX5_putItem_36 : decode cX5_putItem 36 = .ok (.sipush 9999, 3) := by decide +kernel
theorem dX5_putItem_39 : decode cX5_putItem 39 = .ok (.invokevirtual 113, 3) := by decide +kernel
theorem dX5_putItem_42 : decode cX5_putItem 42 = .ok (.istore 4, 2) := by decide +kernel
theorem dX5_putItem_44 : decode cX5_putItem 44 = .ok (.iload 4, 2) := by decide +kernel
theorem dX5_putItem_46 : decode cX5_putItem 46 = .ok (.iload_n 3, 1) := by decide +kernel
theorem dX5_putItem_47 : decode cX5_putItem 47 = .ok (.if_icmp .ge 10, 3) := by decide +kernel
theorem dX5_putItem_50 : decode cX5_putItem 50 = .ok (.aload_n 0, 1) := by decide +kernel
theorem dX5_putItem_51 : decode cX5_putItem 51 = .ok (.iconst 2, 1) := by decide +kernel
theorem dX5_putItem_52 : decode cX5_putItem 52 = .ok (.iload 5, 2) := by decide +kernel
theorem dX5_putItem_54 : decode cX5_putItem 54 = .ok (.invokevirtual 49, 3) := by decide +kernel
theorem dX5_putItem_57 : decode cX5_putItem 57 = .ok (.iload_n 3, 1) := by decide +kernel
theorem dX5_putItem_58 : decode cX5_putItem 58 = .ok (.istore 5, 2) := by decide +kernel
theorem dX5_putItem_60 : decode cX5_putItem 60 = .ok (.iload 5, 2) := by decide +kernel
theorem dX5_putItem_62 : decode cX5_putItem 62 = .ok (.iload 4, 2) := by decide +kernel
theorem dX5_putItem_64 : decode cX5_putItem 64 = .ok (.if_icmp .gt 37, 3) := by decide +kernel
theorem dX5_putItem_67 : decode cX5_putItem 67 = .ok (.aload_n 0, 1) := by decide +kernel
theorem dX5_putItem_68 : decode cX5_putItem 68 = .ok (.getfield 27, 3) := by decide +kernel
theorem dX5_putItem_71 : decode cX5_putItem 71 = .ok (.ifCond .ne 30, 3) := by decide +kernel
theorem dX5_putItem_74 : decode cX5_putItem 74 = .ok (.aload_n 0, 1) := by decide +kernel
theorem dX5_putItem_75 : decode cX5_putItem 75 = .ok (.getfield 19, 3) := by decide +kernel
theorem dX5_putItem_78 : decode cX5_putItem 78 = .ok (.iload_n 1, 1) := by decide +kernel
theorem dX5_putItem_79 : decode cX5_putItem 79 = .ok (.iload 5, 2) := by decide +kernel
theorem dX5_putItem_81 : decode cX5_putItem 81 = .ok (.invokevirtual 119, 3) := by decide +kernel
theorem dX5_putItem_84 : decode cX5_putItem 84 = .ok (.bipush (-4), 2) := by decide +kernel
theorem dX5_putItem_86 : decode cX5_putItem 86 = .ok (.if_icmp .ne 9, 3) := by decide +kernel
theorem dX5_putItem_89 : decode cX5_putItem 89 = .ok (.aload_n 0, 1) := by decide +kernel
theorem dX5_putItem_90 : decode cX5_putItem 90 = .ok (.iconst 3, 1) := by decide +kernel
theorem dX5_putItem_91 : decode cX5_putItem 91 = .ok (.iload_n 2, 1) := by decide +kernel
theorem dX5_putItem_92 : decode cX5_putItem 92 = .ok (.invokevirtual 49, 3) := by decide +kernel
theorem dX5_putItem_95 : decode cX5_putItem 95 = .ok (.iinc 5 1, 3) := by decide +kernel
theorem dX5_putItem_98 : decode cX5_putItem 98 = .ok (.goto (-38), 3) := by decide +kernel
theorem dX5_putItem_101 : decode cX5_putItem 101 = .ok (.return_, 1) := by decide +kernel
theorem dX5_act_0 : decode cX5_act 0 = .ok (.iload_n 1, 1) := by decide +kernel
theorem dX5_act_1 : decode cX5_act 1 = .ok (.tableswitch 184 1 6 #[39, 66, 92, 112, 132, 152], 39) := by decide +kernel
theorem dX5_act_40 : decode cX5_act 40 = .ok (.aload_n 0, 1) := by decide +kernel
theorem dX5_act_41 : decode cX5_act 41 = .ok (.getfield 19, 3) := by decide +kernel
theorem dX5_act_44 : decode cX5_act 44 = .ok (.aload_n 0, 1) := by decide +kernel
theorem dX5_act_45 : decode cX5_act 45 = .ok (.getfield 9, 3) := by decide +kernel
theorem dX5_act_48 : decode cX5_act 48 = .ok (.iconst 0, 1) := by decide +kernel
theorem dX5_act_49 : decode cX5_act 49 = .ok (.iaload, 1) := by decide +kernel
theorem dX5_act_50 : decode cX5_act 50 = .ok (.aload_n 0, 1) := by decide +kernel
theorem dX5_act_51 : decode cX5_act 51 = .ok (.getfield 9, 3) := by decide +kernel
theorem dX5_act_54 : decode cX5_act 54 = .ok (.iconst 1, 1) := by decide +kernel
theorem dX5_act_55 : decode cX5_act 55 = .ok (.iaload, 1) := by decide +kernel
theorem dX5_act_56 : decode cX5_act 56 = .ok (.aload_n 0, 1) := by decide +kernel
theorem dX5_act_57 : decode cX5_act 57 = .ok (.getfield 9, 3) := by decide +kernel
theorem dX5_act_60 : decode cX5_act 60 = .ok (.iconst 2, 1) := by decide +kernel
theorem dX5_act_61 : decode cX5_act 61 = .ok (.iaload, 1) := by decide +kernel
theorem dX5_act_62 : decode cX5_act 62 = .ok (.iconst 1, 1) := by decide +kernel
theorem dX5_act_63 : decode cX5_act 63 = .ok (.invokevirtual 125, 3) := by decide +kernel
theorem dX5_act_66 : decode cX5_act 66 = .ok (.ireturn, 1) := by decide +kernel
theorem dX5_act_67 : decode cX5_act 67 = .ok (.aload_n 0, 1) := by decide +kernel
theorem dX5_act_68 : decode cX5_act 68 = .ok (.getfield 19, 3) := by decide +kernel
theorem dX5_act_71 : decode cX5_act 71 = .ok (.aload_n 0, 1) := by decide +kernel
theorem dX5_act_72 : decode cX5_act 72 = .ok (.getfield 9, 3) := by decide +kernel
theorem dX5_act_75 : decode cX5_act 75 = .ok (.iconst 0, 1) := by decide +kernel
theorem dX5_act_76 : decode cX5_act 76 = .ok (.iaload, 1) := by decide +kernel
theorem dX5_act_77 : decode cX5_act 77 = .ok (.aload_n 0, 1) := by decide +kernel
theorem dX5_act_78 : decode cX5_act 78 = .ok (.getfield 9, 3) := by decide +kernel
theorem dX5_act_81 : decode cX5_act 81 = .ok (.iconst 1, 1) := by decide +kernel
theorem dX5_act_82 : decode cX5_act 82 = .ok (.iaload, 1) := by decide +kernel
theorem dX5_act_83 : decode cX5_act 83 = .ok (.aload_n 0, 1) := by decide +kernel
theorem dX5_act_84 : decode cX5_act 84 = .ok (.getfield 9, 3) := by decide +kernel
theorem dX5_act_87 : decode cX5_act 87 = .ok (.iconst 2, 1) := by decide +kernel
theorem dX5_act_88 : decode cX5_act 88 = .ok (.iaload, 1) := by decide +kernel
theorem dX5_act_89 : decode cX5_act 89 = .ok (.invokevirtual 129, 3) := by decide +kernel
theorem dX5_act_92 : decode cX5_act 92 = .ok (.ireturn, 1) := by decide +kernel
theorem dX5_act_93 : decode cX5_act 93 = .ok (.aload_n 0, 1) := by decide +kernel
theorem dX5_act_94 : decode cX5_act 94 = .ok (.getfield 19, 3) := by decide +kernel
theorem dX5_act_97 : decode cX5_act 97 = .ok (.aload_n 0, 1) := by decide +kernel
theorem dX5_act_98 : decode cX5_act 98 = .ok (.getfield 9, 3) := by decide +kernel
theorem dX5_act_101 : decode cX5_act 101 = .ok (.iconst 0, 1) := by decide +kernel
theorem dX5_act_102 : decode cX5_act 102 = .ok (.iaload, 1) := by decide +kernel
theorem dX5_act_103 : decode cX5_act 103 = .ok (.aload_n 0, 1) := by decide +kernel
theorem dX5_act_104 : decode cX5_act 104 = .ok (.getfield 9, 3) := by decide +kernel
theorem dX5_act_107 : decode cX5_act 107 = .ok (.iconst 1, 1) := by decide +kernel
theorem dX5_act_108 : decode cX5_act 108 = .ok (.iaload, 1) := by decide +kernel
theorem dX5_act_109 : decode cX5_act 109 = .ok (.invokevirtual 133, 3) := by decide +kernel
theorem dX5_act_112 : decode cX5_act 112 = .ok (.ireturn, 1) := by decide +kernel
theorem dX5_act_113 : decode cX5_act 113 = .ok (.aload_n 0, 1) := by decide +kernel
theorem dX5_act_114 : decode cX5_act 114 = .ok (.getfield 19, 3) := by decide +kernel
theorem dX5_act_117 : decode cX5_act 117 = .ok (.aload_n 0, 1) := by decide +kernel
theorem dX5_act_118 : decode cX5_act 118 = .ok (.getfield 9, 3) := by decide +kernel
theorem dX5_act_121 : decode cX5_act 121 = .ok (.iconst 0, 1) := by decide +kernel
theorem dX5_act_122 : decode cX5_act 122 = .ok (.iaload, 1) := by decide +kernel
theorem dX5_act_123 : decode cX5_act 123 = .ok (.aload_n 0, 1) := by decide +kernel
theorem dX5_act_124 : decode cX5_act 124 = .ok (.getfield 9, 3) := by decide +kernel
theorem dX5_act_127 : decode cX5_act 127 = .ok (.iconst 1, 1) := by decide +kernel
theorem dX5_act_128 : decode cX5_act 128 = .ok (.iaload, 1) := by decide +kernel
theorem dX5_act_129 : decode cX5_act 129 = .ok (.invokevirtual 136, 3) := by decide +kernel
theorem dX5_act_132 : decode cX5_act 132 = .ok (.ireturn, 1) := by decide +kernel
theorem dX5_act_133 : decode cX5_act 133 = .ok (.aload_n 0, 1) := by decide +kernel
theorem dX5_act_134 : decode cX5_act 134 = .ok (.getfield 19, 3) := by decide +kernel
theorem dX5_act_137 : decode cX5_act 137 = .ok (.aload_n 0, 1) := by decide +kernel
theorem dX5_act_138 : decode cX5_act 138 = .ok (.getfield 9, 3) := by decide +kernel
theorem dX5_act_141 : decode cX5_act 141 = .ok (.iconst 0, 1) := by decide +kernel
theorem dX5_act_142 : decode cX5_act 142 = .ok (.iaload, 1) := by decide +kernel
theorem dX5_act_143 : decode cX5_act 143 = .ok (.aload_n 0, 1) := by decide +kernel
theorem dX5_act_144 : decode cX5_act 144 = .ok (.getfield 9, 3) := by decide +kernel
theorem dX5_act_147 : decode cX5_act 147 = .ok (.iconst 1, 1) := by decide +kernel
theorem dX5_act_148 : decode cX5_act 148 = .ok (.iaload, 1) := by decide +kernel
theorem dX5_act_149 : decode cX5_act 149 = .ok (.invokevirtual 139, 3) := by decide +kernel
theorem dX5_act_152 : decode cX5_act 152 = .ok (.ireturn, 1) := by decide +kernel
theorem dX5_act_153 : decode cX5_act 153 = .ok (.aload_n 0, 1) := by decide +kernel
theorem dX5_act_154 : decode cX5_act 154 = .ok (.getfield 19, 3) := by decide +kernel
theorem dX5_act_157 : decode cX5_act 157 = .ok (.aload_n 0, 1) := by decide +kernel
theorem dX5_act_158 : decode cX5_act 158 = .ok (.getfield 9, 3) := by decide +kernel
theorem dX5_act_161 : decode cX5_act 161 = .ok (.iconst 0, 1) := by decide +kernel
theorem dX5_act_162 : decode cX5_act 162 = .ok (.iaload, 1) := by decide +kernel
theorem dX5_act_163 : decode cX5_act 163 = .ok (.aload_n 0, 1) := by decide +kernel
theorem dX5_act_164 : decode cX5_act 164 = .ok (.getfield 9, 3) := by decide +kernel
theorem dX5_act_167 : decode cX5_act 167 = .ok (.iconst 1, 1) := by decide +kernel
theorem dX5_act_168 : decode cX5_act 168 = .ok (.iaload, 1) := by decide +kernel
theorem dX5_act_169 : decode cX5_act 169 = .ok (.aload_n 0, 1) := by decide +kernel
theorem dX5_act_170 : decode cX5_act 170 = .ok (.getfield 9, 3) := by decide +kernel
theorem dX5_act_173 : decode cX5_act 173 = .ok (.iconst 2, 1) := by decide +kernel
theorem dX5_act_174 : decode cX5_act 174 = .ok (.iaload, 1) := by decide +kernel
theorem dX5_act_175 : decode cX5_act 175 = .ok (.aload_n 0, 1) := by decide +kernel
theorem dX5_act_176 : decode cX5_act 176 = .ok (.getfield 9, 3) := by decide +kernel
theorem dX5_act_179 : decode cX5_act 179 = .ok (.iconst 3, 1) := by decide +kernel
theorem dX5_act_180 : decode cX5_act 180 = .ok (.iaload, 1) := by decide +kernel
theorem dX5_act_181 : decode cX5_act 181 = .ok (.invokevirtual 142, 3) := by decide +kernel
theorem dX5_act_184 : decode cX5_act 184 = .ok (.ireturn, 1) := by decide +kernel
theorem dX5_act_185 : decode cX5_act 185 = .ok (.iconst 0, 1) := by decide +kernel
theorem dX5_act_186 : decode cX5_act 186 = .ok (.ireturn, 1) := by decide +kernel
theorem dX5_advance_0 : decode cX5_advance 0 = .ok (.aload_n 0, 1) := by decide +kernel
theorem dX5_advance_1 : decode cX5_advance 1 = .ok (.getfield 23, 3) := by decide +kernel
theorem dX5_advance_4 : decode cX5_advance 4 = .ok (.aload_n 0, 1) := by decide +kernel
theorem dX5_advance_5 : decode cX5_advance 5 = .ok (.getfield 15, 3) := by decide +kernel
theorem dX5_advance_8 : decode cX5_advance 8 = .ok (.getfield 146, 3) := by decide +kernel
theorem dX5_advance_11 : decode cX5_advance 11 = .ok (.if_icmp .ge 33, 3) := by decide +kernel
theorem dX5_advance_14 : decode cX5_advance 14 = .ok (.aload_n 0, 1) := by decide +kernel
theorem dX5_advance_15 : decode cX5_advance 15 = .ok (.getfield 15, 3) := by decide +kernel
theorem dX5_advance_18 : decode cX5_advance 18 = .ok (.aload_n 0, 1) := by decide +kernel
theorem dX5_advance_19 : decode cX5_advance 19 = .ok (.getfield 23, 3) := by decide +kernel
theorem dX5_advance_22 : decode cX5_advance 22 = .ok (.invokevirtual 96, 3) := by decide +kernel
theorem dX5_advance_25 : decode cX5_advance 25 = .ok (.invokestatic 148, 3) := by decide +kernel
theorem dX5_advance_28 : decode cX5_advance 28 = .ok (.ifCond .eq 16, 3) := by decide +kernel
theorem dX5_advance_31 : decode cX5_advance 31 = .ok (.aload_n 0, 1) := by decide +kernel
theorem dX5_advance_32 : decode cX5_advance 32 = .ok (.dup, 1) := by decide +kernel
theorem dX5_advance_33 : decode cX5_advance 33 = .ok (.getfield 23, 3) := by decide +kernel
theorem dX5_advance_36 : decode cX5_advance 36 = .ok (.iconst 1, 1) := by decide +kernel
theorem dX5_advance_37 : decode cX5_advance 37 = .ok (.iadd, 1) := by decide +kernel
theorem dX5_advance_38 : decode cX5_advance 38 = .ok (.putfield 23, 3) := by decide +kernel
theorem dX5_advance_41 : decode cX5_advance 41 = .ok (.goto (-41), 3) := by decide +kernel
theorem dX5_advance_44 : decode cX5_advance 44 = .ok (.aload_n 0, 1) := by decide +kernel
theorem dX5_advance_45 : decode cX5_advance 45 = .ok (.aload_n 0, 1) := by decide +kernel
theorem dX5_advance_46 : decode cX5_advance 46 = .ok (.getfield 23, 3) := by decide +kernel
theorem dX5_advance_49 : decode cX5_advance 49 = .ok (.putfield 42, 3) := by decide +kernel
theorem dX5_advance_52 : decode cX5_advance 52 = .ok (.aload_n 0, 1) := by decide +kernel
theorem dX5_advance_53 : decode cX5_advance 53 = .ok (.getfield 15, 3) := by decide +kernel
theorem dX5_advance_56 : decode cX5_advance 56 = .ok (.aload_n 0, 1) := by decide +kernel
theorem dX5_advance_57 : decode cX5_advance 57 = .ok (.getfield 23, 3) := by decide +kernel
theorem dX5_advance_60 : decode cX5_advance 60 = .ok (.invokevirtual 96, 3) := by decide +kernel
theorem dX5_advance_63 : decode cX5_advance 63 = .ok (.istore_n 1, 1) := by decide +kernel
theorem dX5_advance_64 : decode cX5_advance 64 = .ok (.iload_n 1, 1) := by decide +kernel
theorem dX5_advance_65 : decode cX5_advance 65 = .ok (.iconst (-1), 1) := by decide +kernel
theorem dX5_advance_66 : decode cX5_advance 66 = .ok (.if_icmp .ne 11, 3) := by decide +kernel
theorem dX5_advance_69 : decode cX5_advance 69 = .ok (.aload_n 0, 1) := by decide +kernel
theorem dX5_advance_70 : decode cX5_advance 70 = .ok (.iconst 0, 1) := by decide +kernel
theorem dX5_advance_71 : decode cX5_advance 71 = .ok (.putfield 36, 3) := by decide +kernel
theorem dX5_advance_74 : decode cX5_advance 74 = .ok (.goto 62, 3) := by decide +kernel
theorem dX5_advance_77 : decode cX5_advance 77 = .ok (.iload_n 1, 1) := by decide +kernel
theorem dX5_advance_78 : decode cX5_advance 78 = .ok (.invokestatic 152, 3) := by decide +kernel
theorem dX5_advance_81 : decode cX5_advance 81 = .ok (.ifCond .eq 10, 3) := by decide +kernel
theorem dX5_advance_84 : decode cX5_advance 84 = .ok (.aload_n 0, 1) := by decide +kernel
theorem dX5_advance_85 : decode cX5_advance 85 = .ok (.invokevirtual 155, 3) := by decide +kernel
theorem dX5_advance_88 : decode cX5_advance 88 = .ok (.goto 48, 3) := by decide +kernel
theorem dX5_advance_91 : decode cX5_advance 91 = .ok (.iload_n 1, 1) := by decide +kernel
theorem dX5_advance_92 : decode cX5_advance 92 = .ok (.invokestatic 158, 3) := by decide +kernel
theorem dX5_advance_95 : decode cX5_advance 95 = .ok (.ifCond .eq 10, 3) := by decide +kernel
theorem dX5_advance_98 : decode cX5_advance 98 = .ok (.aload_n 0, 1) := by decide +kernel
theorem dX5_advance_99 : decode cX5_advance 99 = .ok (.invokevirtual 161, 3) := by decide +kernel
theorem dX5_advance_102 : decode cX5_advance 102 = .ok (.goto 34, 3) := by decide +kernel
theorem dX5_advance_105 : decode cX5_advance 105 = .ok (.aload_n 0, 1) := by decide +kernel
theorem dX5_advance_106 : decode cX5_advance 106 = .ok (.iload_n 1, 1) := by decide +kernel
theorem dX5_advance_107 : decode cX5_advance 107 = .ok (.bipush 45, 2) := by decide +kernel
theorem dX5_advance_109 : decode cX5_advance 109 = .ok (.if_icmp .eq 9, 3) := by decide +kernel
theorem dX5_advance_112 : decode cX5_advance 112 = .ok (.iload_n 1, 1) := by decide +kernel
theorem dX5_advance_113 : decode cX5_advance 113 = .ok (.bipush 59, 2) := by decide +kernel
theorem dX5_advance_115 : decode cX5_advance 115 = .ok (.if_icmp .ne 7, 3) := by decide +kernel
theorem dX5_advance_118 : decode cX5_advance 118 = .ok (.iload_n 1, 1) := by decide +kernel
theorem dX5_advance_119 : decode cX5_advance 119 = .ok (.goto 4, 3) := by decide +kernel
theorem dX5_advance_122 : decode cX5_advance 122 = .ok (.iconst 1, 1) := by decide +kernel
theorem dX5_advance_123 : decode cX5_advance 123 = .ok (.putfield 36, 3) := by decide +kernel
theorem dX5_advance_126 : decode cX5_advance 126 = .ok (.aload_n 0, 1) := by decide +kernel
theorem dX5_advance_127 : decode cX5_advance 127 = .ok (.dup, 1) := by decide +kernel
theorem dX5_advance_128 : decode cX5_advance 128 = .ok (.getfield 23, 3) := by decide +kernel
theorem dX5_advance_131 : decode cX5_advance 131 = .ok (.iconst 1, 1) := by decide +kernel
theorem dX5_advance_132 : decode cX5_advance 132 = .ok (.iadd, 1) := by decide +kernel
theorem dX5_advance_133 : decode cX5_advance 133 = .ok (.putfield 23, 3) := by decide +kernel
theorem dX5_advance_136 : decode cX5_advance 136 = .ok (.return_, 1) := by decide +kernel
theorem dX5_readWord_0 : decode cX5_readWord 0 = .ok (.aload_n 0, 1) := by decide +kernel
theorem dX5_readWord_1 : decode cX5_readWord 1 = .ok (.iconst 2, 1) := by decide +kernel
theorem dX5_readWord_2 : decode cX5_readWord 2 = .ok (.putfield 36, 3) := by decide +kernel
theorem dX5_readWord_5 : decode cX5_readWord 5 = .ok (.aload_n 0, 1) := by decide +kernel
theorem dX5_readWord_6 : decode cX5_readWord 6 = .ok (.getfield 23, 3) := by decide +kernel
theorem dX5_readWord_9 : decode cX5_readWord 9 = .ok (.aload_n 0, 1) := by decide +kernel
theorem dX5_readWord_10 : decode cX5_readWord 10 = .ok (.getfield 15, 3) := by decide +kernel
theorem dX5_readWord_13 : decode cX5_readWord 13 = .ok (.getfield 146, 3) := by decide +kernel
theorem dX5_readWord_16 : decode cX5_readWord 16 = .ok (.if_icmp .ge 33, 3) := by decide +kernel
theorem dX5_readWord_19 : decode cX5_readWord 19 = .ok (.aload_n 0, 1) := by decide +kernel
theorem dX5_readWord_20 : decode cX5_readWord 20 = .ok (.getfield 15, 3) := by decide +kernel
theorem dX5_readWord_23 : decode cX5_readWord 23 = .ok (.aload_n 0, 1) := by decide +kernel
theorem dX5_readWord_24 : decode cX5_readWord 24 = .ok (.getfield 23, 3) := by decide +kernel
theorem dX5_readWord_27 : decode cX5_readWord 27 = .ok (.invokevirtual 96, 3) := by decide +kernel
theorem dX5_readWord_30 : decode cX5_readWord 30 = .ok (.invokestatic 152, 3) := by decide +kernel
theorem dX5_readWord_33 : decode cX5_readWord 33 = .ok (.ifCond .eq 16, 3) := by decide +kernel
theorem dX5_readWord_36 : decode cX5_readWord 36 = .ok (.aload_n 0, 1) := by decide +kernel
theorem dX5_readWord_37 : decode cX5_readWord 37 = .ok (.dup, 1) := by decide +kernel
theorem dX5_readWord_38 : decode cX5_readWord 38 = .ok (.getfield 23, 3) := by decide +kernel
theorem dX5_readWord_41 : decode cX5_readWord 41 = .ok (.iconst 1, 1) := by decide +kernel
theorem dX5_readWord_42 : decode cX5_readWord 42 = .ok (.iadd, 1) := by decide +kernel
theorem dX5_readWord_43 : decode cX5_readWord 43 = .ok (.putfield 23, 3) := by decide +kernel
theorem dX5_readWord_46 : decode cX5_readWord 46 = .ok (.goto (-41), 3) := by decide +kernel
theorem dX5_readWord_49 : decode cX5_readWord 49 = .ok (.return_, 1) := by decide +kernel
theorem dX5_readNumber_0 : decode cX5_readNumber 0 = .ok (.aload_n 0, 1) := by decide +kernel
theorem dX5_readNumber_1 : decode cX5_readNumber 1 = .ok (.iconst 0, 1) := by decide +kernel
theorem dX5_readNumber_2 : decode cX5_readNumber 2 = .ok (.putfield 116, 3) := by decide +kernel
theorem dX5_readNumber_5 : decode cX5_readNumber 5 = .ok (.aload_n 0, 1) := by decide +kernel
theorem dX5_readNumber_6 : decode cX5_readNumber 6 = .ok (.getfield 23, 3) := by decide +kernel
theorem dX5_readNumber_9 : decode cX5_readNumber 9 = .ok (.aload_n 0, 1) := by decide +kernel
theorem dX5_readNumber_10 : decode cX5_readNumber 10 = .ok (.getfield 15, 3) := by decide +kernel
theorem dX5_readNumber_13 : decode cX5_readNumber 13 = .ok (.getfield 146, 3) := by decide +kernel
theorem dX5_readNumber_16 : decode cX5_readNumber 16 = .ok (.if_icmp .ge 59, 3) := by decide +kernel
theorem dX5_readNumber_19 : decode cX5_readNumber 19 = .ok (.aload_n 0, 1) := by decide +kernel
theorem dX5_readNumber_20 : decode cX5_readNumber 20 = .ok (.getfield 15, 3) := by decide +kernel
theorem dX5_readNumber_23 : decode cX5_readNumber 23 = .ok (.aload_n 0, 1) := by decide +kernel
theorem dX5_readNumber_24 : decode cX5_readNumber 24 = .ok (.getfield 23, 3) := by decide +kernel
theorem dX5_readNumber_27 : decode cX5_readNumber 27 = .ok (.invokevirtual 96, 3) := by decide +kernel
theorem dX5_readNumber_30 : decode cX5_readNumber 30 = .ok (.invokestatic 158, 3) := by decide +kernel
theorem dX5_readNumber_33 : decode cX5_readNumber 33 = .ok (.ifCond .eq 42, 3) := by decide +kernel
theorem dX5_readNumber_36 : decode cX5_readNumber 36 = .ok (.aload_n 0, 1) := by decide +kernel
theorem dX5_readNumber_37 : decode cX5_readNumber 37 = .ok (.aload_n 0, 1) := by decide +kernel
theorem dX5_readNumber_38 : decode cX5_readNumber 38 = .ok (.getfield 116, 3) := by decide +kernel
theorem dX5_readNumber_41 : decode cX5_readNumber 41 = .ok (.bipush 10, 2) := by decide +kernel
theorem dX5_readNumber_43 : decode cX5_readNumber 43 = .ok (.imul, 1) := by decide +kernel
theorem dX5_readNumber_44 : decode cX5_readNumber 44 = .ok (.aload_n 0, 1) := by decide +kernel
theorem dX5_readNumber_45 : decode cX5_readNumber 45 = .ok (.getfield 15, 3) := by decide +kernel
theorem dX5_readNumber_48 : decode cX5_readNumber 48 = .ok (.aload_n 0, 1) := by decide +kernel
theorem dX5_readNumber_49 : decode cX5_readNumber 49 = .ok (.getfield 23, 3) := by decide +kernel
theorem dX5_readNumber_52 : decode cX5_readNumber 52 = .ok (.invokevirtual 96, 3) := by decide +kernel
theorem dX5_readNumber_55 : decode cX5_readNumber 55 = .ok (.iadd, 1) := by decide +kernel
theorem dX5_readNumber_56 : decode cX5_readNumber 56 = .ok (.bipush 48, 2) := by decide +kernel
theorem dX5_readNumber_58 : decode cX5_readNumber 58 = .ok (.isub, 1) := by decide +kernel
theorem dX5_readNumber_59 : decode cX5_readNumber 59 = .ok (.putfield 116, 3) := by decide +kernel
theorem dX5_readNumber_62 : decode cX5_readNumber 62 = .ok (.aload_n 0, 1) := by decide +kernel
theorem dX5_readNumber_63 : decode cX5_readNumber 63 = .ok (.dup, 1) := by decide +kernel
theorem dX5_readNumber_64 : decode cX5_readNumber 64 = .ok (.getfield 23, 3) := by decide +kernel
theorem dX5_readNumber_67 : decode cX5_readNumber 67 = .ok (.iconst 1, 1) := by decide +kernel
theorem dX5_readNumber_68 : decode cX5_readNumber 68 = .ok (.iadd, 1) := by decide +kernel
theorem dX5_readNumber_69 : decode cX5_readNumber 69 = .ok (.putfield 23, 3) := by decide +kernel
theorem dX5_readNumber_72 : decode cX5_readNumber 72 = .ok (.goto (-67), 3) := by decide +kernel
theorem dX5_readNumber_75 : decode cX5_readNumber 75 = .ok (.aload_n 0, 1) := by decide +kernel
theorem dX5_readNumber_76 : decode cX5_readNumber 76 = .ok (.aload_n 0, 1) := by decide +kernel
theorem dX5_readNumber_77 : decode cX5_readNumber 77 = .ok (.getfield 23, 3) := by decide +kernel
theorem dX5_readNumber_80 : decode cX5_readNumber 80 = .ok (.aload_n 0, 1) := by decide +kernel
theorem dX5_readNumber_81 : decode cX5_readNumber 81 = .ok (.getfield 42, 3) := by decide +kernel
theorem dX5_readNumber_84 : decode cX5_readNumber 84 = .ok (.isub, 1) := by decide +kernel
theorem dX5_readNumber_85 : decode cX5_readNumber 85 = .ok (.iconst 4, 1) := by decide +kernel
theorem dX5_readNumber_86 : decode cX5_readNumber 86 = .ok (.if_icmp .le 7, 3) := by decide +kernel
theorem dX5_readNumber_89 : decode cX5_readNumber 89 = .ok (.iconst 1, 1) := by decide +kernel
theorem dX5_readNumber_90 : decode cX5_readNumber 90 = .ok (.goto 4, 3) := by decide +kernel
theorem dX5_readNumber_93 : decode cX5_readNumber 93 = .ok (.iconst 3, 1) := by decide +kernel
theorem dX5_readNumber_94 : decode cX5_readNumber 94 = .ok (.putfield 36, 3) := by decide +kernel
theorem dX5_readNumber_97 : decode cX5_readNumber 97 = .ok (.return_, 1) := by decide +kernel
theorem dX5_isBlank_0 : decode cX5_isBlank 0 = .ok (.iload_n 0, 1) := by decide +kernel
theorem dX5_isBlank_1 : decode cX5_isBlank 1 = .ok (.bipush 32, 2) := by decide +kernel
theorem dX5_isBlank_3 : decode cX5_isBlank 3 = .ok (.if_icmp .eq 9, 3) := by decide +kernel
theorem dX5_isBlank_6 : decode cX5_isBlank 6 = .ok (.iload_n 0, 1) := by decide +kernel
theorem dX5_isBlank_7 : decode cX5_isBlank 7 = .ok (.bipush 10, 2) := by decide +kernel
theorem dX5_isBlank_9 : decode cX5_isBlank 9 = .ok (.if_icmp .ne 7, 3) := by decide +kernel
theorem dX5_isBlank_12 : decode cX5_isBlank 12 = .ok (.iconst 1, 1) := by decide +kernel
theorem dX5_isBlank_13 : decode cX5_isBlank 13 = .ok (.goto 4, 3) := by decide +kernel
theorem dX5_isBlank_16 : decode cX5_isBlank 16 = .ok (.iconst 0, 1) := by decide +kernel
theorem dX5_isBlank_17 : decode cX5_isBlank 17 = .ok (.ireturn, 1) := by decide +kernel
theorem dX5_isLetter_0 : decode cX5_isLetter 0 = .ok (.iload_n 0, 1) := by decide +kernel
theorem dX5_isLetter_1 : decode cX5_isLetter 1 = .ok (.bipush 97, 2) := by decide +kernel
theorem dX5_isLetter_3 : decode cX5_isLetter 3 = .ok (.if_icmp .lt 13, 3) := by decide +kernel
theorem dX5_isLetter_6 : decode cX5_isLetter 6 = .ok (.iload_n 0, 1) := by decide +kernel
theorem dX5_isLetter_7 : decode cX5_isLetter 7 = .ok (.bipush 122, 2) := by decide +kernel
theorem dX5_isLetter_9 : decode cX5_isLetter 9 = .ok (.if_icmp .gt 7, 3) := by decide +kernel
theorem dX5_isLetter_12 : decode cX5_isLetter 12 = .ok (.iconst 1, 1) := by decide +kernel
theorem dX5_isLetter_13 : decode cX5_isLetter 13 = .ok (.goto 4, 3) := by decide +kernel
theorem dX5_isLetter_16 : decode cX5_isLetter 16 = .ok (.iconst 0, 1) := by decide +kernel
theorem dX5_isLetter_17 : decode cX5_isLetter 17 = .ok (.ireturn, 1) := by decide +kernel
theorem dX5_isDigit_0 : decode cX5_isDigit 0 = .ok (.iload_n 0, 1) := by decide +kernel
theorem dX5_isDigit_1 : decode cX5_isDigit 1 = .ok (.bipush 48, 2) := by decide +kernel
theorem dX5_isDigit_3 : decode cX5_isDigit 3 = .ok (.if_icmp .lt 13, 3) := by decide +kernel
theorem dX5_isDigit_6 : decode cX5_isDigit 6 = .ok (.iload_n 0, 1) := by decide +kernel
theorem dX5_isDigit_7 : decode cX5_isDigit 7 = .ok (.bipush 57, 2) := by decide +kernel
theorem dX5_isDigit_9 : decode cX5_isDigit 9 = .ok (.if_icmp .gt 7, 3) := by decide +kernel
theorem dX5_isDigit_12 : decode cX5_isDigit 12 = .ok (.iconst 1, 1) := by decide +kernel
theorem dX5_isDigit_13 : decode cX5_isDigit 13 = .ok (.goto 4, 3) := by decide +kernel
theorem dX5_isDigit_16 : decode cX5_isDigit 16 = .ok (.iconst 0, 1) := by decide +kernel
theorem dX5_isDigit_17 : decode cX5_isDigit 17 = .ok (.ireturn, 1) := by decide +kernel
theorem dX6_init_0 : decode cX6_init 0 = .ok (.aload_n 0, 1) := by decide +kernel
theorem dX6_init_1 : decode cX6_init 1 = .ok (.invokespecial 3, 3) := by decide +kernel
theorem dX6_init_4 : decode cX6_init 4 = .ok (.aload_n 0, 1) := by decide +kernel
theorem dX6_init_5 : decode cX6_init 5 = .ok (.sipush 240, 3) := by decide +kernel
theorem dX6_init_8 : decode cX6_init 8 = .ok (.newarray .int, 2) := by decide +kernel
theorem dX6_init_10 : decode cX6_init 10 = .ok (.putfield 9, 3) := by decide +kernel
theorem dX6_init_13 : decode cX6_init 13 = .ok (.aload_n 0, 1) := by decide +kernel
theorem dX6_init_14 : decode cX6_init 14 = .ok (.bipush 8, 2) := by decide +kernel
theorem dX6_init_16 : decode cX6_init 16 = .ok (.newarray .int, 2) := by decide +kernel
theorem dX6_init_18 : decode cX6_init 18 = .ok (.putfield 15, 3) := by decide +kernel
theorem dX6_init_21 : decode cX6_init 21 = .ok (.aload_n 0, 1) := by decide +kernel
theorem dX6_init_22 : decode cX6_init 22 = .ok (.bipush 8, 2) := by decide +kernel
theorem dX6_init_24 : decode cX6_init 24 = .ok (.newarray .int, 2) := by decide +kernel
theorem dX6_init_26 : decode cX6_init 26 = .ok (.putfield 18, 3) := by decide +kernel
theorem dX6_init_29 : decode cX6_init 29 = .ok (.return_, 1) := by decide +kernel
theorem dX6_take_0 : decode cX6_take 0 = .ok (.iconst 0, 1) := by decide +kernel
theorem dX6_take_1 : decode cX6_take 1 = .ok (.istore_n 2, 1) := by decide +kernel
theorem dX6_take_2 : decode cX6_take 2 = .ok (.iconst 0, 1) := by decide +kernel
theorem dX6_take_3 : decode cX6_take 3 = .ok (.istore_n 3, 1) := by decide +kernel
theorem dX6_take_4 : decode cX6_take 4 = .ok (.iload_n 3, 1) := by decide +kernel
theorem dX6_take_5 : decode cX6_take 5 = .ok (.bipush 8, 2) := by decide +kernel
theorem dX6_take_7 : decode cX6_take 7 = .ok (.if_icmp .ge 72, 3) := by decide +kernel
theorem dX6_take_10 : decode cX6_take 10 = .ok (.aload_n 1, 1) := by decide +kernel
theorem dX6_take_11 : decode cX6_take 11 = .ok (.getfield 21, 3) := by decide +kernel
theorem dX6_take_14 : decode cX6_take 14 = .ok (.iload_n 3, 1) := by decide +kernel
theorem dX6_take_15 : decode cX6_take 15 = .ok (.aaload, 1) := by decide +kernel
theorem dX6_take_16 : decode cX6_take 16 = .ok (.astore 4, 2) := by decide +kernel
theorem dX6_take_18 : decode cX6_take 18 = .ok (.aload 4, 2) := by decide +kernel
theorem dX6_take_20 : decode cX6_take 20 = .ok (.getfield 27, 3) := by decide +kernel
theorem dX6_take_23 : decode cX6_take 23 = .ok (.sipush 240, 3) := by decide +kernel
theorem dX6_take_26 : decode cX6_take 26 = .ok (.iload_n 2, 1) := by decide +kernel
theorem dX6_take_27 : decode cX6_take 27 = .ok (.isub, 1) := by decide +kernel
theorem dX6_take_28 : decode cX6_take 28 = .ok (.invokestatic 33, 3) := by decide +kernel
theorem dX6_take_31 : decode cX6_take 31 = .ok (.istore 5, 2) := by decide +kernel
theorem dX6_take_33 : decode cX6_take 33 = .ok (.aload 4, 2) := by decide +kernel
theorem dX6_take_35 : decode cX6_take 35 = .ok (.getfield 39, 3) := by decide +kernel
theorem dX6_take_38 : decode cX6_take 38 = .ok (.iconst 0, 1) := by decide +kernel
theorem dX6_take_39 : decode cX6_take 39 = .ok (.aload_n 0, 1) := by decide +kernel
theorem dX6_take_40 : decode cX6_take 40 = .ok (.getfield 9, 3) := by decide +kernel
theorem dX6_take_43 : decode cX6_take 43 = .ok (.iload_n 2, 1) := by decide +kernel
theorem dX6_take_44 : decode cX6_take 44 = .ok (.iload 5, 2) := by decide +kernel
theorem dX6_take_46 : decode cX6_take 46 = .ok (.invokestatic 40, 3) := by decide +kernel
theorem dX6_take_49 : decode cX6_take 49 = .ok (.aload_n 0, 1) := by decide +kernel
theorem dX6_take_50 : decode cX6_take 50 = .ok (.getfield 15, 3) := by decide +kernel
theorem dX6_take_53 : decode cX6_take 53 = .ok (.iload_n 3, 1) := by decide +kernel
theorem dX6_take_54 : decode cX6_take 54 = .ok (.iload 5, 2) := by decide +kernel
theorem dX6_take_56 : decode cX6_take 56 = .ok (.iastore, 1) := by decide +kernel
theorem dX6_take_57 : decode cX6_take 57 = .ok (.aload_n 0, 1) := by decide +kernel
theorem dX6_take_58 : decode cX6_take 58 = .ok (.getfield 18, 3) := by decide +kernel
theorem dX6_take_61 : decode cX6_take 61 = .ok (.iload_n 3, 1) := by decide +kernel
theorem dX6_take_62 : decode cX6_take 62 = .ok (.aload 4, 2) := by decide +kernel
theorem dX6_take_64 : decode cX6_take 64 = .ok (.getfield 46, 3) := by decide +kernel
theorem dX6_take_67 : decode cX6_take 67 = .ok (.iastore, 1) := by decide +kernel
theorem dX6_take_68 : decode cX6_take 68 = .ok (.iload_n 2, 1) := by decide +kernel
theorem dX6_take_69 : decode cX6_take 69 = .ok (.iload 5, 2) := by decide +kernel
theorem dX6_take_71 : decode cX6_take 71 = .ok (.iadd, 1) := by decide +kernel
theorem dX6_take_72 : decode cX6_take 72 = .ok (.istore_n 2, 1) := by decide +kernel
theorem dX6_take_73 : decode cX6_take 73 = .ok (.iinc 3 1, 3) := by decide +kernel
theorem dX6_take_76 : decode cX6_take 76 = .ok (.goto (-72), 3) := by decide +kernel
theorem dX6_take_79 : decode cX6_take 79 = .ok (.return_, 1) := by decide +kernel
theorem dX6_give_0 : decode cX6_give 0 = .ok (.iconst 0, 1) := by decide +kernel
theorem dX6_give_1 : decode cX6_give 1 = .ok (.istore_n 2, 1) := by decide +kernel
theorem dX6_give_2 : decode cX6_give 2 = .ok (.iconst 0, 1) := by decide +kernel
theorem dX6_give_3 : decode cX6_give 3 = .ok (.istore_n 3, 1) := by decide +kernel
theorem dX6_give_4 : decode cX6_give 4 = .ok (.iload_n 3, 1) := by decide +kernel
theorem dX6_give_5 : decode cX6_give 5 = .ok (.bipush 8, 2) := by decide +kernel
theorem dX6_give_7 : decode cX6_give 7 = .ok (.if_icmp .ge 72, 3) := by decide +kernel
theorem dX6_give_10 : decode cX6_give 10 = .ok (.aload_n 1, 1) := by decide +kernel
theorem dX6_give_11 : decode cX6_give 11 = .ok (.getfield 21, 3) := by decide +kernel
theorem dX6_give_14 : decode cX6_give 14 = .ok (.iload_n 3, 1) := by decide +kernel
theorem dX6_give_15 : decode cX6_give 15 = .ok (.aaload, 1) := by decide +kernel
theorem dX6_give_16 : decode cX6_give 16 = .ok (.astore 4, 2) := by decide +kernel
theorem dX6_give_18 : decode cX6_give 18 = .ok (.aload_n 0, 1) := by decide +kernel
theorem dX6_give_19 : decode cX6_give 19 = .ok (.getfield 15, 3) := by decide +kernel
theorem dX6_give_22 : decode cX6_give 22 = .ok (.iload_n 3, 1) := by decide +kernel
theorem dX6_give_23 : decode cX6_give 23 = .ok (.iaload, 1) := by decide +kernel
theorem dX6_give_24 : decode cX6_give 24 = .ok (.sipush 240, 3) := by decide +kernel
theorem dX6_give_27 : decode cX6_give 27 = .ok (.iload_n 2, 1) := by decide +kernel
theorem dX6_give_28 : decode cX6_give 28 = .ok (.isub, 1) := by decide +kernel
theorem dX6_give_29 : decode cX6_give 29 = .ok (.invokestatic 33, 3) := by decide +kernel
theorem dX6_give_32 : decode cX6_give 32 = .ok (.istore 5, 2) := by decide +kernel
theorem dX6_give_34 : decode cX6_give 34 = .ok (.aload_n 0, 1) := by decide +kernel
theorem dX6_give_35 : decode cX6_give 35 = .ok (.getfield 9, 3) := by decide +kernel
theorem dX6_give_38 : decode cX6_give 38 = .ok (.iload_n 2, 1) := by decide +kernel
theorem dX6_give_39 : decode cX6_give 39 = .ok (.aload 4, 2) := by decide +kernel
theorem dX6_give_41 : decode cX6_give 41 = .ok (.getfield 39, 3) := by decide +kernel
theorem dX6_give_44 : decode cX6_give 44 = .ok (.iconst 0, 1) := by decide +kernel
theorem dX6_give_45 : decode cX6_give 45 = .ok (.iload 5, 2) := by decide +kernel
theorem dX6_give_47 : decode cX6_give 47 = .ok (.invokestatic 40, 3) := by decide +kernel
theorem dX6_give_50 : decode cX6_give 50 = .ok (.aload 4, 2) := by decide +kernel
theorem dX6_give_52 : decode cX6_give 52 = .ok (.iload 5, 2) := by decide +kernel
theorem dX6_give_54 : decode cX6_give 54 = .ok (.putfield 27, 3) := by decide +kernel
theorem dX6_give_57 : decode cX6_give 57 = .ok (.aload 4, 2) := by decide +kernel
theorem dX6_give_59 : decode cX6_give 59 = .ok (.aload_n 0, 1) := by decide +kernel
theorem dX6_give_60 : decode cX6_give 60 = .ok (.getfield 18, 3) := by decide +kernel
theorem dX6_give_63 : decode cX6_give 63 = .ok (.iload_n 3, 1) := by decide +kernel
theorem dX6_give_64 : decode cX6_give 64 = .ok (.iaload, 1) := by decide +kernel
theorem dX6_give_65 : decode cX6_give 65 = .ok (.putfield 46, 3) := by decide +kernel
theorem dX6_give_68 : decode cX6_give 68 = .ok (.iload_n 2, 1) := by decide +kernel
theorem dX6_give_69 : decode cX6_give 69 = .ok (.iload 5, 2) := by decide +kernel
theorem dX6_give_71 : decode cX6_give 71 = .ok (.iadd, 1) := by decide +kernel
theorem dX6_give_72 : decode cX6_give 72 = .ok (.istore_n 2, 1) := by decide +kernel
theorem dX6_give_73 : decode cX6_give 73 = .ok (.iinc 3 1, 3) := by decide +kernel
theorem dX6_give_76 : decode cX6_give 76 = .ok (.goto (-72), 3) := by decide +kernel
theorem dX6_give_79 : decode cX6_give 79 = .ok (.return_, 1) := by decide +kernel
theorem dX7_init_0 : decode cX7_init 0 = .ok (.aload_n 0, 1) := by decide +kernel
theorem dX7_init_1 : decode cX7_init 1 = .ok (.invokespecial 3, 3) := by decide +kernel
theorem dX7_init_4 : decode cX7_init 4 = .ok (.aload_n 0, 1) := by decide +kernel
theorem dX7_init_5 : decode cX7_init 5 = .ok (.bipush 8, 2) := by decide +kernel
theorem dX7_init_7 : decode cX7_init 7 = .ok (.anewarray 9, 3) := by decide +kernel
theorem dX7_init_10 : decode cX7_init 10 = .ok (.putfield 11, 3) := by decide +kernel
theorem dX7_init_13 : decode cX7_init 13 = .ok (.aload_n 0, 1) := by decide +kernel
theorem dX7_init_14 : decode cX7_init 14 = .ok (.new 17, 3) := by decide +kernel
theorem dX7_init_17 : decode cX7_init 17 = .ok (.dup, 1) := by decide +kernel
theorem dX7_init_18 : decode cX7_init 18 = .ok (.invokespecial 19, 3) := by decide +kernel
theorem dX7_init_21 : decode cX7_init 21 = .ok (.putfield 20, 3) := by decide +kernel
theorem dX7_init_24 : decode cX7_init 24 = .ok (.aload_n 0, 1) := by decide +kernel
theorem dX7_init_25 : decode cX7_init 25 = .ok (.new 24, 3) := by decide +kernel
theorem dX7_init_28 : decode cX7_init 28 = .ok (.dup, 1) := by decide +kernel
theorem dX7_init_29 : decode cX7_init 29 = .ok (.invokespecial 26, 3) := by decide +kernel
theorem dX7_init_32 : decode cX7_init 32 = .ok (.putfield 27, 3) := by decide +kernel
theorem dX7_init_35 : decode cX7_init 35 = .ok (.aload_n 0, 1) := by decide +kernel
theorem dX7_init_36 : decode cX7_init 36 = .ok (.bipush 8, 2) := by decide +kernel
theorem dX7_init_38 : decode cX7_init 38 = .ok (.newarray .int, 2) := by decide +kernel
theorem dX7_init_40 : decode cX7_init 40 = .ok (.putfield 31, 3) := by decide +kernel
theorem dX7_init_43 : decode cX7_init 43 = .ok (.aload_n 0, 1) := by decide +kernel
theorem dX7_init_44 : decode cX7_init 44 = .ok (.iconst (-1), 1) := by decide +kernel
theorem dX7_init_45 : decode cX7_init 45 = .ok (.putfield 35, 3) := by decide +kernel
theorem dX7_init_48 : decode cX7_init 48 = .ok (.aload_n 0, 1) := by decide +kernel
theorem dX7_init_49 : decode cX7_init 49 = .ok (.iconst (-1), 1) := by decide +kernel
theorem dX7_init_50 : decode cX7_init 50 = .ok (.putfield 39, 3) := by decide +kernel
theorem dX7_init_53 : decode cX7_init 53 = .ok (.aload_n 0, 1) := by decide +kernel
theorem dX7_init_54 : decode cX7_init 54 = .ok (.iconst (-1), 1) := by decide +kernel
theorem dX7_init_55 : decode cX7_init 55 = .ok (.putfield 42, 3) := by decide +kernel
theorem dX7_init_58 : decode cX7_init 58 = .ok (.iconst 0, 1) := by decide +kernel
theorem dX7_init_59 : decode cX7_init 59 = .ok (.istore_n 1, 1) := by decide +kernel
theorem dX7_init_60 : decode cX7_init 60 = .ok (.iload_n 1, 1) := by decide +kernel
theorem dX7_init_61 : decode cX7_init 61 = .ok (.bipush 8, 2) := by decide +kernel
theorem dX7_init_63 : decode cX7_init 63 = .ok (.if_icmp .ge 22, 3) := by decide +kernel
theorem dX7_init_66 : decode cX7_init 66 = .ok (.aload_n 0, 1) := by decide +kernel
theorem dX7_init_67 : decode cX7_init 67 = .ok (.getfield 11, 3) := by decide +kernel
theorem dX7_init_70 : decode cX7_init 70 = .ok (.iload_n 1, 1) := by decide +kernel
theorem dX7_init_71 : decode cX7_init 71 = .ok (.new 9, 3) := by decide +kernel
theorem dX7_init_74 : decode cX7_init 74 = .ok (.dup, 1) := by decide +kernel
theorem dX7_init_75 : decode cX7_init 75 = .ok (.invokespecial 45, 3) := by decide +kernel
theorem dX7_init_78 : decode cX7_init 78 = .ok (.aastore, 1) := by decide +kernel
theorem dX7_init_79 : decode cX7_init 79 = .ok (.iinc 1 1, 3) := by decide +kernel
theorem dX7_init_82 : decode cX7_init 82 = .ok (.goto (-22), 3) := by decide +kernel
theorem dX7_init_85 : decode cX7_init 85 = .ok (.aload_n 0, 1) := by decide +kernel
theorem dX7_init_86 : decode cX7_init 86 = .ok (.new 46, 3) := by decide +kernel
theorem dX7_init_89 : decode cX7_init 89 = .ok (.dup, 1) := by decide +kernel
theorem dX7_init_90 : decode cX7_init 90 = .ok (.aload_n 0, 1) := by decide +kernel
theorem dX7_init_91 : decode cX7_init 91 = .ok (.getfield 11, 3) := by decide +kernel
theorem dX7_init_94 : decode cX7_init 94 = .ok (.invokespecial 48, 3) := by decide +kernel
theorem dX7_init_97 : decode cX7_init 97 = .ok (.putfield 51, 3) := by decide +kernel
theorem dX7_init_100 : decode cX7_init 100 = .ok (.return_, 1) := by decide +kernel
theorem dX7_empty_0 : decode cX7_empty 0 = .ok (.iconst 0, 1) := by decide +kernel
theorem dX7_empty_1 : decode cX7_empty 1 = .ok (.istore_n 1, 1) := by decide +kernel
theorem dX7_empty_2 : decode cX7_empty 2 = .ok (.iload_n 1, 1) := by decide +kernel
theorem dX7_empty_3 : decode cX7_empty 3 = .ok (.bipush 8, 2) := by decide +kernel
theorem dX7_empty_5 : decode cX7_empty 5 = .ok (.if_icmp .ge 18, 3) := by decide +kernel
theorem dX7_empty_8 : decode cX7_empty 8 = .ok (.aload_n 0, 1) := by decide +kernel
theorem dX7_empty_9 : decode cX7_empty 9 = .ok (.getfield 11, 3) := by decide +kernel
theorem dX7_empty_12 : decode cX7_empty 12 = .ok (.iload_n 1, 1) := by decide +kernel
theorem dX7_empty_13 : decode cX7_empty 13 = .ok (.aaload, 1) := by decide +kernel
theorem dX7_empty_14 : decode cX7_empty 14 = .ok (.invokevirtual 55, 3) := by decide +kernel
theorem dX7_empty_17 : decode cX7_empty 17 = .ok (.iinc 1 1, 3) := by decide +kernel
theorem dX7_empty_20 : decode cX7_empty 20 = .ok (.goto (-18), 3) := by decide +kernel
theorem dX7_empty_23 : decode cX7_empty 23 = .ok (.return_, 1) := by decide +kernel
theorem dX7_heapAt_0 : decode cX7_heapAt 0 = .ok (.iload_n 1, 1) := by decide +kernel
theorem dX7_heapAt_1 : decode cX7_heapAt 1 = .ok (.ifCond .lt 18, 3) := by decide +kernel
theorem dX7_heapAt_4 : decode cX7_heapAt 4 = .ok (.iload_n 1, 1) := by decide +kernel
theorem dX7_heapAt_5 : decode cX7_heapAt 5 = .ok (.bipush 8, 2) := by decide +kernel
theorem dX7_heapAt_7 : decode cX7_heapAt 7 = .ok (.if_icmp .ge 12, 3) := by decide +kernel
theorem dX7_heapAt_10 : decode cX7_heapAt 10 = .ok (.aload_n 0, 1) := by decide +kernel
theorem dX7_heapAt_11 : decode cX7_heapAt 11 = .ok (.getfield 11, 3) := by decide +kernel
theorem dX7_heapAt_14 : decode cX7_heapAt 14 = .ok (.iload_n 1, 1) := by decide +kernel
theorem dX7_heapAt_15 : decode cX7_heapAt 15 = .ok (.aaload, 1) := by decide +kernel
theorem dX7_heapAt_16 : decode cX7_heapAt 16 = .ok (.goto 4, 3) := by decide +kernel
theorem dX7_heapAt_19 : decode cX7_heapAt 19 = .ok (.aconst_null, 1) := by decide +kernel
theorem dX7_heapAt_20 : decode cX7_heapAt 20 = .ok (.areturn, 1) := by decide +kernel
theorem dX7_treeOf_0 : decode cX7_treeOf 0 = .ok (.aload_n 0, 1) := by decide +kernel
theorem dX7_treeOf_1 : decode cX7_treeOf 1 = .ok (.getfield 20, 3) := by decide +kernel
theorem dX7_treeOf_4 : decode cX7_treeOf 4 = .ok (.aload_n 1, 1) := by decide +kernel
theorem dX7_treeOf_5 : decode cX7_treeOf 5 = .ok (.iconst (-1), 1) := by decide +kernel
theorem dX7_treeOf_6 : decode cX7_treeOf 6 = .ok (.iconst (-1), 1) := by decide +kernel
theorem dX7_treeOf_7 : decode cX7_treeOf 7 = .ok (.invokevirtual 58, 3) := by decide +kernel
theorem dX7_treeOf_10 : decode cX7_treeOf 10 = .ok (.aload_n 0, 1) := by decide +kernel
theorem dX7_treeOf_11 : decode cX7_treeOf 11 = .ok (.getfield 20, 3) := by decide +kernel
theorem dX7_treeOf_14 : decode cX7_treeOf 14 = .ok (.areturn, 1) := by decide +kernel
theorem dX7_weaveOf_0 : decode cX7_weaveOf 0 = .ok (.aload_n 0, 1) := by decide +kernel
theorem dX7_weaveOf_1 : decode cX7_weaveOf 1 = .ok (.getfield 27, 3) := by decide +kernel
theorem dX7_weaveOf_4 : decode cX7_weaveOf 4 = .ok (.aload_n 1, 1) := by decide +kernel
theorem dX7_weaveOf_5 : decode cX7_weaveOf 5 = .ok (.aload_n 2, 1) := by decide +kernel
theorem dX7_weaveOf_6 : decode cX7_weaveOf 6 = .ok (.invokevirtual 62, 3) := by decide +kernel
theorem dX7_weaveOf_9 : decode cX7_weaveOf 9 = .ok (.aload_n 0, 1) := by decide +kernel
theorem dX7_weaveOf_10 : decode cX7_weaveOf 10 = .ok (.getfield 27, 3) := by decide +kernel
theorem dX7_weaveOf_13 : decode cX7_weaveOf 13 = .ok (.areturn, 1) := by decide +kernel
theorem dX7_total_0 : decode cX7_total 0 = .ok (.iconst 0, 1) := by decide +kernel
theorem dX7_total_1 : decode cX7_total 1 = .ok (.istore_n 1, 1) := by decide +kernel
theorem dX7_total_2 : decode cX7_total 2 = .ok (.iconst 0, 1) := by decide +kernel
theorem dX7_total_3 : decode cX7_total 3 = .ok (.istore_n 2, 1) := by decide +kernel
theorem dX7_total_4 : decode cX7_total 4 = .ok (.iload_n 2, 1) := by decide +kernel
theorem dX7_total_5 : decode cX7_total 5 = .ok (.bipush 8, 2) := by decide +kernel
theorem dX7_total_7 : decode cX7_total 7 = .ok (.if_icmp .ge 21, 3) := by decide +kernel
theorem dX7_total_10 : decode cX7_total 10 = .ok (.iload_n 1, 1) := by decide +kernel
theorem dX7_total_11 : decode cX7_total 11 = .ok (.aload_n 0, 1) := by decide +kernel
theorem dX7_total_12 : decode cX7_total 12 = .ok (.getfield 11, 3) := by decide +kernel
theorem dX7_total_15 : decode cX7_total 15 = .ok (.iload_n 2, 1) := by decide +kernel
theorem dX7_total_16 : decode cX7_total 16 = .ok (.aaload, 1) := by decide +kernel
theorem dX7_total_17 : decode cX7_total 17 = .ok (.getfield 65, 3) := by decide +kernel
theorem dX7_total_20 : decode cX7_total 20 = .ok (.iadd, 1) := by decide +kernel
theorem dX7_total_21 : decode cX7_total 21 = .ok (.istore_n 1, 1) := by decide +kernel
theorem dX7_total_22 : decode cX7_total 22 = .ok (.iinc 2 1, 3) := by decide +kernel
theorem dX7_total_25 : decode cX7_total 25 = .ok (.goto (-21), 3) := by decide +kernel
theorem dX7_total_28 : decode cX7_total 28 = .ok (.iload_n 1, 1) := by decide +kernel
theorem dX7_total_29 : decode cX7_total 29 = .ok (.ireturn, 1) := by decide +kernel
theorem dX7_putKey_0 : decode cX7_putKey 0 = .ok (.aload_n 0, 1) := by decide +kernel
theorem dX7_putKey_1 : decode cX7_putKey 1 = .ok (.iload_n 1, 1) := by decide +kernel
theorem dX7_putKey_2 : decode cX7_putKey 2 = .ok (.invokevirtual 68, 3) := by decide +kernel
theorem dX7_putKey_5 : decode cX7_putKey 5 = .ok (.astore_n 3, 1) := by decide +kernel
theorem dX7_putKey_6 : decode cX7_putKey 6 = .ok (.aload_n 3, 1) := by decide +kernel
theorem dX7_putKey_7 : decode cX7_putKey 7 = .ok (.ifnull 10, 3) := by decide +kernel
theorem dX7_putKey_10 : decode cX7_putKey 10 = .ok (.iload_n 2, 1) := by decide +kernel
theorem dX7_putKey_11 : decode cX7_putKey 11 = .ok (.invokestatic 72, 3) := by decide +kernel
theorem dX7_putKey_14 : decode cX7_putKey 14 = .ok (.ifCond .ne 5, 3) := by decide +kernel
theorem dX7_putKey_17 : decode cX7_putKey 17 = .ok (.iconst (-1), 1) := by decide +kernel
theorem dX7_putKey_18 : decode cX7_putKey 18 = .ok (.ireturn, 1) := by decide +kernel
theorem dX7_putKey_19 : decode cX7_putKey 19 = .ok (.aload_n 3, 1) := by decide +kernel
theorem dX7_putKey_20 : decode cX7_putKey 20 = .ok (.iload_n 2, 1) := by decide +kernel
theorem dX7_putKey_21 : decode cX7_putKey 21 = .ok (.invokevirtual 76, 3) := by decide +kernel
theorem dX7_putKey_24 : decode cX7_putKey 24 = .ok (.iconst (-1), 1) := by decide +kernel
theorem dX7_putKey_25 : decode cX7_putKey 25 = .ok (.if_icmp .eq 6, 3) := by decide +kernel
theorem dX7_putKey_28 : decode cX7_putKey 28 = .ok (.bipush (-2), 2) := by decide +kernel
theorem dX7_putKey_30 : decode cX7_putKey 30 = .ok (.ireturn, 1) := by decide +kernel
theorem dX7_putKey_31 : decode cX7_putKey 31 = .ok (.aload_n 3, 1) := by decide +kernel
theorem dX7_putKey_32 : decode cX7_putKey 32 = .ok (.getfield 65, 3) := by decide +kernel
theorem dX7_putKey_35 : decode cX7_putKey 35 = .ok (.bipush 60, 2) := by decide +kernel
theorem dX7_putKey_37 : decode cX7_putKey 37 = .ok (.if_icmp .ge 13, 3) := by decide +kernel
theorem dX7_putKey_40 : decode cX7_putKey 40 = .ok (.aload_n 0, 1) := by decide +kernel
theorem dX7_putKey_41 : decode cX7_putKey 41 = .ok (.invokevirtual 80, 3) := by decide +kernel
theorem dX7_putKey_44 : decode cX7_putKey 44 = .ok (.sipush 240, 3) := by decide +kernel
theorem dX7_putKey_47 : decode cX7_putKey 47 = .ok (.if_icmp .lt 6, 3) := by decide +kernel
theorem dX7_putKey_50 : decode cX7_putKey 50 = .ok (.bipush (-4), 2) := by decide +kernel
theorem dX7_putKey_52 : decode cX7_putKey 52 = .ok (.ireturn, 1) := by decide +kernel
theorem dX7_putKey_53 : decode cX7_putKey 53 = .ok (.aload_n 3, 1) := by decide +kernel
theorem dX7_putKey_54 : decode cX7_putKey 54 = .ok (.iload_n 2, 1) := by decide +kernel
theorem dX7_putKey_55 : decode cX7_putKey 55 = .ok (.invokevirtual 84, 3) := by decide +kernel
theorem dX7_putKey_58 : decode cX7_putKey 58 = .ok (.ireturn, 1) := by decide +kernel
theorem dX7_dropKey_0 : decode cX7_dropKey 0 = .ok (.aload_n 0, 1) := by decide +kernel
theorem dX7_dropKey_1 : decode cX7_dropKey 1 = .ok (.iload_n 1, 1) := by decide +kernel
theorem dX7_dropKey_2 : decode cX7_dropKey 2 = .ok (.invokevirtual 68, 3) := by decide +kernel
theorem dX7_dropKey_5 : decode cX7_dropKey 5 = .ok (.astore_n 3, 1) := by decide +kernel
theorem dX7_dropKey_6 : decode cX7_dropKey 6 = .ok (.aload_n 3, 1) := by decide +kernel
theorem dX7_dropKey_7 : decode cX7_dropKey 7 = .ok (.ifnull 10, 3) := by decide +kernel
theorem dX7_dropKey_10 : decode cX7_dropKey 10 = .ok (.iload_n 2, 1) := by decide +kernel
theorem dX7_dropKey_11 : decode cX7_dropKey 11 = .ok (.invokestatic 72, 3) := by decide +kernel
theorem dX7_dropKey_14 : decode cX7_dropKey 14 = .ok (.ifCond .ne 5, 3) := by decide +kernel
theorem dX7_dropKey_17 : decode cX7_dropKey 17 = .ok (.iconst (-1), 1) := by decide +kernel
theorem dX7_dropKey_18 : decode cX7_dropKey 18 = .ok (.ireturn, 1) := by decide +kernel
theorem dX7_dropKey_19 : decode cX7_dropKey 19 = .ok (.aload_n 3, 1) := by decide +kernel
theorem dX7_dropKey_20 : decode cX7_dropKey 20 = .ok (.iload_n 2, 1) := by decide +kernel
theorem dX7_dropKey_21 : decode cX7_dropKey 21 = .ok (.invokevirtual 76, 3) := by decide +kernel
theorem dX7_dropKey_24 : decode cX7_dropKey 24 = .ok (.istore 4, 2) := by decide +kernel
theorem dX7_dropKey_26 : decode cX7_dropKey 26 = .ok (.iload 4, 2) := by decide +kernel
theorem dX7_dropKey_28 : decode cX7_dropKey 28 = .ok (.iconst (-1), 1) := by decide +kernel
theorem dX7_dropKey_29 : decode cX7_dropKey 29 = .ok (.if_icmp .ne 6, 3) := by decide +kernel
theorem dX7_dropKey_32 : decode cX7_dropKey 32 = .ok (.bipush (-2), 2) := by decide +kernel
theorem dX7_dropKey_34 : decode cX7_dropKey 34 = .ok (.ireturn, 1) := by decide +kernel
theorem dX7_dropKey_35 : decode cX7_dropKey 35 = .ok (.aload_n 3, 1) := by decide +kernel
theorem dX7_dropKey_36 : decode cX7_dropKey 36 = .ok (.iload 4, 2) := by decide +kernel
theorem dX7_dropKey_38 : decode cX7_dropKey 38 = .ok (.iconst 1, 1) := by decide +kernel
theorem dX7_dropKey_39 : decode cX7_dropKey 39 = .ok (.invokevirtual 87, 3) := by decide +kernel
theorem dX7_dropKey_42 : decode cX7_dropKey 42 = .ok (.aload_n 3, 1) := by decide +kernel
theorem dX7_dropKey_43 : decode cX7_dropKey 43 = .ok (.getfield 65, 3) := by decide +kernel
theorem dX7_dropKey_46 : decode cX7_dropKey 46 = .ok (.ireturn, 1) := by decide +kernel
theorem dX7_cutAbove_0 : decode cX7_cutAbove 0 = .ok (.aload_n 0, 1) := by decide +kernel
theorem dX7_cutAbove_1 : decode cX7_cutAbove 1 = .ok (.iload_n 1, 1) := by decide +kernel
theorem dX7_cutAbove_2 : decode cX7_cutAbove 2 = .ok (.invokevirtual 68, 3) := by decide +kernel
theorem dX7_cutAbove_5 : decode cX7_cutAbove 5 = .ok (.astore 4, 2) := by decide +kernel
theorem dX7_cutAbove_7 : decode cX7_cutAbove 7 = .ok (.aload_n 0, 1) := by decide +kernel
theorem dX7_cutAbove_8 : decode cX7_cutAbove 8 = .ok (.iload_n 3, 1) := by decide +kernel
theorem dX7_cutAbove_9 : decode cX7_cutAbove 9 = .ok (.invokevirtual 68, 3) := by decide +kernel
theorem dX7_cutAbove_12 : decode cX7_cutAbove 12 = .ok (.astore 5, 2) := by decide +kernel
theorem dX7_cutAbove_14 : decode cX7_cutAbove 14 = .ok (.aload 4, 2) := by decide +kernel
theorem dX7_cutAbove_16 : decode cX7_cutAbove 16 = .ok (.ifnull 20, 3) := by decide +kernel
theorem dX7_cutAbove_19 : decode cX7_cutAbove 19 = .ok (.aload 5, 2) := by decide +kernel
theorem dX7_cutAbove_21 : decode cX7_cutAbove 21 = .ok (.ifnull 15, 3) := by decide +kernel
theorem dX7_cutAbove_24 : decode cX7_cutAbove 24 = .ok (.iload_n 1, 1) := by decide +kernel
theorem dX7_cutAbove_25 : decode cX7_cutAbove 25 = .ok (.iload_n 3, 1) := by decide +kernel
theorem dX7_cutAbove_26 : decode cX7_cutAbove 26 = .ok (.if_icmp .eq 10, 3) := by decide +kernel
theorem dX7_cutAbove_29 : decode cX7_cutAbove 29 = .ok (.iload_n 2, 1) := by decide +kernel
theorem dX7_cutAbove_30 : decode cX7_cutAbove 30 = .ok (.invokestatic 72, 3) := by decide +kernel
theorem dX7_cutAbove_33 : decode cX7_cutAbove 33 = .ok (.ifCond .ne 5, 3) := by decide +kernel
theorem dX7_cutAbove_36 : decode cX7_cutAbove 36 = .ok (.iconst (-1), 1) := by decide +kernel
theorem dX7_cutAbove_37 : decode cX7_cutAbove 37 = .ok (.ireturn, 1) := by decide +kernel
theorem dX7_cutAbove_38 : decode cX7_cutAbove 38 = .ok (.aload 4, 2) := by decide +kernel
theorem dX7_cutAbove_40 : decode cX7_cutAbove 40 = .ok (.iload_n 2, 1) := by decide +kernel
theorem dX7_cutAbove_41 : decode cX7_cutAbove 41 = .ok (.invokevirtual 91, 3) := by decide +kernel
theorem dX7_cutAbove_44 : decode cX7_cutAbove 44 = .ok (.istore 6, 2) := by decide +kernel
theorem dX7_cutAbove_46 : decode cX7_cutAbove 46 = .ok (.aload 4, 2) := by decide +kernel
theorem dX7_cutAbove_48 : decode cX7_cutAbove 48 = .ok (.getfield 65, 3) := by decide +kernel
theorem dX7_cutAbove_51 : decode cX7_cutAbove 51 = .ok (.iload 6, 2) := by decide +kernel
theorem dX7_cutAbove_53 : decode cX7_cutAbove 53 = .ok (.isub, 1) := by decide +kernel
theorem dX7_cutAbove_54 : decode cX7_cutAbove 54 = .ok (.istore 7, 2) := by decide +kernel
theorem dX7_cutAbove_56 : decode cX7_cutAbove 56 = .ok (.iload 7, 2) := by decide +kernel
theorem dX7_cutAbove_58 : decode cX7_cutAbove 58 = .ok (.ifCond .ne 6, 3) := by decide +kernel
theorem dX7_cutAbove_61 : decode cX7_cutAbove 61 = .ok (.bipush (-2), 2) := by decide +kernel
theorem dX7_cutAbove_63 : decode cX7_cutAbove 63 = .ok (.ireturn, 1) := by decide +kernel
theorem dX7_cutAbove_64 : decode cX7_cutAbove 64 = .ok (.aload 5, 2) := by decide +kernel
theorem dX7_cutAbove_66 : decode cX7_cutAbove 66 = .ok (.getfield 65, 3) := by decide +kernel
theorem dX7_cutAbove_69 : decode cX7_cutAbove 69 = .ok (.ifCond .le 6, 3) := by decide +kernel
theorem dX7_cutAbove_72 : decode cX7_cutAbove 72 = .ok (.bipush (-3), 2) := by decide +kernel
theorem dX7_cutAbove_74 : decode cX7_cutAbove 74 = .ok (.ireturn, 1) := by decide +kernel
theorem dX7_cutAbove_75 : decode cX7_cutAbove 75 = .ok (.aload 4, 2) := by decide +kernel
theorem dX7_cutAbove_77 : decode cX7_cutAbove 77 = .ok (.iload 6, 2) := by decide +kernel
theorem dX7_cutAbove_79 : decode cX7_cutAbove 79 = .ok (.iload 7, 2) := by decide +kernel
theorem dX7_cutAbove_81 : decode cX7_cutAbove 81 = .ok (.aload 5, 2) := by decide +kernel
theorem dX7_cutAbove_83 : decode cX7_cutAbove 83 = .ok (.invokevirtual 94, 3) := by decide +kernel
theorem dX7_cutAbove_86 : decode cX7_cutAbove 86 = .ok (.iload 7, 2) := by decide +kernel
theorem dX7_cutAbove_88 : decode cX7_cutAbove 88 = .ok (.ireturn, 1) := by decide +kernel
theorem dX7_joinTo_0 : decode cX7_joinTo 0 = .ok (.aload_n 0, 1) := by decide +kernel
theorem dX7_joinTo_1 : decode cX7_joinTo 1 = .ok (.iload_n 1, 1) := by decide +kernel
theorem dX7_joinTo_2 : decode cX7_joinTo 2 = .ok (.invokevirtual 68, 3) := by decide +kernel
theorem dX7_joinTo_5 : decode cX7_joinTo 5 = .ok (.astore_n 3, 1) := by decide +kernel
theorem dX7_joinTo_6 : decode cX7_joinTo 6 = .ok (.aload_n 0, 1) := by decide +kernel
theorem dX7_joinTo_7 : decode cX7_joinTo 7 = .ok (.iload_n 2, 1) := by decide +kernel
theorem dX7_joinTo_8 : decode cX7_joinTo 8 = .ok (.invokevirtual 68, 3) := by decide +kernel
theorem dX7_joinTo_11 : decode cX7_joinTo 11 = .ok (.astore 4, 2) := by decide +kernel
theorem dX7_joinTo_13 : decode cX7_joinTo 13 = .ok (.aload_n 3, 1) := by decide +kernel
theorem dX7_joinTo_14 : decode cX7_joinTo 14 = .ok (.ifnull 13, 3) := by decide +kernel
theorem dX7_joinTo_17 : decode cX7_joinTo 17 = .ok (.aload 4, 2) := by decide +kernel
theorem dX7_joinTo_19 : decode cX7_joinTo 19 = .ok (.ifnull 8, 3) := by decide +kernel
theorem dX7_joinTo_22 : decode cX7_joinTo 22 = .ok (.iload_n 1, 1) := by decide +kernel
theorem dX7_joinTo_23 : decode cX7_joinTo 23 = .ok (.iload_n 2, 1) := by decide +kernel
theorem dX7_joinTo_24 : decode cX7_joinTo 24 = .ok (.if_icmp .ne 5, 3) := by decide +kernel
theorem dX7_joinTo_27 : decode cX7_joinTo 27 = .ok (.iconst (-1), 1) := by decide +kernel
theorem dX7_joinTo_28 : decode cX7_joinTo 28 = .ok (.ireturn, 1) := by decide +kernel
theorem dX7_joinTo_29 : decode cX7_joinTo 29 = .ok (.aload_n 0, 1) := by decide +kernel
theorem dX7_joinTo_30 : decode cX7_joinTo 30 = .ok (.aload_n 3, 1) := by decide +kernel
theorem dX7_joinTo_31 : decode cX7_joinTo 31 = .ok (.aload 4, 2) := by decide +kernel
theorem dX7_joinTo_33 : decode cX7_joinTo 33 = .ok (.invokevirtual 98, 3) := by decide +kernel
theorem dX7_joinTo_36 : decode cX7_joinTo 36 = .ok (.istore 5, 2) := by decide +kernel
theorem dX7_joinTo_38 : decode cX7_joinTo 38 = .ok (.iload 5, 2) := by decide +kernel
theorem dX7_joinTo_40 : decode cX7_joinTo 40 = .ok (.ifCond .eq 6, 3) := by decide +kernel
theorem dX7_joinTo_43 : decode cX7_joinTo 43 = .ok (.iload 5, 2) := by decide +kernel
theorem dX7_joinTo_45 : decode cX7_joinTo 45 = .ok (.ireturn, 1) := by decide +kernel
theorem dX7_joinTo_46 : decode cX7_joinTo 46 = .ok (.aload 4, 2) := by decide +kernel
theorem dX7_joinTo_48 : decode cX7_joinTo 48 = .ok (.iconst 0, 1) := by decide +kernel
theorem dX7_joinTo_49 : decode cX7_joinTo 49 = .ok (.aload 4, 2) := by decide +kernel
theorem dX7_joinTo_51 : decode cX7_joinTo 51 = .ok (.getfield 65, 3) := by decide +kernel
theorem dX7_joinTo_54 : decode cX7_joinTo 54 = .ok (.aload_n 3, 1) := by decide +kernel
theorem dX7_joinTo_55 : decode cX7_joinTo 55 = .ok (.invokevirtual 94, 3) := by decide +kernel
theorem dX7_joinTo_58 : decode cX7_joinTo 58 = .ok (.aload_n 3, 1) := by decide +kernel
theorem dX7_joinTo_59 : decode cX7_joinTo 59 = .ok (.getfield 65, 3) := by decide +kernel
theorem dX7_joinTo_62 : decode cX7_joinTo 62 = .ok (.ireturn, 1) := by decide +kernel
theorem dX7_whyNotJoin_0 : decode cX7_whyNotJoin 0 = .ok (.aload_n 2, 1) := by decide +kernel
theorem dX7_whyNotJoin_1 : decode cX7_whyNotJoin 1 = .ok (.getfield 65, 3) := by decide +kernel
theorem dX7_whyNotJoin_4 : decode cX7_whyNotJoin 4 = .ok (.ifCond .ne 6, 3) := by decide +kernel
theorem dX7_whyNotJoin_7 : decode cX7_whyNotJoin 7 = .ok (.bipush (-2), 2) := by decide +kernel
theorem dX7_whyNotJoin_9 : decode cX7_whyNotJoin 9 = .ok (.ireturn, 1) := by decide +kernel
theorem dX7_whyNotJoin_10 : decode cX7_whyNotJoin 10 = .ok (.aload_n 1, 1) := by decide +kernel
theorem dX7_whyNotJoin_11 : decode cX7_whyNotJoin 11 = .ok (.getfield 65, 3) := by decide +kernel
theorem dX7_whyNotJoin_14 : decode cX7_whyNotJoin 14 = .ok (.ifCond .le 24, 3) := by decide +kernel
theorem dX7_whyNotJoin_17 : decode cX7_whyNotJoin 17 = .ok (.aload_n 1, 1) := by decide +kernel
theorem dX7_whyNotJoin_18 : decode cX7_whyNotJoin 18 = .ok (.aload_n 1, 1) := by decide +kernel
theorem dX7_whyNotJoin_19 : decode cX7_whyNotJoin 19 = .ok (.getfield 65, 3) := by decide +kernel
theorem dX7_whyNotJoin_22 : decode cX7_whyNotJoin 22 = .ok (.iconst 1, 1) := by decide +kernel
theorem dX7_whyNotJoin_23 : decode cX7_whyNotJoin 23 = .ok (.isub, 1) := by decide +kernel
theorem dX7_whyNotJoin_24 : decode cX7_whyNotJoin 24 = .ok (.invokevirtual 102, 3) := by decide +kernel
theorem dX7_whyNotJoin_27 : decode cX7_whyNotJoin 27 = .ok (.aload_n 2, 1) := by decide +kernel
theorem dX7_whyNotJoin_28 : decode cX7_whyNotJoin 28 = .ok (.iconst 0, 1) := by decide +kernel
theorem dX7_whyNotJoin_29 : decode cX7_whyNotJoin 29 = .ok (.invokevirtual 102, 3) := by decide +kernel
theorem dX7_whyNotJoin_32 : decode cX7_whyNotJoin 32 = .ok (.if_icmp .lt 6, 3) := by decide +kernel
theorem dX7_whyNotJoin_35 : decode cX7_whyNotJoin 35 = .ok (.bipush (-3), 2) := by decide +kernel
theorem dX7_whyNotJoin_37 : decode cX7_whyNotJoin 37 = .ok (.ireturn, 1) := by decide +kernel
theorem dX7_whyNotJoin_38 : decode cX7_whyNotJoin 38 = .ok (.aload_n 1, 1) := by decide +kernel
theorem dX7_whyNotJoin_39 : decode cX7_whyNotJoin 39 = .ok (.getfield 65, 3) := by decide +kernel
theorem dX7_whyNotJoin_42 : decode cX7_whyNotJoin 42 = .ok (.aload_n 2, 1) := by decide +kernel
theorem dX7_whyNotJoin_43 : decode cX7_whyNotJoin 43 = .ok (.getfield 65, 3) := by decide +kernel
theorem dX7_whyNotJoin_46 : decode cX7_whyNotJoin 46 = .ok (.iadd, 1) := by decide +kernel
theorem dX7_whyNotJoin_47 : decode cX7_whyNotJoin 47 = .ok (.bipush 60, 2) := by decide +kernel
theorem dX7_whyNotJoin_49 : decode cX7_whyNotJoin 49 = .ok (.if_icmp .le 8, 3) := by decide +kernel
theorem dX7_whyNotJoin_52 : decode cX7_whyNotJoin 52 = .ok (.bipush (-4), 2) := by decide +kernel
theorem dX7_whyNotJoin_54 : decode cX7_whyNotJoin 54 = .ok (.goto 4, 3) := by decide +kernel
theorem dX7_whyNotJoin_57 : decode cX7_whyNotJoin 57 = .ok (.iconst 0, 1) := by decide +kernel
theorem dX7_whyNotJoin_58 : decode cX7_whyNotJoin 58 = .ok (.ireturn, 1) := by decide +kernel
theorem dX7_meltTo_0 : decode cX7_meltTo 0 = .ok (.aload_n 0, 1) := by decide +kernel
theorem dX7_meltTo_1 : decode cX7_meltTo 1 = .ok (.iload_n 1, 1) := by decide +kernel
theorem dX7_meltTo_2 : decode cX7_meltTo 2 = .ok (.invokevirtual 68, 3) := by decide +kernel
theorem dX7_meltTo_5 : decode cX7_meltTo 5 = .ok (.astore_n 3, 1) := by decide +kernel
theorem dX7_meltTo_6 : decode cX7_meltTo 6 = .ok (.aload_n 0, 1) := by decide +kernel
theorem dX7_meltTo_7 : decode cX7_meltTo 7 = .ok (.iload_n 2, 1) := by decide +kernel
theorem dX7_meltTo_8 : decode cX7_meltTo 8 = .ok (.invokevirtual 68, 3) := by decide +kernel
theorem dX7_meltTo_11 : decode cX7_meltTo 11 = .ok (.astore 4, 2) := by decide +kernel
theorem dX7_meltTo_13 : decode cX7_meltTo 13 = .ok (.aload_n 3, 1) := by decide +kernel
theorem dX7_meltTo_14 : decode cX7_meltTo 14 = .ok (.ifnull 13, 3) := by decide +kernel
theorem dX7_meltTo_17 : decode cX7_meltTo 17 = .ok (.aload 4, 2) := by decide +kernel
theorem dX7_meltTo_19 : decode cX7_meltTo 19 = .ok (.ifnull 8, 3) := by decide +kernel
theorem dX7_meltTo_22 : decode cX7_meltTo 22 = .ok (.iload_n 1, 1) := by decide +kernel
theorem dX7_meltTo_23 : decode cX7_meltTo 23 = .ok (.iload_n 2, 1) := by decide +kernel
theorem dX7_meltTo_24 : decode cX7_meltTo 24 = .ok (.if_icmp .ne 5, 3) := by decide +kernel
theorem dX7_meltTo_27 : decode cX7_meltTo 27 = .ok (.iconst (-1), 1) := by decide +kernel
theorem dX7_meltTo_28 : decode cX7_meltTo 28 = .ok (.ireturn, 1) := by decide +kernel
theorem dX7_meltTo_29 : decode cX7_meltTo 29 = .ok (.aload_n 0, 1) := by decide +kernel
theorem dX7_meltTo_30 : decode cX7_meltTo 30 = .ok (.getfield 27, 3) := by decide +kernel
theorem dX7_meltTo_33 : decode cX7_meltTo 33 = .ok (.aload_n 3, 1) := by decide +kernel
theorem dX7_meltTo_34 : decode cX7_meltTo 34 = .ok (.aload 4, 2) := by decide +kernel
theorem dX7_meltTo_36 : decode cX7_meltTo 36 = .ok (.invokevirtual 62, 3) := by decide +kernel
theorem dX7_meltTo_39 : decode cX7_meltTo 39 = .ok (.aload_n 0, 1) := by decide +kernel
theorem dX7_meltTo_40 : decode cX7_meltTo 40 = .ok (.aload 4, 2) := by decide +kernel
theorem dX7_meltTo_42 : decode cX7_meltTo 42 = .ok (.aload_n 0, 1) := by decide +kernel
theorem dX7_meltTo_43 : decode cX7_meltTo 43 = .ok (.getfield 27, 3) := by decide +kernel
theorem dX7_meltTo_46 : decode cX7_meltTo 46 = .ok (.invokevirtual 105, 3) := by decide +kernel
theorem dX7_meltTo_49 : decode cX7_meltTo 49 = .ok (.istore 5, 2) := by decide +kernel
theorem dX7_meltTo_51 : decode cX7_meltTo 51 = .ok (.iload 5, 2) := by decide +kernel
theorem dX7_meltTo_53 : decode cX7_meltTo 53 = .ok (.ifCond .eq 6, 3) := by decide +kernel
theorem dX7_meltTo_56 : decode cX7_meltTo 56 = .ok (.iload 5, 2) := by decide +kernel
theorem dX7_meltTo_58 : decode cX7_meltTo 58 = .ok (.ireturn, 1) := by decide +kernel
theorem dX7_meltTo_59 : decode cX7_meltTo 59 = .ok (.aload_n 3, 1) := by decide +kernel
theorem dX7_meltTo_60 : decode cX7_meltTo 60 = .ok (.aload 4, 2) := by decide +kernel
theorem dX7_meltTo_62 : decode cX7_meltTo 62 = .ok (.aload_n 0, 1) := by decide +kernel
theorem dX7_meltTo_63 : decode cX7_meltTo 63 = .ok (.getfield 27, 3) := by decide +kernel
theorem dX7_meltTo_66 : decode cX7_meltTo 66 = .ok (.getfield 109, 3) := by decide +kernel
theorem dX7_meltTo_69 : decode cX7_meltTo 69 = .ok (.invokevirtual 112, 3) := by decide +kernel
theorem dX7_meltTo_72 : decode cX7_meltTo 72 = .ok (.aload_n 0, 1) := by decide +kernel
theorem dX7_meltTo_73 : decode cX7_meltTo 73 = .ok (.getfield 27, 3) := by decide +kernel
theorem dX7_meltTo_76 : decode cX7_meltTo 76 = .ok (.getfield 116, 3) := by decide +kernel
theorem dX7_meltTo_79 : decode cX7_meltTo 79 = .ok (.ireturn, 1) := by decide +kernel
theorem dX7_whyNotMelt_0 : decode cX7_whyNotMelt 0 = .ok (.aload_n 1, 1) := by decide +kernel
theorem dX7_whyNotMelt_1 : decode cX7_whyNotMelt 1 = .ok (.getfield 65, 3) := by decide +kernel
theorem dX7_whyNotMelt_4 : decode cX7_whyNotMelt 4 = .ok (.ifCond .ne 6, 3) := by decide +kernel
theorem dX7_whyNotMelt_7 : decode cX7_whyNotMelt 7 = .ok (.bipush (-2), 2) := by decide +kernel
theorem dX7_whyNotMelt_9 : decode cX7_whyNotMelt 9 = .ok (.ireturn, 1) := by decide +kernel
theorem dX7_whyNotMelt_10 : decode cX7_whyNotMelt 10 = .ok (.aload_n 2, 1) := by decide +kernel
theorem dX7_whyNotMelt_11 : decode cX7_whyNotMelt 11 = .ok (.getfield 109, 3) := by decide +kernel
theorem dX7_whyNotMelt_14 : decode cX7_whyNotMelt 14 = .ok (.bipush 60, 2) := by decide +kernel
theorem dX7_whyNotMelt_16 : decode cX7_whyNotMelt 16 = .ok (.if_icmp .le 8, 3) := by decide +kernel
theorem dX7_whyNotMelt_19 : decode cX7_whyNotMelt 19 = .ok (.bipush (-4), 2) := by decide +kernel
theorem dX7_whyNotMelt_21 : decode cX7_whyNotMelt 21 = .ok (.goto 4, 3) := by decide +kernel
theorem dX7_whyNotMelt_24 : decode cX7_whyNotMelt 24 = .ok (.iconst 0, 1) := by decide +kernel
theorem dX7_whyNotMelt_25 : decode cX7_whyNotMelt 25 = .ok (.ireturn, 1) := by decide +kernel
theorem dX7_shiftBy_0 : decode cX7_shiftBy 0 = .ok (.aload_n 0, 1) := by decide +kernel
theorem dX7_shiftBy_1 : decode cX7_shiftBy 1 = .ok (.iload_n 1, 1) := by decide +kernel
theorem dX7_shiftBy_2 : decode cX7_shiftBy 2 = .ok (.invokevirtual 68, 3) := by decide +kernel
theorem dX7_shiftBy_5 : decode cX7_shiftBy 5 = .ok (.astore_n 3, 1) := by decide +kernel
theorem dX7_shiftBy_6 : decode cX7_shiftBy 6 = .ok (.aload_n 3, 1) := by decide +kernel
theorem dX7_shiftBy_7 : decode cX7_shiftBy 7 = .ok (.ifnull 17, 3) := by decide +kernel
theorem dX7_shiftBy_10 : decode cX7_shiftBy 10 = .ok (.iload_n 2, 1) := by decide +kernel
theorem dX7_shiftBy_11 : decode cX7_shiftBy 11 = .ok (.sipush (-9999), 3) := by decide +kernel
theorem dX7_shiftBy_14 : decode cX7_shiftBy 14 = .ok (.if_icmp .lt 10, 3) := by decide +kernel
theorem dX7_shiftBy_17 : decode cX7_shiftBy 17 = .ok (.iload_n 2, 1) := by decide +kernel
theorem dX7_shiftBy_18 : decode cX7_shiftBy 18 = .ok (.sipush 9999, 3) := by decide +kernel
theorem dX7_shiftBy_21 : decode cX7_shiftBy 21 = .ok (.if_icmp .le 5, 3) := by decide +kernel
theorem dX7_shiftBy_24 : decode cX7_shiftBy 24 = .ok (.iconst (-1), 1) := by decide +kernel
theorem dX7_shiftBy_25 : decode cX7_shiftBy 25 = .ok (.ireturn, 1) := by decide +kernel
theorem dX7_shiftBy_26 : decode cX7_shiftBy 26 = .ok (.iload_n 2, 1) := by decide +kernel
theorem dX7_shiftBy_27 : decode cX7_shiftBy 27 = .ok (.ifCond .eq 10, 3) := by decide +kernel
theorem dX7_shiftBy_30 : decode cX7_shiftBy 30 = .ok (.aload_n 3, 1) := by decide +kernel
theorem dX7_shiftBy_31 : decode cX7_shiftBy 31 = .ok (.getfield 65, 3) := by decide +kernel
theorem dX7_shiftBy_34 : decode cX7_shiftBy 34 = .ok (.ifCond .ne 6, 3) := by decide +kernel
theorem dX7_shiftBy_37 : decode cX7_shiftBy 37 = .ok (.bipush (-2), 2) := by decide +kernel
theorem dX7_shiftBy_39 : decode cX7_shiftBy 39 = .ok (.ireturn, 1) := by decide +kernel
theorem dX7_shiftBy_40 : decode cX7_shiftBy 40 = .ok (.aload_n 3, 1) := by decide +kernel
theorem dX7_shiftBy_41 : decode cX7_shiftBy 41 = .ok (.iconst 0, 1) := by decide +kernel
theorem dX7_shiftBy_42 : decode cX7_shiftBy 42 = .ok (.invokevirtual 102, 3) := by decide +kernel
theorem dX7_shiftBy_45 : decode cX7_shiftBy 45 = .ok (.iload_n 2, 1) := by decide +kernel
theorem dX7_shiftBy_46 : decode cX7_shiftBy 46 = .ok (.iadd, 1) := by decide +kernel
theorem dX7_shiftBy_47 : decode cX7_shiftBy 47 = .ok (.invokestatic 72, 3) := by decide +kernel
theorem dX7_shiftBy_50 : decode cX7_shiftBy 50 = .ok (.ifCond .eq 21, 3) := by decide +kernel
theorem dX7_shiftBy_53 : decode cX7_shiftBy 53 = .ok (.aload_n 3, 1) := by decide +kernel
theorem dX7_shiftBy_54 : decode cX7_shiftBy 54 = .ok (.aload_n 3, 1) := by decide +kernel
theorem dX7_shiftBy_55 : decode cX7_shiftBy 55 = .ok (.getfield 65, 3) := by decide +kernel
theorem dX7_shiftBy_58 : decode cX7_shiftBy 58 = .ok (.iconst 1, 1) := by decide +kernel
theorem dX7_shiftBy_59 : decode cX7_shiftBy 59 = .ok (.isub, 1) := by decide +kernel
theorem dX7_shiftBy_60 : decode cX7_shiftBy 60 = .ok (.invokevirtual 102, 3) := by decide +kernel
theorem dX7_shiftBy_63 : decode cX7_shiftBy 63 = .ok (.iload_n 2, 1) := by decide +kernel
theorem dX7_shiftBy_64 : decode cX7_shiftBy 64 = .ok (.iadd, 1) := by decide +kernel
theorem dX7_shiftBy_65 : decode cX7_shiftBy 65 = .ok (.invokestatic 72, 3) := by decide +kernel
theorem dX7_shiftBy_68 : decode cX7_shiftBy 68 = .ok (.ifCond .ne 6, 3) := by decide +kernel
theorem dX7_shiftBy_71 : decode cX7_shiftBy 71 = .ok (.bipush (-3), 2) := by decide +kernel
theorem dX7_shiftBy_73 : decode cX7_shiftBy 73 = .ok (.ireturn, 1) := by decide +kernel
theorem dX7_shiftBy_74 : decode cX7_shiftBy 74 = .ok (.aload_n 3, 1) := by decide +kernel
theorem dX7_shiftBy_75 : decode cX7_shiftBy 75 = .ok (.iload_n 2, 1) := by decide +kernel
theorem dX7_shiftBy_76 : decode cX7_shiftBy 76 = .ok (.invokevirtual 119, 3) := by decide +kernel
theorem dX7_shiftBy_79 : decode cX7_shiftBy 79 = .ok (.aload_n 3, 1) := by decide +kernel
theorem dX7_shiftBy_80 : decode cX7_shiftBy 80 = .ok (.getfield 65, 3) := by decide +kernel
theorem dX7_shiftBy_83 : decode cX7_shiftBy 83 = .ok (.ireturn, 1) := by decide +kernel
theorem dX7_moveStretch_0 : decode cX7_moveStretch 0 = .ok (.aload_n 0, 1) := by decide +kernel
theorem dX7_moveStretch_1 : decode cX7_moveStretch 1 = .ok (.iload_n 1, 1) := by decide +kernel
theorem dX7_moveStretch_2 : decode cX7_moveStretch 2 = .ok (.invokevirtual 68, 3) := by decide +kernel
theorem dX7_moveStretch_5 : decode cX7_moveStretch 5 = .ok (.astore 5, 2) := by decide +kernel
theorem dX7_moveStretch_7 : decode cX7_moveStretch 7 = .ok (.aload_n 0, 1) := by decide +kernel
theorem dX7_moveStretch_8 : decode cX7_moveStretch 8 = .ok (.iload 4, 2) := by decide +kernel
theorem dX7_moveStretch_10 : decode cX7_moveStretch 10 = .ok (.invokevirtual 68, 3) := by decide +kernel
theorem dX7_moveStretch_13 : decode cX7_moveStretch 13 = .ok (.astore 6, 2) := by decide +kernel
theorem dX7_moveStretch_15 : decode cX7_moveStretch 15 = .ok (.aload 5, 2) := by decide +kernel
theorem dX7_moveStretch_17 : decode cX7_moveStretch 17 = .ok (.ifnull 28, 3) := by decide +kernel
theorem dX7_moveStretch_20 : decode cX7_moveStretch 20 = .ok (.aload 6, 2) := by decide +kernel
theorem dX7_moveStretch_22 : decode cX7_moveStretch 22 = .ok (.ifnull 23, 3) := by decide +kernel
theorem dX7_moveStretch_25 : decode cX7_moveStretch 25 = .ok (.iload_n 1, 1) := by decide +kernel
theorem dX7_moveStretch_26 : decode cX7_moveStretch 26 = .ok (.iload 4, 2) := by decide +kernel
theorem dX7_moveStretch_28 : decode cX7_moveStretch 28 = .ok (.if_icmp .eq 17, 3) := by decide +kernel
theorem dX7_moveStretch_31 : decode cX7_moveStretch 31 = .ok (.iload_n 2, 1) := by decide +kernel
theorem dX7_moveStretch_32 : decode cX7_moveStretch 32 = .ok (.invokestatic 72, 3) := by decide +kernel
theorem dX7_moveStretch_35 : decode cX7_moveStretch 35 = .ok (.ifCond .eq 10, 3) := by decide +kernel
theorem dX7_moveStretch_38 : decode cX7_moveStretch 38 = .ok (.iload_n 3, 1) := by decide +kernel
theorem dX7_moveStretch_39 : decode cX7_moveStretch 39 = .ok (.invokestatic 72, 3) := by decide +kernel
theorem dX7_moveStretch_42 : decode cX7_moveStretch 42 = .ok (.ifCond .ne 5, 3) := by decide +kernel
theorem dX7_moveStretch_45 : decode cX7_moveStretch 45 = .ok (.iconst (-1), 1) := by decide +kernel
theorem dX7_moveStretch_46 : decode cX7_moveStretch 46 = .ok (.ireturn, 1) := by decide +kernel
theorem dX7_moveStretch_47 : decode cX7_moveStretch 47 = .ok (.aload 5, 2) := by decide +kernel
theorem dX7_moveStretch_49 : decode cX7_moveStretch 49 = .ok (.iload_n 2, 1) := by decide +kernel
theorem dX7_moveStretch_50 : decode cX7_moveStretch 50 = .ok (.iload_n 3, 1) := by decide +kernel
theorem dX7_moveStretch_51 : decode cX7_moveStretch 51 = .ok (.invokevirtual 123, 3) := by decide +kernel
theorem dX7_moveStretch_54 : decode cX7_moveStretch 54 = .ok (.istore 7, 2) := by decide +kernel
theorem dX7_moveStretch_56 : decode cX7_moveStretch 56 = .ok (.iload 7, 2) := by decide +kernel
theorem dX7_moveStretch_58 : decode cX7_moveStretch 58 = .ok (.ifCond .ne 6, 3) := by decide +kernel
theorem dX7_moveStretch_61 : decode cX7_moveStretch 61 = .ok (.bipush (-2), 2) := by decide +kernel
theorem dX7_moveStretch_63 : decode cX7_moveStretch 63 = .ok (.ireturn, 1) := by decide +kernel
theorem dX7_moveStretch_64 : decode cX7_moveStretch 64 = .ok (.aload 5, 2) := by decide +kernel
theorem dX7_moveStretch_66 : decode cX7_moveStretch 66 = .ok (.iload_n 2, 1) := by decide +kernel
theorem dX7_moveStretch_67 : decode cX7_moveStretch 67 = .ok (.invokevirtual 127, 3) := by decide +kernel
theorem dX7_moveStretch_70 : decode cX7_moveStretch 70 = .ok (.istore 8, 2) := by decide +kernel
theorem dX7_moveStretch_72 : decode cX7_moveStretch 72 = .ok (.aload 6, 2) := by decide +kernel
theorem dX7_moveStretch_74 : decode cX7_moveStretch 74 = .ok (.aload 5, 2) := by decide +kernel
theorem dX7_moveStretch_76 : decode cX7_moveStretch 76 = .ok (.iload 8, 2) := by decide +kernel
theorem dX7_moveStretch_78 : decode cX7_moveStretch 78 = .ok (.invokevirtual 102, 3) := by decide +kernel
theorem dX7_moveStretch_81 : decode cX7_moveStretch 81 = .ok (.aload 5, 2) := by decide +kernel
theorem dX7_moveStretch_83 : decode cX7_moveStretch 83 = .ok (.iload 8, 2) := by decide +kernel
theorem dX7_moveStretch_85 : decode cX7_moveStretch 85 = .ok (.iload 7, 2) := by decide +kernel
theorem dX7_moveStretch_87 : decode cX7_moveStretch 87 = .ok (.iadd, 1) := by decide +kernel
theorem dX7_moveStretch_88 : decode cX7_moveStretch 88 = .ok (.iconst 1, 1) := by decide +kernel
theorem dX7_moveStretch_89 : decode cX7_moveStretch 89 = .ok (.isub, 1) := by decide +kernel
theorem dX7_moveStretch_90 : decode cX7_moveStretch 90 = .ok (.invokevirtual 102, 3) := by decide +kernel
theorem dX7_moveStretch_93 : decode cX7_moveStretch 93 = .ok (.invokevirtual 123, 3) := by decide +kernel
theorem dX7_moveStretch_96 : decode cX7_moveStretch 96 = .ok (.ifCond .le 6, 3) := by decide +kernel
theorem dX7_moveStretch_99 : decode cX7_moveStretch 99 = .ok (.bipush (-3), 2) := by decide +kernel
theorem dX7_moveStretch_101 : decode cX7_moveStretch 101 = .ok (.ireturn, 1) := by decide +kernel
theorem dX7_moveStretch_102 : decode cX7_moveStretch 102 = .ok (.aload 6, 2) := by decide +kernel
theorem dX7_moveStretch_104 : decode cX7_moveStretch 104 = .ok (.getfield 65, 3) := by decide +kernel
theorem dX7_moveStretch_107 : decode cX7_moveStretch 107 = .ok (.iload 7, 2) := by decide +kernel
theorem dX7_moveStretch_109 : decode cX7_moveStretch 109 = .ok (.iadd, 1) := by decide +kernel
theorem dX7_moveStretch_110 : decode cX7_moveStretch 110 = .ok (.bipush 60, 2) := by decide +kernel
theorem dX7_moveStretch_112 : decode cX7_moveStretch 112 = .ok (.if_icmp .le 6, 3) := by decide +kernel
theorem dX7_moveStretch_115 : decode cX7_moveStretch 115 = .ok (.bipush (-4), 2) := by decide +kernel
theorem dX7_moveStretch_117 : decode cX7_moveStretch 117 = .ok (.ireturn, 1) := by decide +kernel
theorem dX7_moveStretch_118 : decode cX7_moveStretch 118 = .ok (.aload 5, 2) := by decide +kernel
theorem dX7_moveStretch_120 : decode cX7_moveStretch 120 = .ok (.iload 8, 2) := by decide +kernel
theorem dX7_moveStretch_122 : decode cX7_moveStretch 122 = .ok (.iload 7, 2) := by decide +kernel
theorem dX7_moveStretch_124 : decode cX7_moveStretch 124 = .ok (.aload 6, 2) := by decide +kernel
theorem dX7_moveStretch_126 : decode cX7_moveStretch 126 = .ok (.invokevirtual 94, 3) := by decide +kernel
theorem dX7_moveStretch_129 : decode cX7_moveStretch 129 = .ok (.iload 7, 2) := by decide +kernel
theorem dX7_moveStretch_131 : decode cX7_moveStretch 131 = .ok (.ireturn, 1) := by decide +kernel
theorem dX7_markStretch_0 : decode cX7_markStretch 0 = .ok (.aload_n 0, 1) := by decide +kernel
theorem dX7_markStretch_1 : decode cX7_markStretch 1 = .ok (.iload_n 1, 1) := by decide +kernel
theorem dX7_markStretch_2 : decode cX7_markStretch 2 = .ok (.invokevirtual 68, 3) := by decide +kernel
theorem dX7_markStretch_5 : decode cX7_markStretch 5 = .ok (.astore 5, 2) := by decide +kernel
theorem dX7_markStretch_7 : decode cX7_markStretch 7 = .ok (.aload 5, 2) := by decide +kernel
theorem dX7_markStretch_9 : decode cX7_markStretch 9 = .ok (.ifnull 17, 3) := by decide +kernel
theorem dX7_markStretch_12 : decode cX7_markStretch 12 = .ok (.iload_n 2, 1) := by decide +kernel
theorem dX7_markStretch_13 : decode cX7_markStretch 13 = .ok (.invokestatic 72, 3) := by decide +kernel
theorem dX7_markStretch_16 : decode cX7_markStretch 16 = .ok (.ifCond .eq 10, 3) := by decide +kernel
theorem dX7_markStretch_19 : decode cX7_markStretch 19 = .ok (.iload_n 3, 1) := by decide +kernel
theorem dX7_markStretch_20 : decode cX7_markStretch 20 = .ok (.invokestatic 72, 3) := by decide +kernel
theorem dX7_markStretch_23 : decode cX7_markStretch 23 = .ok (.ifCond .ne 5, 3) := by decide +kernel
theorem dX7_markStretch_26 : decode cX7_markStretch 26 = .ok (.iconst (-1), 1) := by decide +kernel
theorem dX7_markStretch_27 : decode cX7_markStretch 27 = .ok (.ireturn, 1) := by decide +kernel
theorem dX7_markStretch_28 : decode cX7_markStretch 28 = .ok (.aload 5, 2) := by decide +kernel
theorem dX7_markStretch_30 : decode cX7_markStretch 30 = .ok (.iload_n 2, 1) := by decide +kernel
theorem dX7_markStretch_31 : decode cX7_markStretch 31 = .ok (.iload_n 3, 1) := by decide +kernel
theorem dX7_markStretch_32 : decode cX7_markStretch 32 = .ok (.iload 4, 2) := by decide +kernel
theorem dX7_markStretch_34 : decode cX7_markStretch 34 = .ok (.ifCond .eq 7, 3) := by decide +kernel
theorem dX7_markStretch_37 : decode cX7_markStretch 37 = .ok (.iconst 1, 1) := by decide +kernel
theorem dX7_markStretch_38 : decode cX7_markStretch 38 = .ok (.goto 4, 3) := by decide +kernel
theorem dX7_markStretch_41 : decode cX7_markStretch 41 = .ok (.iconst 0, 1) := by decide +kernel
theorem dX7_markStretch_42 : decode cX7_markStretch 42 = .ok (.invokevirtual 130, 3) := by decide +kernel
theorem dX7_markStretch_45 : decode cX7_markStretch 45 = .ok (.istore 6, 2) := by decide +kernel
theorem dX7_markStretch_47 : decode cX7_markStretch 47 = .ok (.iload 6, 2) := by decide +kernel
theorem dX7_markStretch_49 : decode cX7_markStretch 49 = .ok (.ifCond .ne 8, 3) := by decide +kernel
theorem dX7_markStretch_52 : decode cX7_markStretch 52 = .ok (.bipush (-2), 2) := by decide +kernel
theorem dX7_markStretch_54 : decode cX7_markStretch 54 = .ok (.goto 5, 3) := by decide +kernel
theorem dX7_markStretch_57 : decode cX7_markStretch 57 = .ok (.iload 6, 2) := by decide +kernel
theorem dX7_markStretch_59 : decode cX7_markStretch 59 = .ok (.ireturn, 1) := by decide +kernel
theorem dX7_seekFrom_0 : decode cX7_seekFrom 0 = .ok (.aload_n 0, 1) := by decide +kernel
theorem dX7_seekFrom_1 : decode cX7_seekFrom 1 = .ok (.iload_n 1, 1) := by decide +kernel
theorem dX7_seekFrom_2 : decode cX7_seekFrom 2 = .ok (.invokevirtual 68, 3) := by decide +kernel
theorem dX7_seekFrom_5 : decode cX7_seekFrom 5 = .ok (.astore_n 3, 1) := by decide +kernel
theorem dX7_seekFrom_6 : decode cX7_seekFrom 6 = .ok (.aload_n 3, 1) := by decide +kernel
theorem dX7_seekFrom_7 : decode cX7_seekFrom 7 = .ok (.ifnull 10, 3) := by decide +kernel
theorem dX7_seekFrom_10 : decode cX7_seekFrom 10 = .ok (.iload_n 2, 1) := by decide +kernel
theorem dX7_seekFrom_11 : decode cX7_seekFrom 11 = .ok (.invokestatic 72, 3) := by decide +kernel
theorem dX7_seekFrom_14 : decode cX7_seekFrom 14 = .ok (.ifCond .ne 5, 3) := by decide +kernel
theorem dX7_seekFrom_17 : decode cX7_seekFrom 17 = .ok (.iconst (-1), 1) := by decide +kernel
theorem dX7_seekFrom_18 : decode cX7_seekFrom 18 = .ok (.ireturn, 1) := by decide +kernel
theorem dX7_seekFrom_19 : decode cX7_seekFrom 19 = .ok (.aload_n 3, 1) := by decide +kernel
theorem dX7_seekFrom_20 : decode cX7_seekFrom 20 = .ok (.getfield 65, 3) := by decide +kernel
theorem dX7_seekFrom_23 : decode cX7_seekFrom 23 = .ok (.ifCond .ne 6, 3) := by decide +kernel
theorem dX7_seekFrom_26 : decode cX7_seekFrom 26 = .ok (.bipush (-2), 2) := by decide +kernel
theorem dX7_seekFrom_28 : decode cX7_seekFrom 28 = .ok (.ireturn, 1) := by decide +kernel
theorem dX7_seekFrom_29 : decode cX7_seekFrom 29 = .ok (.iconst 0, 1) := by decide +kernel
theorem dX7_seekFrom_30 : decode cX7_seekFrom 30 = .ok (.aload_n 3, 1) := by decide +kernel
theorem dX7_seekFrom_31 : decode cX7_seekFrom 31 = .ok (.iload_n 2, 1) := by decide +kernel
theorem dX7_seekFrom_32 : decode cX7_seekFrom 32 = .ok (.invokevirtual 91, 3) := by decide +kernel
theorem dX7_seekFrom_35 : decode cX7_seekFrom 35 = .ok (.iconst 1, 1) := by decide +kernel
theorem dX7_seekFrom_36 : decode cX7_seekFrom 36 = .ok (.isub, 1) := by decide +kernel
theorem dX7_seekFrom_37 : decode cX7_seekFrom 37 = .ok (.invokestatic 134, 3) := by decide +kernel
theorem dX7_seekFrom_40 : decode cX7_seekFrom 40 = .ok (.istore 4, 2) := by decide +kernel
theorem dX7_seekFrom_42 : decode cX7_seekFrom 42 = .ok (.aload_n 3, 1) := by decide +kernel
theorem dX7_seekFrom_43 : decode cX7_seekFrom 43 = .ok (.getfield 139, 3) := by decide +kernel
theorem dX7_seekFrom_46 : decode cX7_seekFrom 46 = .ok (.iconst (-1), 1) := by decide +kernel
theorem dX7_seekFrom_47 : decode cX7_seekFrom 47 = .ok (.if_icmp .ne 7, 3) := by decide +kernel
theorem dX7_seekFrom_50 : decode cX7_seekFrom 50 = .ok (.iconst 0, 1) := by decide +kernel
theorem dX7_seekFrom_51 : decode cX7_seekFrom 51 = .ok (.goto 21, 3) := by decide +kernel
theorem dX7_seekFrom_54 : decode cX7_seekFrom 54 = .ok (.aload_n 0, 1) := by decide +kernel
theorem dX7_seekFrom_55 : decode cX7_seekFrom 55 = .ok (.aload_n 3, 1) := by decide +kernel
theorem dX7_seekFrom_56 : decode cX7_seekFrom 56 = .ok (.invokevirtual 142, 3) := by decide +kernel
theorem dX7_seekFrom_59 : decode cX7_seekFrom 59 = .ok (.aload_n 3, 1) := by decide +kernel
theorem dX7_seekFrom_60 : decode cX7_seekFrom 60 = .ok (.aload_n 3, 1) := by decide +kernel
theorem dX7_seekFrom_61 : decode cX7_seekFrom 61 = .ok (.getfield 139, 3) := by decide +kernel
theorem dX7_seekFrom_64 : decode cX7_seekFrom 64 = .ok (.invokevirtual 76, 3) := by decide +kernel
theorem dX7_seekFrom_67 : decode cX7_seekFrom 67 = .ok (.iload 4, 2) := by decide +kernel
theorem dX7_seekFrom_69 : decode cX7_seekFrom 69 = .ok (.invokevirtual 146, 3) := by decide +kernel
theorem dX7_seekFrom_72 : decode cX7_seekFrom 72 = .ok (.istore 5, 2) := by decide +kernel
theorem dX7_seekFrom_74 : decode cX7_seekFrom 74 = .ok (.aload_n 3, 1) := by decide +kernel
theorem dX7_seekFrom_75 : decode cX7_seekFrom 75 = .ok (.aload_n 3, 1) := by decide +kernel
theorem dX7_seekFrom_76 : decode cX7_seekFrom 76 = .ok (.iload 4, 2) := by decide +kernel
theorem dX7_seekFrom_78 : decode cX7_seekFrom 78 = .ok (.invokevirtual 102, 3) := by decide +kernel
theorem dX7_seekFrom_81 : decode cX7_seekFrom 81 = .ok (.putfield 139, 3) := by decide +kernel
theorem dX7_seekFrom_84 : decode cX7_seekFrom 84 = .ok (.iload 5, 2) := by decide +kernel
theorem dX7_seekFrom_86 : decode cX7_seekFrom 86 = .ok (.ireturn, 1) := by decide +kernel
theorem dX7_notEmpty_0 : decode cX7_notEmpty 0 = .ok (.iconst 0, 1) := by decide +kernel
theorem dX7_notEmpty_1 : decode cX7_notEmpty 1 = .ok (.istore_n 1, 1) := by decide +kernel
theorem dX7_notEmpty_2 : decode cX7_notEmpty 2 = .ok (.iconst 0, 1) := by decide +kernel
theorem dX7_notEmpty_3 : decode cX7_notEmpty 3 = .ok (.istore_n 2, 1) := by decide +kernel
theorem dX7_notEmpty_4 : decode cX7_notEmpty 4 = .ok (.iload_n 2, 1) := by decide +kernel
theorem dX7_notEmpty_5 : decode cX7_notEmpty 5 = .ok (.bipush 8, 2) := by decide +kernel
theorem dX7_notEmpty_7 : decode cX7_notEmpty 7 = .ok (.if_icmp .ge 29, 3) := by decide +kernel
theorem dX7_notEmpty_10 : decode cX7_notEmpty 10 = .ok (.iload_n 1, 1) := by decide +kernel
theorem dX7_notEmpty_11 : decode cX7_notEmpty 11 = .ok (.aload_n 0, 1) := by decide +kernel
theorem dX7_notEmpty_12 : decode cX7_notEmpty 12 = .ok (.getfield 11, 3) := by decide +kernel
theorem dX7_notEmpty_15 : decode cX7_notEmpty 15 = .ok (.iload_n 2, 1) := by decide +kernel
theorem dX7_notEmpty_16 : decode cX7_notEmpty 16 = .ok (.aaload, 1) := by decide +kernel
theorem dX7_notEmpty_17 : decode cX7_notEmpty 17 = .ok (.getfield 65, 3) := by decide +kernel
theorem dX7_notEmpty_20 : decode cX7_notEmpty 20 = .ok (.ifCond .le 7, 3) := by decide +kernel
theorem dX7_notEmpty_23 : decode cX7_notEmpty 23 = .ok (.iconst 1, 1) := by decide +kernel
theorem dX7_notEmpty_24 : decode cX7_notEmpty 24 = .ok (.goto 4, 3) := by decide +kernel
theorem dX7_notEmpty_27 : decode cX7_notEmpty 27 = .ok (.iconst 0, 1) := by decide +kernel
theorem dX7_notEmpty_28 : decode cX7_notEmpty 28 = .ok (.iadd, 1) := by decide +kernel
theorem dX7_notEmpty_29 : decode cX7_notEmpty 29 = .ok (.istore_n 1, 1) := by decide +kernel
theorem dX7_notEmpty_30 : decode cX7_notEmpty 30 = .ok (.iinc 2 1, 3) := by decide +kernel
theorem dX7_notEmpty_33 : decode cX7_notEmpty 33 = .ok (.goto (-29), 3) := by decide +kernel
theorem dX7_notEmpty_36 : decode cX7_notEmpty 36 = .ok (.iload_n 1, 1) := by decide +kernel
theorem dX7_notEmpty_37 : decode cX7_notEmpty 37 = .ok (.ireturn, 1) := by decide +kernel
theorem dX7_allMarked_0 : decode cX7_allMarked 0 = .ok (.iconst 0, 1) := by decide +kernel
theorem dX7_allMarked_1 : decode cX7_allMarked 1 = .ok (.istore_n 1, 1) := by decide +kernel
theorem dX7_allMarked_2 : decode cX7_allMarked 2 = .ok (.iconst 0, 1) := by decide +kernel
theorem dX7_allMarked_3 : decode cX7_allMarked 3 = .ok (.istore_n 2, 1) := by decide +kernel
theorem dX7_allMarked_4 : decode cX7_allMarked 4 = .ok (.iload_n 2, 1) := by decide +kernel
theorem dX7_allMarked_5 : decode cX7_allMarked 5 = .ok (.bipush 8, 2) := by decide +kernel
theorem dX7_allMarked_7 : decode cX7_allMarked 7 = .ok (.if_icmp .ge 25, 3) := by decide +kernel
theorem dX7_allMarked_10 : decode cX7_allMarked 10 = .ok (.iload_n 1, 1) := by decide +kernel
theorem dX7_allMarked_11 : decode cX7_allMarked 11 = .ok (.aload_n 0, 1) := by decide +kernel
theorem dX7_allMarked_12 : decode cX7_allMarked 12 = .ok (.getfield 11, 3) := by decide +kernel
theorem dX7_allMarked_15 : decode cX7_allMarked 15 = .ok (.iload_n 2, 1) := by decide +kernel
theorem dX7_allMarked_16 : decode cX7_allMarked 16 = .ok (.aaload, 1) := by decide +kernel
theorem dX7_allMarked_17 : decode cX7_allMarked 17 = .ok (.iconst 0, 1) := by decide +kernel
theorem dX7_allMarked_18 : decode cX7_allMarked 18 = .ok (.sipush 9999, 3) := by decide +kernel
theorem dX7_allMarked_21 : decode cX7_allMarked 21 = .ok (.invokevirtual 149, 3) := by decide +kernel
theorem dX7_allMarked_24 : decode cX7_allMarked 24 = .ok (.iadd, 1) := by decide +kernel
theorem dX7_allMarked_25 : decode cX7_allMarked 25 = .ok (.istore_n 1, 1) := by decide +kernel
theorem dX7_allMarked_26 : decode cX7_allMarked 26 = .ok (.iinc 2 1, 3) := by decide +kernel
theorem dX7_allMarked_29 : decode cX7_allMarked 29 = .ok (.goto (-25), 3) := by decide +kernel
theorem dX7_allMarked_32 : decode cX7_allMarked 32 = .ok (.iload_n 1, 1) := by decide +kernel
theorem dX7_allMarked_33 : decode cX7_allMarked 33 = .ok (.ireturn, 1) := by decide +kernel
theorem dX7_unlike_0 : decode cX7_unlike 0 = .ok (.aload_n 0, 1) := by decide +kernel
theorem dX7_unlike_1 : decode cX7_unlike 1 = .ok (.invokevirtual 80, 3) := by decide +kernel
theorem dX7_unlike_4 : decode cX7_unlike 4 = .ok (.istore_n 1, 1) := by decide +kernel
theorem dX7_unlike_5 : decode cX7_unlike 5 = .ok (.iconst 0, 1) := by decide +kernel
theorem dX7_unlike_6 : decode cX7_unlike 6 = .ok (.istore_n 2, 1) := by decide +kernel
theorem dX7_unlike_7 : decode cX7_unlike 7 = .ok (.iconst (-1), 1) := by decide +kernel
theorem dX7_unlike_8 : decode cX7_unlike 8 = .ok (.istore_n 3, 1) := by decide +kernel
theorem dX7_unlike_9 : decode cX7_unlike 9 = .ok (.aload_n 0, 1) := by decide +kernel
theorem dX7_unlike_10 : decode cX7_unlike 10 = .ok (.getfield 51, 3) := by decide +kernel
theorem dX7_unlike_13 : decode cX7_unlike 13 = .ok (.invokevirtual 152, 3) := by decide +kernel
theorem dX7_unlike_16 : decode cX7_unlike 16 = .ok (.iconst 0, 1) := by decide +kernel
theorem dX7_unlike_17 : decode cX7_unlike 17 = .ok (.istore 4, 2) := by decide +kernel
theorem dX7_unlike_19 : decode cX7_unlike 19 = .ok (.iload 4, 2) := by decide +kernel
theorem dX7_unlike_21 : decode cX7_unlike 21 = .ok (.iload_n 1, 1) := by decide +kernel
theorem dX7_unlike_22 : decode cX7_unlike 22 = .ok (.if_icmp .ge 35, 3) := by decide +kernel
theorem dX7_unlike_25 : decode cX7_unlike 25 = .ok (.aload_n 0, 1) := by decide +kernel
theorem dX7_unlike_26 : decode cX7_unlike 26 = .ok (.getfield 51, 3) := by decide +kernel
theorem dX7_unlike_29 : decode cX7_unlike 29 = .ok (.invokevirtual 155, 3) := by decide +kernel
theorem dX7_unlike_32 : decode cX7_unlike 32 = .ok (.istore 5, 2) := by decide +kernel
theorem dX7_unlike_34 : decode cX7_unlike 34 = .ok (.iload_n 2, 1) := by decide +kernel
theorem dX7_unlike_35 : decode cX7_unlike 35 = .ok (.iload 5, 2) := by decide +kernel
theorem dX7_unlike_37 : decode cX7_unlike 37 = .ok (.iload_n 3, 1) := by decide +kernel
theorem dX7_unlike_38 : decode cX7_unlike 38 = .ok (.if_icmp .eq 7, 3) := by decide +kernel
theorem dX7_unlike_41 : decode cX7_unlike 41 = .ok (.iconst 1, 1) := by decide +kernel
theorem dX7_unlike_42 : decode cX7_unlike 42 = .ok (.goto 4, 3) := by decide +kernel
theorem dX7_unlike_45 : decode cX7_unlike 45 = .ok (.iconst 0, 1) := by decide +kernel
theorem dX7_unlike_46 : decode cX7_unlike 46 = .ok (.iadd, 1) := by decide +kernel
theorem dX7_unlike_47 : decode cX7_unlike 47 = .ok (.istore_n 2, 1) := by decide +kernel
theorem dX7_unlike_48 : decode cX7_unlike 48 = .ok (.iload 5, 2) := by decide +kernel
theorem dX7_unlike_50 : decode cX7_unlike 50 = .ok (.istore_n 3, 1) := by decide +kernel
theorem dX7_unlike_51 : decode cX7_unlike 51 = .ok (.iinc 4 1, 3) := by decide +kernel
theorem dX7_unlike_54 : decode cX7_unlike 54 = .ok (.goto (-35), 3) := by decide +kernel
theorem dX7_unlike_57 : decode cX7_unlike 57 = .ok (.iload_n 2, 1) := by decide +kernel
theorem dX7_unlike_58 : decode cX7_unlike 58 = .ok (.ireturn, 1) := by decide +kernel
theorem dX7_huffman_0 : decode cX7_huffman 0 = .ok (.iconst 0, 1) := by decide +kernel
theorem dX7_huffman_1 : decode cX7_huffman 1 = .ok (.istore_n 1, 1) := by decide +kernel
theorem dX7_huffman_2 : decode cX7_huffman 2 = .ok (.iload_n 1, 1) := by decide +kernel
theorem dX7_huffman_3 : decode cX7_huffman 3 = .ok (.bipush 8, 2) := by decide +kernel
theorem dX7_huffman_5 : decode cX7_huffman 5 = .ok (.if_icmp .ge 24, 3) := by decide +kernel
theorem dX7_huffman_8 : decode cX7_huffman 8 = .ok (.aload_n 0, 1) := by decide +kernel
theorem dX7_huffman_9 : decode cX7_huffman 9 = .ok (.getfield 31, 3) := by decide +kernel
theorem dX7_huffman_12 : decode cX7_huffman 12 = .ok (.iload_n 1, 1) := by decide +kernel
theorem dX7_huffman_13 : decode cX7_huffman 13 = .ok (.aload_n 0, 1) := by decide +kernel
theorem dX7_huffman_14 : decode cX7_huffman 14 = .ok (.getfield 11, 3) := by decide +kernel
theorem dX7_huffman_17 : decode cX7_huffman 17 = .ok (.iload_n 1, 1) := by decide +kernel
theorem dX7_huffman_18 : decode cX7_huffman 18 = .ok (.aaload, 1) := by decide +kernel
theorem dX7_huffman_19 : decode cX7_huffman 19 = .ok (.getfield 65, 3) := by decide +kernel
theorem dX7_huffman_22 : decode cX7_huffman 22 = .ok (.iastore, 1) := by decide +kernel
theorem dX7_huffman_23 : decode cX7_huffman 23 = .ok (.iinc 1 1, 3) := by decide +kernel
theorem dX7_huffman_26 : decode cX7_huffman 26 = .ok (.goto (-24), 3) := by decide +kernel
theorem dX7_huffman_29 : decode cX7_huffman 29 = .ok (.iconst 0, 1) := by decide +kernel
theorem dX7_huffman_30 : decode cX7_huffman 30 = .ok (.istore_n 1, 1) := by decide +kernel
theorem dX7_huffman_31 : decode cX7_huffman 31 = .ok (.aload_n 0, 1) := by decide +kernel
theorem dX7_huffman_32 : decode cX7_huffman 32 = .ok (.invokevirtual 158, 3) := by decide +kernel
theorem dX7_huffman_35 : decode cX7_huffman 35 = .ok (.istore_n 2, 1) := by decide +kernel
theorem dX7_huffman_36 : decode cX7_huffman 36 = .ok (.iload_n 2, 1) := by decide +kernel
theorem dX7_huffman_37 : decode cX7_huffman 37 = .ok (.iconst 1, 1) := by decide +kernel
theorem dX7_huffman_38 : decode cX7_huffman 38 = .ok (.if_icmp .le 82, 3) := by decide +kernel
theorem dX7_huffman_41 : decode cX7_huffman 41 = .ok (.aload_n 0, 1) := by decide +kernel
theorem dX7_huffman_42 : decode cX7_huffman 42 = .ok (.iconst (-1), 1) := by decide +kernel
theorem dX7_huffman_43 : decode cX7_huffman 43 = .ok (.invokevirtual 161, 3) := by decide +kernel
theorem dX7_huffman_46 : decode cX7_huffman 46 = .ok (.istore_n 3, 1) := by decide +kernel
theorem dX7_huffman_47 : decode cX7_huffman 47 = .ok (.aload_n 0, 1) := by decide +kernel
theorem dX7_huffman_48 : decode cX7_huffman 48 = .ok (.iload_n 3, 1) := by decide +kernel
theorem dX7_huffman_49 : decode cX7_huffman 49 = .ok (.invokevirtual 161, 3) := by decide +kernel
theorem dX7_huffman_52 : decode cX7_huffman 52 = .ok (.istore 4, 2) := by decide +kernel
theorem dX7_huffman_54 : decode cX7_huffman 54 = .ok (.iload_n 3, 1) := by decide +kernel
theorem dX7_huffman_55 : decode cX7_huffman 55 = .ok (.iconst (-1), 1) := by decide +kernel
theorem dX7_huffman_56 : decode cX7_huffman 56 = .ok (.if_icmp .eq 64, 3) := by decide +kernel
theorem dX7_huffman_59 : decode cX7_huffman 59 = .ok (.iload 4, 2) := by decide +kernel
theorem dX7_huffman_61 : decode cX7_huffman 61 = .ok (.iconst (-1), 1) := by decide +kernel
theorem dX7_huffman_62 : decode cX7_huffman 62 = .ok (.if_icmp .ne 6, 3) := by decide +kernel
theorem dX7_huffman_65 : decode cX7_huffman 65 = .ok (.goto 55, 3) := by decide +kernel
theorem dX7_huffman_68 : decode cX7_huffman 68 = .ok (.aload_n 0, 1) := by decide +kernel
theorem dX7_huffman_69 : decode cX7_huffman 69 = .ok (.getfield 31, 3) := by decide +kernel
theorem dX7_huffman_72 : decode cX7_huffman 72 = .ok (.iload_n 3, 1) := by decide +kernel
theorem dX7_huffman_73 : decode cX7_huffman 73 = .ok (.iaload, 1) := by decide +kernel
theorem dX7_huffman_74 : decode cX7_huffman 74 = .ok (.aload_n 0, 1) := by decide +kernel
theorem dX7_huffman_75 : decode cX7_huffman 75 = .ok (.getfield 31, 3) := by decide +kernel
theorem dX7_huffman_78 : decode cX7_huffman 78 = .ok (.iload 4, 2) := by decide +kernel
theorem dX7_huffman_80 : decode cX7_huffman 80 = .ok (.iaload, 1) := by decide +kernel
theorem dX7_huffman_81 : decode cX7_huffman 81 = .ok (.iadd, 1) := by decide +kernel
theorem dX7_huffman_82 : decode cX7_huffman 82 = .ok (.istore 5, 2) := by decide +kernel
theorem dX7_huffman_84 : decode cX7_huffman 84 = .ok (.aload_n 0, 1) := by decide +kernel
theorem dX7_huffman_85 : decode cX7_huffman 85 = .ok (.getfield 31, 3) := by decide +kernel
theorem dX7_huffman_88 : decode cX7_huffman 88 = .ok (.iload_n 3, 1) := by decide +kernel
theorem dX7_huffman_89 : decode cX7_huffman 89 = .ok (.iload 4, 2) := by decide +kernel
theorem dX7_huffman_91 : decode cX7_huffman 91 = .ok (.invokestatic 134, 3) := by decide +kernel
theorem dX7_huffman_94 : decode cX7_huffman 94 = .ok (.iconst 0, 1) := by decide +kernel
theorem dX7_huffman_95 : decode cX7_huffman 95 = .ok (.iastore, 1) := by decide +kernel
theorem dX7_huffman_96 : decode cX7_huffman 96 = .ok (.aload_n 0, 1) := by decide +kernel
theorem dX7_huffman_97 : decode cX7_huffman 97 = .ok (.getfield 31, 3) := by decide +kernel
theorem dX7_huffman_100 : decode cX7_huffman 100 = .ok (.iload_n 3, 1) := by decide +kernel
theorem dX7_huffman_101 : decode cX7_huffman 101 = .ok (.iload 4, 2) := by decide +kernel
theorem dX7_huffman_103 : decode cX7_huffman 103 = .ok (.invokestatic 164, 3) := by decide +kernel
theorem dX7_huffman_106 : decode cX7_huffman 106 = .ok (.iload 5, 2) := by decide +kernel
theorem dX7_huffman_108 : decode cX7_huffman 108 = .ok (.iastore, 1) := by decide +kernel
theorem dX7_huffman_109 : decode cX7_huffman 109 = .ok (.iload_n 1, 1) := by decide +kernel
theorem dX7_huffman_110 : decode cX7_huffman 110 = .ok (.iload 5, 2) := by decide +kernel
theorem dX7_huffman_112 : decode cX7_huffman 112 = .ok (.iadd, 1) := by decide +kernel
theorem dX7_huffman_113 : decode cX7_huffman 113 = .ok (.istore_n 1, 1) := by decide +kernel
theorem dX7_huffman_114 : decode cX7_huffman 114 = .ok (.iinc 2 (-1), 3) := by decide +kernel
theorem dX7_huffman_117 : decode cX7_huffman 117 = .ok (.goto (-81), 3) := by decide +kernel
theorem dX7_huffman_120 : decode cX7_huffman 120 = .ok (.iload_n 1, 1) := by decide +kernel
theorem dX7_huffman_121 : decode cX7_huffman 121 = .ok (.ireturn, 1) := by decide +kernel
theorem dX7_lightest_0 : decode cX7_lightest 0 = .ok (.iconst (-1), 1) := by decide +kernel
theorem dX7_lightest_1 : decode cX7_lightest 1 = .ok (.istore_n 2, 1) := by decide +kernel
theorem dX7_lightest_2 : decode cX7_lightest 2 = .ok (.iconst 0, 1) := by decide +kernel
theorem dX7_lightest_3 : decode cX7_lightest 3 = .ok (.istore_n 3, 1) := by decide +kernel
theorem dX7_lightest_4 : decode cX7_lightest 4 = .ok (.iload_n 3, 1) := by decide +kernel
theorem dX7_lightest_5 : decode cX7_lightest 5 = .ok (.bipush 8, 2) := by decide +kernel
theorem dX7_lightest_7 : decode cX7_lightest 7 = .ok (.if_icmp .ge 45, 3) := by decide +kernel
theorem dX7_lightest_10 : decode cX7_lightest 10 = .ok (.iload_n 3, 1) := by decide +kernel
theorem dX7_lightest_11 : decode cX7_lightest 11 = .ok (.iload_n 1, 1) := by decide +kernel
theorem dX7_lightest_12 : decode cX7_lightest 12 = .ok (.if_icmp .eq 34, 3) := by decide +kernel
theorem dX7_lightest_15 : decode cX7_lightest 15 = .ok (.aload_n 0, 1) := by decide +kernel
theorem dX7_lightest_16 : decode cX7_lightest 16 = .ok (.getfield 31, 3) := by decide +kernel
theorem dX7_lightest_19 : decode cX7_lightest 19 = .ok (.iload_n 3, 1) := by decide +kernel
theorem dX7_lightest_20 : decode cX7_lightest 20 = .ok (.iaload, 1) := by decide +kernel
theorem dX7_lightest_21 : decode cX7_lightest 21 = .ok (.ifCond .le 25, 3) := by decide +kernel
theorem dX7_lightest_24 : decode cX7_lightest 24 = .ok (.iload_n 2, 1) := by decide +kernel
theorem dX7_lightest_25 : decode cX7_lightest 25 = .ok (.iconst (-1), 1) := by decide +kernel
theorem dX7_lightest_26 : decode cX7_lightest 26 = .ok (.if_icmp .eq 18, 3) := by decide +kernel
theorem dX7_lightest_29 : decode cX7_lightest 29 = .ok (.aload_n 0, 1) := by decide +kernel
theorem dX7_lightest_30 : decode cX7_lightest 30 = .ok (.getfield 31, 3) := by decide +kernel
theorem dX7_lightest_33 : decode cX7_lightest 33 = .ok (.iload_n 3, 1) := by decide +kernel
theorem dX7_lightest_34 : decode cX7_lightest 34 = .ok (.iaload, 1) := by decide +kernel
theorem dX7_lightest_35 : decode cX7_lightest 35 = .ok (.aload_n 0, 1) := by decide +kernel
theorem dX7_lightest_36 : decode cX7_lightest 36 = .ok (.getfield 31, 3) := by decide +kernel
theorem dX7_lightest_39 : decode cX7_lightest 39 = .ok (.iload_n 2, 1) := by decide +kernel
theorem dX7_lightest_40 : decode cX7_lightest 40 = .ok (.iaload, 1) := by decide +kernel
theorem dX7_lightest_41 : decode cX7_lightest 41 = .ok (.if_icmp .ge 5, 3) := by decide +kernel
theorem dX7_lightest_44 : decode cX7_lightest 44 = .ok (.iload_n 3, 1) := by decide +kernel
theorem dX7_lightest_45 : decode cX7_lightest 45 = .ok (.istore_n 2, 1) := by decide +kernel
theorem dX7_lightest_46 : decode cX7_lightest 46 = .ok (.iinc 3 1, 3) := by decide +kernel
theorem dX7_lightest_49 : decode cX7_lightest 49 = .ok (.goto (-45), 3) := by decide +kernel
theorem dX7_lightest_52 : decode cX7_lightest 52 = .ok (.iload_n 2, 1) := by decide +kernel
theorem dX7_lightest_53 : decode cX7_lightest 53 = .ok (.ireturn, 1) := by decide +kernel
theorem dX7_findCheapest_0 : decode cX7_findCheapest 0 = .ok (.aload_n 0, 1) := by decide +kernel
theorem dX7_findCheapest_1 : decode cX7_findCheapest 1 = .ok (.iconst (-1), 1) := by decide +kernel
theorem dX7_findCheapest_2 : decode cX7_findCheapest 2 = .ok (.putfield 35, 3) := by decide +kernel
theorem dX7_findCheapest_5 : decode cX7_findCheapest 5 = .ok (.aload_n 0, 1) := by decide +kernel
theorem dX7_findCheapest_6 : decode cX7_findCheapest 6 = .ok (.iconst (-1), 1) := by decide +kernel
theorem dX7_findCheapest_7 : decode cX7_findCheapest 7 = .ok (.putfield 39, 3) := by decide +kernel
theorem dX7_findCheapest_10 : decode cX7_findCheapest 10 = .ok (.aload_n 0, 1) := by decide +kernel
theorem dX7_findCheapest_11 : decode cX7_findCheapest 11 = .ok (.iconst (-1), 1) := by decide +kernel
theorem dX7_findCheapest_12 : decode cX7_findCheapest 12 = .ok (.putfield 42, 3) := by decide +kernel
theorem dX7_findCheapest_15 : decode cX7_findCheapest 15 = .ok (.iconst 0, 1) := by decide +kernel
theorem dX7_findCheapest_16 : decode cX7_findCheapest 16 = .ok (.istore_n 1, 1) := by decide +kernel
theorem dX7_findCheapest_17 : decode cX7_findCheapest 17 = .ok (.iload_n 1, 1) := by decide +kernel
theorem dX7_findCheapest_18 : decode cX7_findCheapest 18 = .ok (.bipush 8, 2) := by decide +kernel
theorem dX7_findCheapest_20 : decode cX7_findCheapest 20 = .ok (.if_icmp .ge 74, 3) := by decide +kernel
theorem dX7_findCheapest_23 : decode cX7_findCheapest 23 = .ok (.iload_n 1, 1) := by decide +kernel
theorem dX7_findCheapest_24 : decode cX7_findCheapest 24 = .ok (.iconst 1, 1) := by decide +kernel
theorem dX7_findCheapest_25 : decode cX7_findCheapest 25 = .ok (.iadd, 1) := by decide +kernel
theorem dX7_findCheapest_26 : decode cX7_findCheapest 26 = .ok (.istore_n 2, 1) := by decide +kernel
theorem dX7_findCheapest_27 : decode cX7_findCheapest 27 = .ok (.iload_n 2, 1) := by decide +kernel
theorem dX7_findCheapest_28 : decode cX7_findCheapest 28 = .ok (.bipush 8, 2) := by decide +kernel
theorem dX7_findCheapest_30 : decode cX7_findCheapest 30 = .ok (.if_icmp .ge 58, 3) := by decide +kernel
theorem dX7_findCheapest_33 : decode cX7_findCheapest 33 = .ok (.aload_n 0, 1) := by decide +kernel
theorem dX7_findCheapest_34 : decode cX7_findCheapest 34 = .ok (.getfield 11, 3) := by decide +kernel
theorem dX7_findCheapest_37 : decode cX7_findCheapest 37 = .ok (.iload_n 1, 1) := by decide +kernel
theorem dX7_findCheapest_38 : decode cX7_findCheapest 38 = .ok (.aaload, 1) := by decide +kernel
theorem dX7_findCheapest_39 : decode cX7_findCheapest 39 = .ok (.getfield 65, 3) := by decide +kernel
theorem dX7_findCheapest_42 : decode cX7_findCheapest 42 = .ok (.ifCond .le 40, 3) := by decide +kernel
theorem dX7_findCheapest_45 : decode cX7_findCheapest 45 = .ok (.aload_n 0, 1) := by decide +kernel
theorem dX7_findCheapest_46 : decode cX7_findCheapest 46 = .ok (.getfield 11, 3) := by decide +kernel
theorem dX7_findCheapest_49 : decode cX7_findCheapest 49 = .ok (.iload_n 2, 1) := by decide +kernel
theorem dX7_findCheapest_50 : decode cX7_findCheapest 50 = .ok (.aaload, 1) := by decide +kernel
theorem dX7_findCheapest_51 : decode cX7_findCheapest 51 = .ok (.getfield 65, 3) := by decide +kernel
theorem dX7_findCheapest_54 : decode cX7_findCheapest 54 = .ok (.ifCond .le 28, 3) := by decide +kernel
theorem dX7_findCheapest_57 : decode cX7_findCheapest 57 = .ok (.aload_n 0, 1) := by decide +kernel
theorem dX7_findCheapest_58 : decode cX7_findCheapest 58 = .ok (.getfield 27, 3) := by decide +kernel
theorem dX7_findCheapest_61 : decode cX7_findCheapest 61 = .ok (.aload_n 0, 1) := by decide +kernel
theorem dX7_findCheapest_62 : decode cX7_findCheapest 62 = .ok (.getfield 11, 3) := by decide +kernel
theorem dX7_findCheapest_65 : decode cX7_findCheapest 65 = .ok (.iload_n 1, 1) := by decide +kernel
theorem dX7_findCheapest_66 : decode cX7_findCheapest 66 = .ok (.aaload, 1) := by decide +kernel
theorem dX7_findCheapest_67 : decode cX7_findCheapest 67 = .ok (.aload_n 0, 1) := by decide +kernel
theorem dX7_findCheapest_68 : decode cX7_findCheapest 68 = .ok (.getfield 11, 3) := by decide +kernel
theorem dX7_findCheapest_71 : decode cX7_findCheapest 71 = .ok (.iload_n 2, 1) := by decide +kernel
theorem dX7_findCheapest_72 : decode cX7_findCheapest 72 = .ok (.aaload, 1) := by decide +kernel
theorem dX7_findCheapest_73 : decode cX7_findCheapest 73 = .ok (.invokevirtual 62, 3) := by decide +kernel
theorem dX7_findCheapest_76 : decode cX7_findCheapest 76 = .ok (.aload_n 0, 1) := by decide +kernel
theorem dX7_findCheapest_77 : decode cX7_findCheapest 77 = .ok (.iload_n 1, 1) := by decide +kernel
theorem dX7_findCheapest_78 : decode cX7_findCheapest 78 = .ok (.iload_n 2, 1) := by decide +kernel
theorem dX7_findCheapest_79 : decode cX7_findCheapest 79 = .ok (.invokevirtual 167, 3) := by decide +kernel
theorem dX7_findCheapest_82 : decode cX7_findCheapest 82 = .ok (.iinc 2 1, 3) := by decide +kernel
theorem dX7_findCheapest_85 : decode cX7_findCheapest 85 = .ok (.goto (-58), 3) := by decide +kernel
theorem dX7_findCheapest_88 : decode cX7_findCheapest 88 = .ok (.iinc 1 1, 3) := by decide +kernel
theorem dX7_findCheapest_91 : decode cX7_findCheapest 91 = .ok (.goto (-74), 3) := by decide +kernel
theorem dX7_findCheapest_94 : decode cX7_findCheapest 94 = .ok (.return_, 1) := by decide +kernel
theorem dX7_takeIfCheaper_0 : decode cX7_takeIfCheaper 0 = .ok (.aload_n 0, 1) := by decide +kernel
theorem dX7_takeIfCheaper_1 : decode cX7_takeIfCheaper 1 = .ok (.getfield 42, 3) := by decide +kernel
theorem dX7_takeIfCheaper_4 : decode cX7_takeIfCheaper 4 = .ok (.iconst (-1), 1) := by decide +kernel
theorem dX7_takeIfCheaper_5 : decode cX7_takeIfCheaper 5 = .ok (.if_icmp .eq 17, 3) := by decide +kernel
theorem dX7_takeIfCheaper_8 : decode cX7_takeIfCheaper 8 = .ok (.aload_n 0, 1) := by decide +kernel
theorem dX7_takeIfCheaper_9 : decode cX7_takeIfCheaper 9 = .ok (.getfield 27, 3) := by decide +kernel
theorem dX7_takeIfCheaper_12 : decode cX7_takeIfCheaper 12 = .ok (.getfield 116, 3) := by decide +kernel
theorem dX7_takeIfCheaper_15 : decode cX7_takeIfCheaper 15 = .ok (.aload_n 0, 1) := by decide +kernel
theorem dX7_takeIfCheaper_16 : decode cX7_takeIfCheaper 16 = .ok (.getfield 42, 3) := by decide +kernel
theorem dX7_takeIfCheaper_19 : decode cX7_takeIfCheaper 19 = .ok (.if_icmp .ge 7, 3) := by decide +kernel
theorem dX7_takeIfCheaper_22 : decode cX7_takeIfCheaper 22 = .ok (.iconst 1, 1) := by decide +kernel
theorem dX7_takeIfCheaper_23 : decode cX7_takeIfCheaper 23 = .ok (.goto 4, 3) := by decide +kernel
theorem dX7_takeIfCheaper_26 : decode cX7_takeIfCheaper 26 = .ok (.iconst 0, 1) := by decide +kernel
theorem dX7_takeIfCheaper_27 : decode cX7_takeIfCheaper 27 = .ok (.istore_n 3, 1) := by decide +kernel
theorem dX7_takeIfCheaper_28 : decode cX7_takeIfCheaper 28 = .ok (.iload_n 3, 1) := by decide +kernel
theorem dX7_takeIfCheaper_29 : decode cX7_takeIfCheaper 29 = .ok (.ifCond .eq 41, 3) := by decide +kernel
theorem dX7_takeIfCheaper_32 : decode cX7_takeIfCheaper 32 = .ok (.aload_n 0, 1) := by decide +kernel
theorem dX7_takeIfCheaper_33 : decode cX7_takeIfCheaper 33 = .ok (.aload_n 0, 1) := by decide +kernel
theorem dX7_takeIfCheaper_34 : decode cX7_takeIfCheaper 34 = .ok (.getfield 11, 3) := by decide +kernel
theorem dX7_takeIfCheaper_37 : decode cX7_takeIfCheaper 37 = .ok (.iload_n 2, 1) := by decide +kernel
theorem dX7_takeIfCheaper_38 : decode cX7_takeIfCheaper 38 = .ok (.aaload, 1) := by decide +kernel
theorem dX7_takeIfCheaper_39 : decode cX7_takeIfCheaper 39 = .ok (.aload_n 0, 1) := by decide +kernel
theorem dX7_takeIfCheaper_40 : decode cX7_takeIfCheaper 40 = .ok (.getfield 27, 3) := by decide +kernel
theorem dX7_takeIfCheaper_43 : decode cX7_takeIfCheaper 43 = .ok (.invokevirtual 105, 3) := by decide +kernel
theorem dX7_takeIfCheaper_46 : decode cX7_takeIfCheaper 46 = .ok (.ifCond .ne 24, 3) := by decide +kernel
theorem dX7_takeIfCheaper_49 : decode cX7_takeIfCheaper 49 = .ok (.aload_n 0, 1) := by decide +kernel
theorem dX7_takeIfCheaper_50 : decode cX7_takeIfCheaper 50 = .ok (.iload_n 1, 1) := by decide +kernel
theorem dX7_takeIfCheaper_51 : decode cX7_takeIfCheaper 51 = .ok (.putfield 35, 3) := by decide +kernel
theorem dX7_takeIfCheaper_54 : decode cX7_takeIfCheaper 54 = .ok (.aload_n 0, 1) := by decide +kernel
theorem dX7_takeIfCheaper_55 : decode cX7_takeIfCheaper 55 = .ok (.iload_n 2, 1) := by decide +kernel
theorem dX7_takeIfCheaper_56 : decode cX7_takeIfCheaper 56 = .ok (.putfield 39, 3) := by decide +kernel
theorem dX7_takeIfCheaper_59 : decode cX7_takeIfCheaper 59 = .ok (.aload_n 0, 1) := by decide +kernel
theorem dX7_takeIfCheaper_60 : decode cX7_takeIfCheaper 60 = .ok (.aload_n 0, 1) := by decide +kernel
theorem dX7_takeIfCheaper_61 : decode cX7_takeIfCheaper 61 = .ok (.getfield 27, 3) := by decide +kernel
theorem dX7_takeIfCheaper_64 : decode cX7_takeIfCheaper 64 = .ok (.getfield 116, 3) := by decide +kernel
theorem dX7_takeIfCheaper_67 : decode cX7_takeIfCheaper 67 = .ok (.putfield 42, 3) := by decide +kernel
theorem dX7_takeIfCheaper_70 : decode cX7_takeIfCheaper 70 = .ok (.return_, 1) := by decide +kernel
theorem dX8_init_0 : decode cX8_init 0 = .ok (.aload_n 0, 1) := by decide +kernel
theorem dX8_init_1 : decode cX8_init 1 = .ok (.invokespecial 3, 3) := by decide +kernel
theorem dX8_init_4 : decode cX8_init 4 = .ok (.aload_n 0, 1) := by decide +kernel
theorem dX8_init_5 : decode cX8_init 5 = .ok (.bipush 61, 2) := by decide +kernel
theorem dX8_init_7 : decode cX8_init 7 = .ok (.newarray .int, 2) := by decide +kernel
theorem dX8_init_9 : decode cX8_init 9 = .ok (.putfield 11, 3) := by decide +kernel
theorem dX8_init_12 : decode cX8_init 12 = .ok (.aload_n 0, 1) := by decide +kernel
theorem dX8_init_13 : decode cX8_init 13 = .ok (.bipush 61, 2) := by decide +kernel
theorem dX8_init_15 : decode cX8_init 15 = .ok (.newarray .int, 2) := by decide +kernel
theorem dX8_init_17 : decode cX8_init 17 = .ok (.putfield 15, 3) := by decide +kernel
theorem dX8_init_20 : decode cX8_init 20 = .ok (.aload_n 0, 1) := by decide +kernel
theorem dX8_init_21 : decode cX8_init 21 = .ok (.bipush 61, 2) := by decide +kernel
theorem dX8_init_23 : decode cX8_init 23 = .ok (.newarray .int, 2) := by decide +kernel
theorem dX8_init_25 : decode cX8_init 25 = .ok (.putfield 18, 3) := by decide +kernel
theorem dX8_init_28 : decode cX8_init 28 = .ok (.aload_n 0, 1) := by decide +kernel
theorem dX8_init_29 : decode cX8_init 29 = .ok (.bipush 61, 2) := by decide +kernel
theorem dX8_init_31 : decode cX8_init 31 = .ok (.newarray .int, 2) := by decide +kernel
theorem dX8_init_33 : decode cX8_init 33 = .ok (.putfield 21, 3) := by decide +kernel
theorem dX8_init_36 : decode cX8_init 36 = .ok (.aload_n 0, 1) := by decide +kernel
theorem dX8_init_37 : decode cX8_init 37 = .ok (.bipush 61, 2) := by decide +kernel
theorem dX8_init_39 : decode cX8_init 39 = .ok (.newarray .int, 2) := by decide +kernel
theorem dX8_init_41 : decode cX8_init 41 = .ok (.putfield 24, 3) := by decide +kernel
theorem dX8_init_44 : decode cX8_init 44 = .ok (.aload_n 0, 1) := by decide +kernel
theorem dX8_init_45 : decode cX8_init 45 = .ok (.bipush 61, 2) := by decide +kernel
theorem dX8_init_47 : decode cX8_init 47 = .ok (.newarray .int, 2) := by decide +kernel
theorem dX8_init_49 : decode cX8_init 49 = .ok (.putfield 27, 3) := by decide +kernel
theorem dX8_init_52 : decode cX8_init 52 = .ok (.aload_n 0, 1) := by decide +kernel
theorem dX8_init_53 : decode cX8_init 53 = .ok (.bipush 61, 2) := by decide +kernel
theorem dX8_init_55 : decode cX8_init 55 = .ok (.newarray .int, 2) := by decide +kernel
theorem dX8_init_57 : decode cX8_init 57 = .ok (.putfield 30, 3) := by decide +kernel
theorem dX8_init_60 : decode cX8_init 60 = .ok (.aload_n 0, 1) := by decide +kernel
theorem dX8_init_61 : decode cX8_init 61 = .ok (.iconst 0, 1) := by decide +kernel
theorem dX8_init_62 : decode cX8_init 62 = .ok (.putfield 33, 3) := by decide +kernel
theorem dX8_init_65 : decode cX8_init 65 = .ok (.aload_n 0, 1) := by decide +kernel
theorem dX8_init_66 : decode cX8_init 66 = .ok (.iconst (-1), 1) := by decide +kernel
theorem dX8_init_67 : decode cX8_init 67 = .ok (.putfield 37, 3) := by decide +kernel
theorem dX8_init_70 : decode cX8_init 70 = .ok (.return_, 1) := by decide +kernel
theorem dX8_grow_0 : decode cX8_grow 0 = .ok (.aload_n 0, 1) := by decide +kernel
theorem dX8_grow_1 : decode cX8_grow 1 = .ok (.iconst 0, 1) := by decide +kernel
theorem dX8_grow_2 : decode cX8_grow 2 = .ok (.putfield 33, 3) := by decide +kernel
theorem dX8_grow_5 : decode cX8_grow 5 = .ok (.iload_n 2, 1) := by decide +kernel
theorem dX8_grow_6 : decode cX8_grow 6 = .ok (.iconst (-1), 1) := by decide +kernel
theorem dX8_grow_7 : decode cX8_grow 7 = .ok (.if_icmp .eq 7, 3) := by decide +kernel
theorem dX8_grow_10 : decode cX8_grow 10 = .ok (.iconst 1, 1) := by decide +kernel
theorem dX8_grow_11 : decode cX8_grow 11 = .ok (.goto 4, 3) := by decide +kernel
theorem dX8_grow_14 : decode cX8_grow 14 = .ok (.iconst 0, 1) := by decide +kernel
theorem dX8_grow_15 : decode cX8_grow 15 = .ok (.istore 4, 2) := by decide +kernel
theorem dX8_grow_17 : decode cX8_grow 17 = .ok (.iconst 0, 1) := by decide +kernel
theorem dX8_grow_18 : decode cX8_grow 18 = .ok (.istore 5, 2) := by decide +kernel
theorem dX8_grow_20 : decode cX8_grow 20 = .ok (.iload 5, 2) := by decide +kernel
theorem dX8_grow_22 : decode cX8_grow 22 = .ok (.aload_n 1, 1) := by decide +kernel
theorem dX8_grow_23 : decode cX8_grow 23 = .ok (.getfield 40, 3) := by decide +kernel
theorem dX8_grow_26 : decode cX8_grow 26 = .ok (.if_icmp .ge 48, 3) := by decide +kernel
theorem dX8_grow_29 : decode cX8_grow 29 = .ok (.aload_n 1, 1) := by decide +kernel
theorem dX8_grow_30 : decode cX8_grow 30 = .ok (.iload 5, 2) := by decide +kernel
theorem dX8_grow_32 : decode cX8_grow 32 = .ok (.invokevirtual 43, 3) := by decide +kernel
theorem dX8_grow_35 : decode cX8_grow 35 = .ok (.istore 6, 2) := by decide +kernel
theorem dX8_grow_37 : decode cX8_grow 37 = .ok (.iload 4, 2) := by decide +kernel
theorem dX8_grow_39 : decode cX8_grow 39 = .ok (.ifCond .eq 17, 3) := by decide +kernel
theorem dX8_grow_42 : decode cX8_grow 42 = .ok (.iload_n 2, 1) := by decide +kernel
theorem dX8_grow_43 : decode cX8_grow 43 = .ok (.iload 6, 2) := by decide +kernel
theorem dX8_grow_45 : decode cX8_grow 45 = .ok (.if_icmp .ge 11, 3) := by decide +kernel
theorem dX8_grow_48 : decode cX8_grow 48 = .ok (.aload_n 0, 1) := by decide +kernel
theorem dX8_grow_49 : decode cX8_grow 49 = .ok (.iload_n 2, 1) := by decide +kernel
theorem dX8_grow_50 : decode cX8_grow 50 = .ok (.invokevirtual 47, 3) := by decide +kernel
theorem dX8_grow_53 : decode cX8_grow 53 = .ok (.iconst 0, 1) := by decide +kernel
theorem dX8_grow_54 : decode cX8_grow 54 = .ok (.istore 4, 2) := by decide +kernel
theorem dX8_grow_56 : decode cX8_grow 56 = .ok (.iload 6, 2) := by decide +kernel
theorem dX8_grow_58 : decode cX8_grow 58 = .ok (.iload_n 3, 1) := by decide +kernel
theorem dX8_grow_59 : decode cX8_grow 59 = .ok (.if_icmp .eq 9, 3) := by decide +kernel
theorem dX8_grow_62 : decode cX8_grow 62 = .ok (.aload_n 0, 1) := by decide +kernel
theorem dX8_grow_63 : decode cX8_grow 63 = .ok (.iload 6, 2) := by decide +kernel
theorem dX8_grow_65 : decode cX8_grow 65 = .ok (.invokevirtual 47, 3) := by decide +kernel
theorem dX8_grow_68 : decode cX8_grow 68 = .ok (.iinc 5 1, 3) := by decide +kernel
theorem dX8_grow_71 : decode cX8_grow 71 = .ok (.goto (-51), 3) := by decide +kernel
theorem dX8_grow_74 : decode cX8_grow 74 = .ok (.iload 4, 2) := by decide +kernel
theorem dX8_grow_76 : decode cX8_grow 76 = .ok (.ifCond .eq 8, 3) := by decide +kernel
theorem dX8_grow_79 : decode cX8_grow 79 = .ok (.aload_n 0, 1) := by decide +kernel
theorem dX8_grow_80 : decode cX8_grow 80 = .ok (.iload_n 2, 1) := by decide +kernel
theorem dX8_grow_81 : decode cX8_grow 81 = .ok (.invokevirtual 47, 3) := by decide +kernel
theorem dX8_grow_84 : decode cX8_grow 84 = .ok (.aload_n 0, 1) := by decide +kernel
theorem dX8_grow_85 : decode cX8_grow 85 = .ok (.invokevirtual 51, 3) := by decide +kernel
theorem dX8_grow_88 : decode cX8_grow 88 = .ok (.aload_n 0, 1) := by decide +kernel
theorem dX8_grow_89 : decode cX8_grow 89 = .ok (.invokevirtual 54, 3) := by decide +kernel
theorem dX8_grow_92 : decode cX8_grow 92 = .ok (.return_, 1) := by decide +kernel
theorem dX8_addKey_0 : decode cX8_addKey 0 = .ok (.aload_n 0, 1) := by decide +kernel
theorem dX8_addKey_1 : decode cX8_addKey 1 = .ok (.getfield 33, 3) := by decide +kernel
theorem dX8_addKey_4 : decode cX8_addKey 4 = .ok (.ifCond .lt 32, 3) := by decide +kernel
theorem dX8_addKey_7 : decode cX8_addKey 7 = .ok (.aload_n 0, 1) := by decide +kernel
theorem dX8_addKey_8 : decode cX8_addKey 8 = .ok (.getfield 33, 3) := by decide +kernel
theorem dX8_addKey_11 : decode cX8_addKey 11 = .ok (.bipush 61, 2) := by decide +kernel
theorem dX8_addKey_13 : decode cX8_addKey 13 = .ok (.if_icmp .ge 23, 3) := by decide +kernel
theorem dX8_addKey_16 : decode cX8_addKey 16 = .ok (.aload_n 0, 1) := by decide +kernel
theorem dX8_addKey_17 : decode cX8_addKey 17 = .ok (.getfield 11, 3) := by decide +kernel
theorem dX8_addKey_20 : decode cX8_addKey 20 = .ok (.aload_n 0, 1) := by decide +kernel
theorem dX8_addKey_21 : decode cX8_addKey 21 = .ok (.getfield 33, 3) := by decide +kernel
theorem dX8_addKey_24 : decode cX8_addKey 24 = .ok (.iload_n 1, 1) := by decide +kernel
theorem dX8_addKey_25 : decode cX8_addKey 25 = .ok (.iastore, 1) := by decide +kernel
theorem dX8_addKey_26 : decode cX8_addKey 26 = .ok (.aload_n 0, 1) := by decide +kernel
theorem dX8_addKey_27 : decode cX8_addKey 27 = .ok (.dup, 1) := by decide +kernel
theorem dX8_addKey_28 : decode cX8_addKey 28 = .ok (.getfield 33, 3) := by decide +kernel
theorem dX8_addKey_31 : decode cX8_addKey 31 = .ok (.iconst 1, 1) := by decide +kernel
theorem dX8_addKey_32 : decode cX8_addKey 32 = .ok (.iadd, 1) := by decide +kernel
theorem dX8_addKey_33 : decode cX8_addKey 33 = .ok (.putfield 33, 3) := by decide +kernel
theorem dX8_addKey_36 : decode cX8_addKey 36 = .ok (.return_, 1) := by decide +kernel
theorem dX8_link_0 : decode cX8_link 0 = .ok (.iconst 0, 1) := by decide +kernel
theorem dX8_link_1 : decode cX8_link 1 = .ok (.istore_n 1, 1) := by decide +kernel
theorem dX8_link_2 : decode cX8_link 2 = .ok (.iconst 0, 1) := by decide +kernel
theorem dX8_link_3 : decode cX8_link 3 = .ok (.istore_n 2, 1) := by decide +kernel
theorem dX8_link_4 : decode cX8_link 4 = .ok (.iload_n 2, 1) := by decide +kernel
theorem dX8_link_5 : decode cX8_link 5 = .ok (.aload_n 0, 1) := by decide +kernel
theorem dX8_link_6 : decode cX8_link 6 = .ok (.getfield 33, 3) := by decide +kernel
theorem dX8_link_9 : decode cX8_link 9 = .ok (.if_icmp .ge 132, 3) := by decide +kernel
theorem dX8_link_12 : decode cX8_link 12 = .ok (.iconst (-1), 1) := by decide +kernel
theorem dX8_link_13 : decode cX8_link 13 = .ok (.istore_n 3, 1) := by decide +kernel
theorem dX8_link_14 : decode cX8_link 14 = .ok (.iload_n 1, 1) := by decide +kernel
theorem dX8_link_15 : decode cX8_link 15 = .ok (.ifCond .le 44, 3) := by decide +kernel
theorem dX8_link_18 : decode cX8_link 18 = .ok (.aload_n 0, 1) := by decide +kernel
theorem dX8_link_19 : decode cX8_link 19 = .ok (.getfield 11, 3) := by decide +kernel
theorem dX8_link_22 : decode cX8_link 22 = .ok (.aload_n 0, 1) := by decide +kernel
theorem dX8_link_23 : decode cX8_link 23 = .ok (.getfield 30, 3) := by decide +kernel
theorem dX8_link_26 : decode cX8_link 26 = .ok (.iload_n 1, 1) := by decide +kernel
theorem dX8_link_27 : decode cX8_link 27 = .ok (.iconst 1, 1) := by decide +kernel
theorem dX8_link_28 : decode cX8_link 28 = .ok (.isub, 1) := by decide +kernel
theorem dX8_link_29 : decode cX8_link 29 = .ok (.iaload, 1) := by decide +kernel
theorem dX8_link_30 : decode cX8_link 30 = .ok (.iaload, 1) := by decide +kernel
theorem dX8_link_31 : decode cX8_link 31 = .ok (.invokestatic 57, 3) := by decide +kernel
theorem dX8_link_34 : decode cX8_link 34 = .ok (.aload_n 0, 1) := by decide +kernel
theorem dX8_link_35 : decode cX8_link 35 = .ok (.getfield 11, 3) := by decide +kernel
theorem dX8_link_38 : decode cX8_link 38 = .ok (.iload_n 2, 1) := by decide +kernel
theorem dX8_link_39 : decode cX8_link 39 = .ok (.iaload, 1) := by decide +kernel
theorem dX8_link_40 : decode cX8_link 40 = .ok (.invokestatic 57, 3) := by decide +kernel
theorem dX8_link_43 : decode cX8_link 43 = .ok (.if_icmp .ge 16, 3) := by decide +kernel
theorem dX8_link_46 : decode cX8_link 46 = .ok (.iinc 1 (-1), 3) := by decide +kernel
theorem dX8_link_49 : decode cX8_link 49 = .ok (.aload_n 0, 1) := by decide +kernel
theorem dX8_link_50 : decode cX8_link 50 = .ok (.getfield 30, 3) := by decide +kernel
theorem dX8_link_53 : decode cX8_link 53 = .ok (.iload_n 1, 1) := by decide +kernel
theorem dX8_link_54 : decode cX8_link 54 = .ok (.iaload, 1) := by decide +kernel
theorem dX8_link_55 : decode cX8_link 55 = .ok (.istore_n 3, 1) := by decide +kernel
theorem dX8_link_56 : decode cX8_link 56 = .ok (.goto (-42), 3) := by decide +kernel
theorem dX8_link_59 : decode cX8_link 59 = .ok (.aload_n 0, 1) := by decide +kernel
theorem dX8_link_60 : decode cX8_link 60 = .ok (.getfield 18, 3) := by decide +kernel
theorem dX8_link_63 : decode cX8_link 63 = .ok (.iload_n 2, 1) := by decide +kernel
theorem dX8_link_64 : decode cX8_link 64 = .ok (.iload_n 3, 1) := by decide +kernel
theorem dX8_link_65 : decode cX8_link 65 = .ok (.iastore, 1) := by decide +kernel
theorem dX8_link_66 : decode cX8_link 66 = .ok (.aload_n 0, 1) := by decide +kernel
theorem dX8_link_67 : decode cX8_link 67 = .ok (.getfield 21, 3) := by decide +kernel
theorem dX8_link_70 : decode cX8_link 70 = .ok (.iload_n 2, 1) := by decide +kernel
theorem dX8_link_71 : decode cX8_link 71 = .ok (.iconst (-1), 1) := by decide +kernel
theorem dX8_link_72 : decode cX8_link 72 = .ok (.iastore, 1) := by decide +kernel
theorem dX8_link_73 : decode cX8_link 73 = .ok (.aload_n 0, 1) := by decide +kernel
theorem dX8_link_74 : decode cX8_link 74 = .ok (.getfield 15, 3) := by decide +kernel
theorem dX8_link_77 : decode cX8_link 77 = .ok (.iload_n 2, 1) := by decide +kernel
theorem dX8_link_78 : decode cX8_link 78 = .ok (.iload_n 1, 1) := by decide +kernel
theorem dX8_link_79 : decode cX8_link 79 = .ok (.ifCond .le 14, 3) := by decide +kernel
theorem dX8_link_82 : decode cX8_link 82 = .ok (.aload_n 0, 1) := by decide +kernel
theorem dX8_link_83 : decode cX8_link 83 = .ok (.getfield 30, 3) := by decide +kernel
theorem dX8_link_86 : decode cX8_link 86 = .ok (.iload_n 1, 1) := by decide +kernel
theorem dX8_link_87 : decode cX8_link 87 = .ok (.iconst 1, 1) := by decide +kernel
theorem dX8_link_88 : decode cX8_link 88 = .ok (.isub, 1) := by decide +kernel
theorem dX8_link_89 : decode cX8_link 89 = .ok (.iaload, 1) := by decide +kernel
theorem dX8_link_90 : decode cX8_link 90 = .ok (.goto 4, 3) := by decide +kernel
theorem dX8_link_93 : decode cX8_link 93 = .ok (.iconst (-1), 1) := by decide +kernel
theorem dX8_link_94 : decode cX8_link 94 = .ok (.iastore, 1) := by decide +kernel
theorem dX8_link_95 : decode cX8_link 95 = .ok (.iload_n 3, 1) := by decide +kernel
theorem dX8_link_96 : decode cX8_link 96 = .ok (.iconst (-1), 1) := by decide +kernel
theorem dX8_link_97 : decode cX8_link 97 = .ok (.if_icmp .eq 10, 3) := by decide +kernel
theorem dX8_link_100 : decode cX8_link 100 = .ok (.aload_n 0, 1) := by decide +kernel
theorem dX8_link_101 : decode cX8_link 101 = .ok (.getfield 15, 3) := by decide +kernel
theorem dX8_link_104 : decode cX8_link 104 = .ok (.iload_n 3, 1) := by decide +kernel
theorem dX8_link_105 : decode cX8_link 105 = .ok (.iload_n 2, 1) := by decide +kernel
theorem dX8_link_106 : decode cX8_link 106 = .ok (.iastore, 1) := by decide +kernel
theorem dX8_link_107 : decode cX8_link 107 = .ok (.iload_n 1, 1) := by decide +kernel
theorem dX8_link_108 : decode cX8_link 108 = .ok (.ifCond .le 17, 3) := by decide +kernel
theorem dX8_link_111 : decode cX8_link 111 = .ok (.aload_n 0, 1) := by decide +kernel
theorem dX8_link_112 : decode cX8_link 112 = .ok (.getfield 21, 3) := by decide +kernel
theorem dX8_link_115 : decode cX8_link 115 = .ok (.aload_n 0, 1) := by decide +kernel
theorem dX8_link_116 : decode cX8_link 116 = .ok (.getfield 30, 3) := by decide +kernel
theorem dX8_link_119 : decode cX8_link 119 = .ok (.iload_n 1, 1) := by decide +kernel
theorem dX8_link_120 : decode cX8_link 120 = .ok (.iconst 1, 1) := by decide +kernel
theorem dX8_link_121 : decode cX8_link 121 = .ok (.isub, 1) := by decide +kernel
theorem dX8_link_122 : decode cX8_link 122 = .ok (.iaload, 1) := by decide +kernel
theorem dX8_link_123 : decode cX8_link 123 = .ok (.iload_n 2, 1) := by decide +kernel
theorem dX8_link_124 : decode cX8_link 124 = .ok (.iastore, 1) := by decide +kernel
theorem dX8_link_125 : decode cX8_link 125 = .ok (.aload_n 0, 1) := by decide +kernel
theorem dX8_link_126 : decode cX8_link 126 = .ok (.getfield 30, 3) := by decide +kernel
theorem dX8_link_129 : decode cX8_link 129 = .ok (.iload_n 1, 1) := by decide +kernel
theorem dX8_link_130 : decode cX8_link 130 = .ok (.iload_n 2, 1) := by decide +kernel
theorem dX8_link_131 : decode cX8_link 131 = .ok (.iastore, 1) := by decide +kernel
theorem dX8_link_132 : decode cX8_link 132 = .ok (.iinc 1 1, 3) := by decide +kernel
theorem dX8_link_135 : decode cX8_link 135 = .ok (.iinc 2 1, 3) := by decide +kernel
theorem dX8_link_138 : decode cX8_link 138 = .ok (.goto (-134), 3) := by decide +kernel
theorem dX8_link_141 : decode cX8_link 141 = .ok (.aload_n 0, 1) := by decide +kernel
theorem dX8_link_142 : decode cX8_link 142 = .ok (.aload_n 0, 1) := by decide +kernel
theorem dX8_link_143 : decode cX8_link 143 = .ok (.getfield 33, 3) := by decide +kernel
theorem dX8_link_146 : decode cX8_link 146 = .ok (.ifCond .le 12, 3) := by decide +kernel
theorem dX8_link_149 : decode cX8_link 149 = .ok (.aload_n 0, 1) := by decide +kernel
theorem dX8_link_150 : decode cX8_link 150 = .ok (.getfield 30, 3) := by decide +kernel
theorem dX8_link_153 : decode cX8_link 153 = .ok (.iconst 0, 1) := by decide +kernel
theorem dX8_link_154 : decode cX8_link 154 = .ok (.iaload, 1) := by decide +kernel
theorem dX8_link_155 : decode cX8_link 155 = .ok (.goto 4, 3) := by decide +kernel
theorem dX8_link_158 : decode cX8_link 158 = .ok (.iconst (-1), 1) := by decide +kernel
theorem dX8_link_159 : decode cX8_link 159 = .ok (.putfield 37, 3) := by decide +kernel
theorem dX8_link_162 : decode cX8_link 162 = .ok (.return_, 1) := by decide +kernel
theorem dX8_climb_0 : decode cX8_climb 0 = .ok (.iconst 0, 1) := by decide +kernel
theorem dX8_climb_1 : decode cX8_climb 1 = .ok (.istore_n 1, 1) := by decide +kernel
theorem dX8_climb_2 : decode cX8_climb 2 = .ok (.iload_n 1, 1) := by decide +kernel
theorem dX8_climb_3 : decode cX8_climb 3 = .ok (.aload_n 0, 1) := by decide +kernel
theorem dX8_climb_4 : decode cX8_climb 4 = .ok (.getfield 33, 3) := by decide +kernel
theorem dX8_climb_7 : decode cX8_climb 7 = .ok (.if_icmp .ge 23, 3) := by decide +kernel
theorem dX8_climb_10 : decode cX8_climb 10 = .ok (.aload_n 0, 1) := by decide +kernel
theorem dX8_climb_11 : decode cX8_climb 11 = .ok (.getfield 24, 3) := by decide +kernel
theorem dX8_climb_14 : decode cX8_climb 14 = .ok (.iload_n 1, 1) := by decide +kernel
theorem dX8_climb_15 : decode cX8_climb 15 = .ok (.iconst 0, 1) := by decide +kernel
theorem dX8_climb_16 : decode cX8_climb 16 = .ok (.iastore, 1) := by decide +kernel
theorem dX8_climb_17 : decode cX8_climb 17 = .ok (.aload_n 0, 1) := by decide +kernel
theorem dX8_climb_18 : decode cX8_climb 18 = .ok (.getfield 27, 3) := by decide +kernel
theorem dX8_climb_21 : decode cX8_climb 21 = .ok (.iload_n 1, 1) := by decide +kernel
theorem dX8_climb_22 : decode cX8_climb 22 = .ok (.iconst 0, 1) := by decide +kernel
theorem dX8_climb_23 : decode cX8_climb 23 = .ok (.iastore, 1) := by decide +kernel
theorem dX8_climb_24 : decode cX8_climb 24 = .ok (.iinc 1 1, 3) := by decide +kernel
theorem dX8_climb_27 : decode cX8_climb 27 = .ok (.goto (-25), 3) := by decide +kernel
theorem dX8_climb_30 : decode cX8_climb 30 = .ok (.iconst 0, 1) := by decide +kernel
theorem dX8_climb_31 : decode cX8_climb 31 = .ok (.istore_n 1, 1) := by decide +kernel
theorem dX8_climb_32 : decode cX8_climb 32 = .ok (.iload_n 1, 1) := by decide +kernel
theorem dX8_climb_33 : decode cX8_climb 33 = .ok (.aload_n 0, 1) := by decide +kernel
theorem dX8_climb_34 : decode cX8_climb 34 = .ok (.getfield 33, 3) := by decide +kernel
theorem dX8_climb_37 : decode cX8_climb 37 = .ok (.if_icmp .ge 64, 3) := by decide +kernel
theorem dX8_climb_40 : decode cX8_climb 40 = .ok (.aload_n 0, 1) := by decide +kernel
theorem dX8_climb_41 : decode cX8_climb 41 = .ok (.getfield 15, 3) := by decide +kernel
theorem dX8_climb_44 : decode cX8_climb 44 = .ok (.iload_n 1, 1) := by decide +kernel
theorem dX8_climb_45 : decode cX8_climb 45 = .ok (.iaload, 1) := by decide +kernel
theorem dX8_climb_46 : decode cX8_climb 46 = .ok (.istore_n 2, 1) := by decide +kernel
theorem dX8_climb_47 : decode cX8_climb 47 = .ok (.iconst 0, 1) := by decide +kernel
theorem dX8_climb_48 : decode cX8_climb 48 = .ok (.istore_n 3, 1) := by decide +kernel
theorem dX8_climb_49 : decode cX8_climb 49 = .ok (.iload_n 3, 1) := by decide +kernel
theorem dX8_climb_50 : decode cX8_climb 50 = .ok (.aload_n 0, 1) := by decide +kernel
theorem dX8_climb_51 : decode cX8_climb 51 = .ok (.getfield 33, 3) := by decide +kernel
theorem dX8_climb_54 : decode cX8_climb 54 = .ok (.if_icmp .ge 41, 3) := by decide +kernel
theorem dX8_climb_57 : decode cX8_climb 57 = .ok (.iload_n 2, 1) := by decide +kernel
theorem dX8_climb_58 : decode cX8_climb 58 = .ok (.iconst (-1), 1) := by decide +kernel
theorem dX8_climb_59 : decode cX8_climb 59 = .ok (.if_icmp .eq 36, 3) := by decide +kernel
theorem dX8_climb_62 : decode cX8_climb 62 = .ok (.aload_n 0, 1) := by decide +kernel
theorem dX8_climb_63 : decode cX8_climb 63 = .ok (.getfield 24, 3) := by decide +kernel
theorem dX8_climb_66 : decode cX8_climb 66 = .ok (.iload_n 1, 1) := by decide +kernel
theorem dX8_climb_67 : decode cX8_climb 67 = .ok (.dup2, 1) := by decide +kernel
theorem dX8_climb_68 : decode cX8_climb 68 = .ok (.iaload, 1) := by decide +kernel
theorem dX8_climb_69 : decode cX8_climb 69 = .ok (.iconst 1, 1) := by decide +kernel
theorem dX8_climb_70 : decode cX8_climb 70 = .ok (.iadd, 1) := by decide +kernel
theorem dX8_climb_71 : decode cX8_climb 71 = .ok (.iastore, 1) := by decide +kernel
theorem dX8_climb_72 : decode cX8_climb 72 = .ok (.aload_n 0, 1) := by decide +kernel
theorem dX8_climb_73 : decode cX8_climb 73 = .ok (.getfield 27, 3) := by decide +kernel
theorem dX8_climb_76 : decode cX8_climb 76 = .ok (.iload_n 2, 1) := by decide +kernel
theorem dX8_climb_77 : decode cX8_climb 77 = .ok (.dup2, 1) := by decide +kernel
theorem dX8_climb_78 : decode cX8_climb 78 = .ok (.iaload, 1) := by decide +kernel
theorem dX8_climb_79 : decode cX8_climb 79 = .ok (.iconst 1, 1) := by decide +kernel
theorem dX8_climb_80 : decode cX8_climb 80 = .ok (.iadd, 1) := by decide +kernel
theorem dX8_climb_81 : decode cX8_climb 81 = .ok (.iastore, 1) := by decide +kernel
theorem dX8_climb_82 : decode cX8_climb 82 = .ok (.aload_n 0, 1) := by decide +kernel
theorem dX8_climb_83 : decode cX8_climb 83 = .ok (.getfield 15, 3) := by decide +kernel
theorem dX8_climb_86 : decode cX8_climb 86 = .ok (.iload_n 2, 1) := by decide +kernel
theorem dX8_climb_87 : decode cX8_climb 87 = .ok (.iaload, 1) := by decide +kernel
theorem dX8_climb_88 : decode cX8_climb 88 = .ok (.istore_n 2, 1) := by decide +kernel
theorem dX8_climb_89 : decode cX8_climb 89 = .ok (.iinc 3 1, 3) := by decide +kernel
theorem dX8_climb_92 : decode cX8_climb 92 = .ok (.goto (-43), 3) := by decide +kernel
theorem dX8_climb_95 : decode cX8_climb 95 = .ok (.iinc 1 1, 3) := by decide +kernel
theorem dX8_climb_98 : decode cX8_climb 98 = .ok (.goto (-66), 3) := by decide +kernel
theorem dX8_climb_101 : decode cX8_climb 101 = .ok (.return_, 1) := by decide +kernel
theorem dX8_isNode_0 : decode cX8_isNode 0 = .ok (.iload_n 1, 1) := by decide +kernel
theorem dX8_isNode_1 : decode cX8_isNode 1 = .ok (.ifCond .lt 15, 3) := by decide +kernel
theorem dX8_isNode_4 : decode cX8_isNode 4 = .ok (.iload_n 1, 1) := by decide +kernel
theorem dX8_isNode_5 : decode cX8_isNode 5 = .ok (.aload_n 0, 1) := by decide +kernel
theorem dX8_isNode_6 : decode cX8_isNode 6 = .ok (.getfield 33, 3) := by decide +kernel
theorem dX8_isNode_9 : decode cX8_isNode 9 = .ok (.if_icmp .ge 7, 3) := by decide +kernel
theorem dX8_isNode_12 : decode cX8_isNode 12 = .ok (.iconst 1, 1) := by decide +kernel
theorem dX8_isNode_13 : decode cX8_isNode 13 = .ok (.goto 4, 3) := by decide +kernel
theorem dX8_isNode_16 : decode cX8_isNode 16 = .ok (.iconst 0, 1) := by decide +kernel
theorem dX8_isNode_17 : decode cX8_isNode 17 = .ok (.ireturn, 1) := by decide +kernel
theorem dX8_keyOf_0 : decode cX8_keyOf 0 = .ok (.aload_n 0, 1) := by decide +kernel
theorem dX8_keyOf_1 : decode cX8_keyOf 1 = .ok (.iload_n 1, 1) := by decide +kernel
theorem dX8_keyOf_2 : decode cX8_keyOf 2 = .ok (.invokevirtual 60, 3) := by decide +kernel
theorem dX8_keyOf_5 : decode cX8_keyOf 5 = .ok (.ifCond .eq 12, 3) := by decide +kernel
theorem dX8_keyOf_8 : decode cX8_keyOf 8 = .ok (.aload_n 0, 1) := by decide +kernel
theorem dX8_keyOf_9 : decode cX8_keyOf 9 = .ok (.getfield 11, 3) := by decide +kernel
theorem dX8_keyOf_12 : decode cX8_keyOf 12 = .ok (.iload_n 1, 1) := by decide +kernel
theorem dX8_keyOf_13 : decode cX8_keyOf 13 = .ok (.iaload, 1) := by decide +kernel
theorem dX8_keyOf_14 : decode cX8_keyOf 14 = .ok (.goto 4, 3) := by decide +kernel
theorem dX8_keyOf_17 : decode cX8_keyOf 17 = .ok (.iconst (-1), 1) := by decide +kernel
theorem dX8_keyOf_18 : decode cX8_keyOf 18 = .ok (.ireturn, 1) := by decide +kernel
theorem dX8_rootKey_0 : decode cX8_rootKey 0 = .ok (.aload_n 0, 1) := by decide +kernel
theorem dX8_rootKey_1 : decode cX8_rootKey 1 = .ok (.aload_n 0, 1) := by decide +kernel
theorem dX8_rootKey_2 : decode cX8_rootKey 2 = .ok (.getfield 37, 3) := by decide +kernel
theorem dX8_rootKey_5 : decode cX8_rootKey 5 = .ok (.invokevirtual 64, 3) := by decide +kernel
theorem dX8_rootKey_8 : decode cX8_rootKey 8 = .ok (.ireturn, 1) := by decide +kernel
theorem dX8_depthAt_0 : decode cX8_depthAt 0 = .ok (.aload_n 0, 1) := by decide +kernel
theorem dX8_depthAt_1 : decode cX8_depthAt 1 = .ok (.iload_n 1, 1) := by decide +kernel
theorem dX8_depthAt_2 : decode cX8_depthAt 2 = .ok (.invokevirtual 60, 3) := by decide +kernel
theorem dX8_depthAt_5 : decode cX8_depthAt 5 = .ok (.ifCond .eq 12, 3) := by decide +kernel
theorem dX8_depthAt_8 : decode cX8_depthAt 8 = .ok (.aload_n 0, 1) := by decide +kernel
theorem dX8_depthAt_9 : decode cX8_depthAt 9 = .ok (.getfield 24, 3) := by decide +kernel
theorem dX8_depthAt_12 : decode cX8_depthAt 12 = .ok (.iload_n 1, 1) := by decide +kernel
theorem dX8_depthAt_13 : decode cX8_depthAt 13 = .ok (.iaload, 1) := by decide +kernel
theorem dX8_depthAt_14 : decode cX8_depthAt 14 = .ok (.goto 4, 3) := by decide +kernel
theorem dX8_depthAt_17 : decode cX8_depthAt 17 = .ok (.iconst (-1), 1) := by decide +kernel
theorem dX8_depthAt_18 : decode cX8_depthAt 18 = .ok (.ireturn, 1) := by decide +kernel
theorem dX8_keyAbove_0 : decode cX8_keyAbove 0 = .ok (.aload_n 0, 1) := by decide +kernel
theorem dX8_keyAbove_1 : decode cX8_keyAbove 1 = .ok (.iload_n 1, 1) := by decide +kernel
theorem dX8_keyAbove_2 : decode cX8_keyAbove 2 = .ok (.invokevirtual 60, 3) := by decide +kernel
theorem dX8_keyAbove_5 : decode cX8_keyAbove 5 = .ok (.ifCond .eq 16, 3) := by decide +kernel
theorem dX8_keyAbove_8 : decode cX8_keyAbove 8 = .ok (.aload_n 0, 1) := by decide +kernel
theorem dX8_keyAbove_9 : decode cX8_keyAbove 9 = .ok (.aload_n 0, 1) := by decide +kernel
theorem dX8_keyAbove_10 : decode cX8_keyAbove 10 = .ok (.getfield 15, 3) := by decide +kernel
theorem dX8_keyAbove_13 : decode cX8_keyAbove 13 = .ok (.iload_n 1, 1) := by decide +kernel
theorem dX8_keyAbove_14 : decode cX8_keyAbove 14 = .ok (.iaload, 1) := by decide +kernel
theorem dX8_keyAbove_15 : decode cX8_keyAbove 15 = .ok (.invokevirtual 64, 3) := by decide +kernel
theorem dX8_keyAbove_18 : decode cX8_keyAbove 18 = .ok (.goto 4, 3) := by decide +kernel
theorem dX8_keyAbove_21 : decode cX8_keyAbove 21 = .ok (.iconst (-1), 1) := by decide +kernel
theorem dX8_keyAbove_22 : decode cX8_keyAbove 22 = .ok (.ireturn, 1) := by decide +kernel
theorem dX8_keyAtLeft_0 : decode cX8_keyAtLeft 0 = .ok (.aload_n 0, 1) := by decide +kernel
theorem dX8_keyAtLeft_1 : decode cX8_keyAtLeft 1 = .ok (.iload_n 1, 1) := by decide +kernel
theorem dX8_keyAtLeft_2 : decode cX8_keyAtLeft 2 = .ok (.invokevirtual 60, 3) := by decide +kernel
theorem dX8_keyAtLeft_5 : decode cX8_keyAtLeft 5 = .ok (.ifCond .eq 16, 3) := by decide +kernel
theorem dX8_keyAtLeft_8 : decode cX8_keyAtLeft 8 = .ok (.aload_n 0, 1) := by decide +kernel
theorem dX8_keyAtLeft_9 : decode cX8_keyAtLeft 9 = .ok (.aload_n 0, 1) := by decide +kernel
theorem dX8_keyAtLeft_10 : decode cX8_keyAtLeft 10 = .ok (.getfield 18, 3) := by decide +kernel
theorem dX8_keyAtLeft_13 : decode cX8_keyAtLeft 13 = .ok (.iload_n 1, 1) := by decide +kernel
theorem dX8_keyAtLeft_14 : decode cX8_keyAtLeft 14 = .ok (.iaload, 1) := by decide +kernel
theorem dX8_keyAtLeft_15 : decode cX8_keyAtLeft 15 = .ok (.invokevirtual 64, 3) := by decide +kernel
theorem dX8_keyAtLeft_18 : decode cX8_keyAtLeft 18 = .ok (.goto 4, 3) := by decide +kernel
theorem dX8_keyAtLeft_21 : decode cX8_keyAtLeft 21 = .ok (.iconst (-1), 1) := by decide +kernel
theorem dX8_keyAtLeft_22 : decode cX8_keyAtLeft 22 = .ok (.ireturn, 1) := by decide +kernel
theorem dX8_keyAtRight_0 : decode cX8_keyAtRight 0 = .ok (.aload_n 0, 1) := by decide +kernel
theorem dX8_keyAtRight_1 : decode cX8_keyAtRight 1 = .ok (.iload_n 1, 1) := by decide +kernel
theorem dX8_keyAtRight_2 : decode cX8_keyAtRight 2 = .ok (.invokevirtual 60, 3) := by decide +kernel
theorem dX8_keyAtRight_5 : decode cX8_keyAtRight 5 = .ok (.ifCond .eq 16, 3) := by decide +kernel
theorem dX8_keyAtRight_8 : decode cX8_keyAtRight 8 = .ok (.aload_n 0, 1) := by decide +kernel
theorem dX8_keyAtRight_9 : decode cX8_keyAtRight 9 = .ok (.aload_n 0, 1) := by decide +kernel
theorem dX8_keyAtRight_10 : decode cX8_keyAtRight 10 = .ok (.getfield 21, 3) := by decide +kernel
theorem dX8_keyAtRight_13 : decode cX8_keyAtRight 13 = .ok (.iload_n 1, 1) := by decide +kernel
theorem dX8_keyAtRight_14 : decode cX8_keyAtRight 14 = .ok (.iaload, 1) := by decide +kernel
theorem dX8_keyAtRight_15 : decode cX8_keyAtRight 15 = .ok (.invokevirtual 64, 3) := by decide +kernel
theorem dX8_keyAtRight_18 : decode cX8_keyAtRight 18 = .ok (.goto 4, 3) := by decide +kernel
theorem dX8_keyAtRight_21 : decode cX8_keyAtRight 21 = .ok (.iconst (-1), 1) := by decide +kernel
theorem dX8_keyAtRight_22 : decode cX8_keyAtRight 22 = .ok (.ireturn, 1) := by decide +kernel
theorem dX8_howManyBelow_0 : decode cX8_howManyBelow 0 = .ok (.aload_n 0, 1) := by decide +kernel
theorem dX8_howManyBelow_1 : decode cX8_howManyBelow 1 = .ok (.iload_n 1, 1) := by decide +kernel
theorem dX8_howManyBelow_2 : decode cX8_howManyBelow 2 = .ok (.invokevirtual 60, 3) := by decide +kernel
theorem dX8_howManyBelow_5 : decode cX8_howManyBelow 5 = .ok (.ifCond .eq 12, 3) := by decide +kernel
theorem dX8_howManyBelow_8 : decode cX8_howManyBelow 8 = .ok (.aload_n 0, 1) := by decide +kernel
theorem dX8_howManyBelow_9 : decode cX8_howManyBelow 9 = .ok (.getfield 27, 3) := by decide +kernel
theorem dX8_howManyBelow_12 : decode cX8_howManyBelow 12 = .ok (.iload_n 1, 1) := by decide +kernel
theorem dX8_howManyBelow_13 : decode cX8_howManyBelow 13 = .ok (.iaload, 1) := by decide +kernel
theorem dX8_howManyBelow_14 : decode cX8_howManyBelow 14 = .ok (.goto 4, 3) := by decide +kernel
theorem dX8_howManyBelow_17 : decode cX8_howManyBelow 17 = .ok (.iconst (-1), 1) := by decide +kernel
theorem dX8_howManyBelow_18 : decode cX8_howManyBelow 18 = .ok (.ireturn, 1) := by decide +kernel
theorem dX8_high_0 : decode cX8_high 0 = .ok (.iconst 0, 1) := by decide +kernel
theorem dX8_high_1 : decode cX8_high 1 = .ok (.istore_n 1, 1) := by decide +kernel
theorem dX8_high_2 : decode cX8_high 2 = .ok (.iconst 0, 1) := by decide +kernel
theorem dX8_high_3 : decode cX8_high 3 = .ok (.istore_n 2, 1) := by decide +kernel
theorem dX8_high_4 : decode cX8_high 4 = .ok (.iload_n 2, 1) := by decide +kernel
theorem dX8_high_5 : decode cX8_high 5 = .ok (.aload_n 0, 1) := by decide +kernel
theorem dX8_high_6 : decode cX8_high 6 = .ok (.getfield 33, 3) := by decide +kernel
theorem dX8_high_9 : decode cX8_high 9 = .ok (.if_icmp .ge 22, 3) := by decide +kernel
theorem dX8_high_12 : decode cX8_high 12 = .ok (.iload_n 1, 1) := by decide +kernel
theorem dX8_high_13 : decode cX8_high 13 = .ok (.aload_n 0, 1) := by decide +kernel
theorem dX8_high_14 : decode cX8_high 14 = .ok (.getfield 24, 3) := by decide +kernel
theorem dX8_high_17 : decode cX8_high 17 = .ok (.iload_n 2, 1) := by decide +kernel
theorem dX8_high_18 : decode cX8_high 18 = .ok (.iaload, 1) := by decide +kernel
theorem dX8_high_19 : decode cX8_high 19 = .ok (.iconst 1, 1) := by decide +kernel
theorem dX8_high_20 : decode cX8_high 20 = .ok (.iadd, 1) := by decide +kernel
theorem dX8_high_21 : decode cX8_high 21 = .ok (.invokestatic 67, 3) := by decide +kernel
theorem dX8_high_24 : decode cX8_high 24 = .ok (.istore_n 1, 1) := by decide +kernel
theorem dX8_high_25 : decode cX8_high 25 = .ok (.iinc 2 1, 3) := by decide +kernel
theorem dX8_high_28 : decode cX8_high 28 = .ok (.goto (-24), 3) := by decide +kernel
theorem dX8_high_31 : decode cX8_high 31 = .ok (.iload_n 1, 1) := by decide +kernel
theorem dX8_high_32 : decode cX8_high 32 = .ok (.ireturn, 1) := by decide +kernel
theorem dX8_allDepths_0 : decode cX8_allDepths 0 = .ok (.iconst 0, 1) := by decide +kernel
theorem dX8_allDepths_1 : decode cX8_allDepths 1 = .ok (.istore_n 1, 1) := by decide +kernel
theorem dX8_allDepths_2 : decode cX8_allDepths 2 = .ok (.iconst 0, 1) := by decide +kernel
theorem dX8_allDepths_3 : decode cX8_allDepths 3 = .ok (.istore_n 2, 1) := by decide +kernel
theorem dX8_allDepths_4 : decode cX8_allDepths 4 = .ok (.iload_n 2, 1) := by decide +kernel
theorem dX8_allDepths_5 : decode cX8_allDepths 5 = .ok (.aload_n 0, 1) := by decide +kernel
theorem dX8_allDepths_6 : decode cX8_allDepths 6 = .ok (.getfield 33, 3) := by decide +kernel
theorem dX8_allDepths_9 : decode cX8_allDepths 9 = .ok (.if_icmp .ge 18, 3) := by decide +kernel
theorem dX8_allDepths_12 : decode cX8_allDepths 12 = .ok (.iload_n 1, 1) := by decide +kernel
theorem dX8_allDepths_13 : decode cX8_allDepths 13 = .ok (.aload_n 0, 1) := by decide +kernel
theorem dX8_allDepths_14 : decode cX8_allDepths 14 = .ok (.getfield 24, 3) := by decide +kernel
theorem dX8_allDepths_17 : decode cX8_allDepths 17 = .ok (.iload_n 2, 1) := by decide +kernel
theorem dX8_allDepths_18 : decode cX8_allDepths 18 = .ok (.iaload, 1) := by decide +kernel
theorem dX8_allDepths_19 : decode cX8_allDepths 19 = .ok (.iadd, 1) := by decide +kernel
theorem dX8_allDepths_20 : decode cX8_allDepths 20 = .ok (.istore_n 1, 1) := by decide +kernel
theorem dX8_allDepths_21 : decode cX8_allDepths 21 = .ok (.iinc 2 1, 3) := by decide +kernel
theorem dX8_allDepths_24 : decode cX8_allDepths 24 = .ok (.goto (-20), 3) := by decide +kernel
theorem dX8_allDepths_27 : decode cX8_allDepths 27 = .ok (.iload_n 1, 1) := by decide +kernel
theorem dX8_allDepths_28 : decode cX8_allDepths 28 = .ok (.ireturn, 1) := by decide +kernel
theorem dX8_steps_0 : decode cX8_steps 0 = .ok (.aload_n 0, 1) := by decide +kernel
theorem dX8_steps_1 : decode cX8_steps 1 = .ok (.iload_n 1, 1) := by decide +kernel
theorem dX8_steps_2 : decode cX8_steps 2 = .ok (.invokevirtual 60, 3) := by decide +kernel
theorem dX8_steps_5 : decode cX8_steps 5 = .ok (.ifCond .eq 11, 3) := by decide +kernel
theorem dX8_steps_8 : decode cX8_steps 8 = .ok (.aload_n 0, 1) := by decide +kernel
theorem dX8_steps_9 : decode cX8_steps 9 = .ok (.iload_n 2, 1) := by decide +kernel
theorem dX8_steps_10 : decode cX8_steps 10 = .ok (.invokevirtual 60, 3) := by decide +kernel
theorem dX8_steps_13 : decode cX8_steps 13 = .ok (.ifCond .ne 5, 3) := by decide +kernel
theorem dX8_steps_16 : decode cX8_steps 16 = .ok (.iconst (-1), 1) := by decide +kernel
theorem dX8_steps_17 : decode cX8_steps 17 = .ok (.ireturn, 1) := by decide +kernel
theorem dX8_steps_18 : decode cX8_steps 18 = .ok (.aload_n 0, 1) := by decide +kernel
theorem dX8_steps_19 : decode cX8_steps 19 = .ok (.getfield 24, 3) := by decide +kernel
theorem dX8_steps_22 : decode cX8_steps 22 = .ok (.iload_n 1, 1) := by decide +kernel
theorem dX8_steps_23 : decode cX8_steps 23 = .ok (.iaload, 1) := by decide +kernel
theorem dX8_steps_24 : decode cX8_steps 24 = .ok (.istore_n 3, 1) := by decide +kernel
theorem dX8_steps_25 : decode cX8_steps 25 = .ok (.iload_n 1, 1) := by decide +kernel
theorem dX8_steps_26 : decode cX8_steps 26 = .ok (.iload_n 2, 1) := by decide +kernel
theorem dX8_steps_27 : decode cX8_steps 27 = .ok (.invokestatic 67, 3) := by decide +kernel
theorem dX8_steps_30 : decode cX8_steps 30 = .ok (.istore 4, 2) := by decide +kernel
theorem dX8_steps_32 : decode cX8_steps 32 = .ok (.iload_n 1, 1) := by decide +kernel
theorem dX8_steps_33 : decode cX8_steps 33 = .ok (.iload_n 2, 1) := by decide +kernel
theorem dX8_steps_34 : decode cX8_steps 34 = .ok (.invokestatic 73, 3) := by decide +kernel
theorem dX8_steps_37 : decode cX8_steps 37 = .ok (.istore 5, 2) := by decide +kernel
theorem dX8_steps_39 : decode cX8_steps 39 = .ok (.iload 5, 2) := by decide +kernel
theorem dX8_steps_41 : decode cX8_steps 41 = .ok (.iload 4, 2) := by decide +kernel
theorem dX8_steps_43 : decode cX8_steps 43 = .ok (.if_icmp .gt 21, 3) := by decide +kernel
theorem dX8_steps_46 : decode cX8_steps 46 = .ok (.iload_n 3, 1) := by decide +kernel
theorem dX8_steps_47 : decode cX8_steps 47 = .ok (.aload_n 0, 1) := by decide +kernel
theorem dX8_steps_48 : decode cX8_steps 48 = .ok (.getfield 24, 3) := by decide +kernel
theorem dX8_steps_51 : decode cX8_steps 51 = .ok (.iload 5, 2) := by decide +kernel
theorem dX8_steps_53 : decode cX8_steps 53 = .ok (.iaload, 1) := by decide +kernel
theorem dX8_steps_54 : decode cX8_steps 54 = .ok (.invokestatic 73, 3) := by decide +kernel
theorem dX8_steps_57 : decode cX8_steps 57 = .ok (.istore_n 3, 1) := by decide +kernel
theorem dX8_steps_58 : decode cX8_steps 58 = .ok (.iinc 5 1, 3) := by decide +kernel
theorem dX8_steps_61 : decode cX8_steps 61 = .ok (.goto (-22), 3) := by decide +kernel
theorem dX8_steps_64 : decode cX8_steps 64 = .ok (.aload_n 0, 1) := by decide +kernel
theorem dX8_steps_65 : decode cX8_steps 65 = .ok (.getfield 24, 3) := by decide +kernel
theorem dX8_steps_68 : decode cX8_steps 68 = .ok (.iload_n 1, 1) := by decide +kernel
theorem dX8_steps_69 : decode cX8_steps 69 = .ok (.iaload, 1) := by decide +kernel
theorem dX8_steps_70 : decode cX8_steps 70 = .ok (.aload_n 0, 1) := by decide +kernel
theorem dX8_steps_71 : decode cX8_steps 71 = .ok (.getfield 24, 3) := by decide +kernel
theorem dX8_steps_74 : decode cX8_steps 74 = .ok (.iload_n 2, 1) := by decide +kernel
theorem dX8_steps_75 : decode cX8_steps 75 = .ok (.iaload, 1) := by decide +kernel
theorem dX8_steps_76 : decode cX8_steps 76 = .ok (.iadd, 1) := by decide +kernel
theorem dX8_steps_77 : decode cX8_steps 77 = .ok (.iconst 2, 1) := by decide +kernel
theorem dX8_steps_78 : decode cX8_steps 78 = .ok (.iload_n 3, 1) := by decide +kernel
theorem dX8_steps_79 : decode cX8_steps 79 = .ok (.imul, 1) := by decide +kernel
theorem dX8_steps_80 : decode cX8_steps 80 = .ok (.isub, 1) := by decide +kernel
theorem dX8_steps_81 : decode cX8_steps 81 = .ok (.ireturn, 1) := by decide +kernel
theorem dX9_init_0 : decode cX9_init 0 = .ok (.aload_n 0, 1) := by decide +kernel
theorem dX9_init_1 : decode cX9_init 1 = .ok (.invokespecial 1, 3) := by decide +kernel
theorem dX9_init_4 : decode cX9_init 4 = .ok (.return_, 1) := by decide +kernel
theorem dX9_weave_0 : decode cX9_weave 0 = .ok (.aload_n 0, 1) := by decide +kernel
theorem dX9_weave_1 : decode cX9_weave 1 = .ok (.iconst 0, 1) := by decide +kernel
theorem dX9_weave_2 : decode cX9_weave 2 = .ok (.putfield 7, 3) := by decide +kernel
theorem dX9_weave_5 : decode cX9_weave 5 = .ok (.aload_n 0, 1) := by decide +kernel
theorem dX9_weave_6 : decode cX9_weave 6 = .ok (.iconst 0, 1) := by decide +kernel
theorem dX9_weave_7 : decode cX9_weave 7 = .ok (.putfield 13, 3) := by decide +kernel
theorem dX9_weave_10 : decode cX9_weave 10 = .ok (.aload_n 0, 1) := by decide +kernel
theorem dX9_weave_11 : decode cX9_weave 11 = .ok (.iconst 0, 1) := by decide +kernel
theorem dX9_weave_12 : decode cX9_weave 12 = .ok (.putfield 16, 3) := by decide +kernel
theorem dX9_weave_15 : decode cX9_weave 15 = .ok (.aload_n 0, 1) := by decide +kernel
theorem dX9_weave_16 : decode cX9_weave 16 = .ok (.iconst 0, 1) := by decide +kernel
theorem dX9_weave_17 : decode cX9_weave 17 = .ok (.putfield 19, 3) := by decide +kernel
theorem dX9_weave_20 : decode cX9_weave 20 = .ok (.aload_n 0, 1) := by decide +kernel
theorem dX9_weave_21 : decode cX9_weave 21 = .ok (.iconst 0, 1) := by decide +kernel
theorem dX9_weave_22 : decode cX9_weave 22 = .ok (.putfield 22, 3) := by decide +kernel
theorem dX9_weave_25 : decode cX9_weave 25 = .ok (.iconst 0, 1) := by decide +kernel
theorem dX9_weave_26 : decode cX9_weave 26 = .ok (.istore_n 3, 1) := by decide +kernel
theorem dX9_weave_27 : decode cX9_weave 27 = .ok (.iconst 0, 1) := by decide +kernel
theorem dX9_weave_28 : decode cX9_weave 28 = .ok (.istore 4, 2) := by decide +kernel
theorem dX9_weave_30 : decode cX9_weave 30 = .ok (.iconst 0, 1) := by decide +kernel
theorem dX9_weave_31 : decode cX9_weave 31 = .ok (.istore 5, 2) := by decide +kernel
theorem dX9_weave_33 : decode cX9_weave 33 = .ok (.iconst 1, 1) := by decide +kernel
theorem dX9_weave_34 : decode cX9_weave 34 = .ok (.istore 6, 2) := by decide +kernel
theorem dX9_weave_36 : decode cX9_weave 36 = .ok (.aload_n 1, 1) := by decide +kernel
theorem dX9_weave_37 : decode cX9_weave 37 = .ok (.getfield 25, 3) := by decide +kernel
theorem dX9_weave_40 : decode cX9_weave 40 = .ok (.aload_n 2, 1) := by decide +kernel
theorem dX9_weave_41 : decode cX9_weave 41 = .ok (.getfield 25, 3) := by decide +kernel
theorem dX9_weave_44 : decode cX9_weave 44 = .ok (.iadd, 1) := by decide +kernel
theorem dX9_weave_45 : decode cX9_weave 45 = .ok (.istore 7, 2) := by decide +kernel
theorem dX9_weave_47 : decode cX9_weave 47 = .ok (.iload 7, 2) := by decide +kernel
theorem dX9_weave_49 : decode cX9_weave 49 = .ok (.ifCond .le 158, 3) := by decide +kernel
theorem dX9_weave_52 : decode cX9_weave 52 = .ok (.iload_n 3, 1) := by decide +kernel
theorem dX9_weave_53 : decode cX9_weave 53 = .ok (.aload_n 1, 1) := by decide +kernel
theorem dX9_weave_54 : decode cX9_weave 54 = .ok (.getfield 25, 3) := by decide +kernel
theorem dX9_weave_57 : decode cX9_weave 57 = .ok (.if_icmp .lt 7, 3) := by decide +kernel
theorem dX9_weave_60 : decode cX9_weave 60 = .ok (.iconst 1, 1) := by decide +kernel
theorem dX9_weave_61 : decode cX9_weave 61 = .ok (.goto 30, 3) := by decide +kernel
theorem dX9_weave_64 : decode cX9_weave 64 = .ok (.iload 4, 2) := by decide +kernel
theorem dX9_weave_66 : decode cX9_weave 66 = .ok (.aload_n 2, 1) := by decide +kernel
theorem dX9_weave_67 : decode cX9_weave 67 = .ok (.getfield 25, 3) := by decide +kernel
theorem dX9_weave_70 : decode cX9_weave 70 = .ok (.if_icmp .lt 7, 3) := by decide +kernel
theorem dX9_weave_73 : decode cX9_weave 73 = .ok (.iconst (-1), 1) := by decide +kernel
theorem dX9_weave_74 : decode cX9_weave 74 = .ok (.goto 17, 3) := by decide +kernel
theorem dX9_weave_77 : decode cX9_weave 77 = .ok (.aload_n 1, 1) := by decide +kernel
theorem dX9_weave_78 : decode cX9_weave 78 = .ok (.iload_n 3, 1) := by decide +kernel
theorem dX9_weave_79 : decode cX9_weave 79 = .ok (.invokevirtual 30, 3) := by decide +kernel
theorem dX9_weave_82 : decode cX9_weave 82 = .ok (.aload_n 2, 1) := by decide +kernel
theorem dX9_weave_83 : decode cX9_weave 83 = .ok (.iload 4, 2) := by decide +kernel
theorem dX9_weave_85 : decode cX9_weave 85 = .ok (.invokevirtual 30, 3) := by decide +kernel
theorem dX9_weave_88 : decode cX9_weave 88 = .ok (.invokestatic 34, 3) := by decide +kernel
theorem dX9_weave_91 : decode cX9_weave 91 = .ok (.istore 8, 2) := by decide +kernel
theorem dX9_weave_93 : decode cX9_weave 93 = .ok (.iload 6, 2) := by decide +kernel
theorem dX9_weave_95 : decode cX9_weave 95 = .ok (.iload 8, 2) := by decide +kernel
theorem dX9_weave_97 : decode cX9_weave 97 = .ok (.ifCond .gt 7, 3) := by decide +kernel
theorem dX9_weave_100 : decode cX9_weave 100 = .ok (.iconst 1, 1) := by decide +kernel
theorem dX9_weave_101 : decode cX9_weave 101 = .ok (.goto 4, 3) := by decide +kernel
theorem dX9_weave_104 : decode cX9_weave 104 = .ok (.iconst 0, 1) := by decide +kernel
theorem dX9_weave_105 : decode cX9_weave 105 = .ok (.if_icmp .eq 24, 3) := by decide +kernel
theorem dX9_weave_108 : decode cX9_weave 108 = .ok (.aload_n 0, 1) := by decide +kernel
theorem dX9_weave_109 : decode cX9_weave 109 = .ok (.iload 5, 2) := by decide +kernel
theorem dX9_weave_111 : decode cX9_weave 111 = .ok (.invokevirtual 40, 3) := by decide +kernel
theorem dX9_weave_114 : decode cX9_weave 114 = .ok (.iconst 0, 1) := by decide +kernel
theorem dX9_weave_115 : decode cX9_weave 115 = .ok (.istore 5, 2) := by decide +kernel
theorem dX9_weave_117 : decode cX9_weave 117 = .ok (.iload 8, 2) := by decide +kernel
theorem dX9_weave_119 : decode cX9_weave 119 = .ok (.ifCond .gt 7, 3) := by decide +kernel
theorem dX9_weave_122 : decode cX9_weave 122 = .ok (.iconst 1, 1) := by decide +kernel
theorem dX9_weave_123 : decode cX9_weave 123 = .ok (.goto 4, 3) := by decide +kernel
theorem dX9_weave_126 : decode cX9_weave 126 = .ok (.iconst 0, 1) := by decide +kernel
theorem dX9_weave_127 : decode cX9_weave 127 = .ok (.istore 6, 2) := by decide +kernel
theorem dX9_weave_129 : decode cX9_weave 129 = .ok (.iinc 5 1, 3) := by decide +kernel
theorem dX9_weave_132 : decode cX9_weave 132 = .ok (.aload_n 0, 1) := by decide +kernel
theorem dX9_weave_133 : decode cX9_weave 133 = .ok (.dup, 1) := by decide +kernel
theorem dX9_weave_134 : decode cX9_weave 134 = .ok (.getfield 22, 3) := by decide +kernel
theorem dX9_weave_137 : decode cX9_weave 137 = .ok (.iconst 1, 1) := by decide +kernel
theorem dX9_weave_138 : decode cX9_weave 138 = .ok (.iadd, 1) := by decide +kernel
theorem dX9_weave_139 : decode cX9_weave 139 = .ok (.putfield 22, 3) := by decide +kernel
theorem dX9_weave_142 : decode cX9_weave 142 = .ok (.aload_n 0, 1) := by decide +kernel
theorem dX9_weave_143 : decode cX9_weave 143 = .ok (.dup, 1) := by decide +kernel
theorem dX9_weave_144 : decode cX9_weave 144 = .ok (.getfield 13, 3) := by decide +kernel
theorem dX9_weave_147 : decode cX9_weave 147 = .ok (.iload 8, 2) := by decide +kernel
theorem dX9_weave_149 : decode cX9_weave 149 = .ok (.ifCond .ne 7, 3) := by decide +kernel
theorem dX9_weave_152 : decode cX9_weave 152 = .ok (.iconst 1, 1) := by decide +kernel
theorem dX9_weave_153 : decode cX9_weave 153 = .ok (.goto 4, 3) := by decide +kernel
theorem dX9_weave_156 : decode cX9_weave 156 = .ok (.iconst 0, 1) := by decide +kernel
theorem dX9_weave_157 : decode cX9_weave 157 = .ok (.iadd, 1) := by decide +kernel
theorem dX9_weave_158 : decode cX9_weave 158 = .ok (.putfield 13, 3) := by decide +kernel
theorem dX9_weave_161 : decode cX9_weave 161 = .ok (.iload_n 3, 1) := by decide +kernel
theorem dX9_weave_162 : decode cX9_weave 162 = .ok (.iload 8, 2) := by decide +kernel
theorem dX9_weave_164 : decode cX9_weave 164 = .ok (.ifCond .gt 7, 3) := by decide +kernel
theorem dX9_weave_167 : decode cX9_weave 167 = .ok (.iconst 1, 1) := by decide +kernel
theorem dX9_weave_168 : decode cX9_weave 168 = .ok (.goto 4, 3) := by decide +kernel
theorem dX9_weave_171 : decode cX9_weave 171 = .ok (.iconst 0, 1) := by decide +kernel
theorem dX9_weave_172 : decode cX9_weave 172 = .ok (.iadd, 1) := by decide +kernel
theorem dX9_weave_173 : decode cX9_weave 173 = .ok (.istore_n 3, 1) := by decide +kernel
theorem dX9_weave_174 : decode cX9_weave 174 = .ok (.iload 4, 2) := by decide +kernel
theorem dX9_weave_176 : decode cX9_weave 176 = .ok (.iload 8, 2) := by decide +kernel
theorem dX9_weave_178 : decode cX9_weave 178 = .ok (.ifCond .lt 7, 3) := by decide +kernel
theorem dX9_weave_181 : decode cX9_weave 181 = .ok (.iconst 1, 1) := by decide +kernel
theorem dX9_weave_182 : decode cX9_weave 182 = .ok (.goto 4, 3) := by decide +kernel
theorem dX9_weave_185 : decode cX9_weave 185 = .ok (.iconst 0, 1) := by decide +kernel
theorem dX9_weave_186 : decode cX9_weave 186 = .ok (.iadd, 1) := by decide +kernel
theorem dX9_weave_187 : decode cX9_weave 187 = .ok (.istore 4, 2) := by decide +kernel
theorem dX9_weave_189 : decode cX9_weave 189 = .ok (.iload 7, 2) := by decide +kernel
theorem dX9_weave_191 : decode cX9_weave 191 = .ok (.iload 8, 2) := by decide +kernel
theorem dX9_weave_193 : decode cX9_weave 193 = .ok (.ifCond .ne 7, 3) := by decide +kernel
theorem dX9_weave_196 : decode cX9_weave 196 = .ok (.iconst 2, 1) := by decide +kernel
theorem dX9_weave_197 : decode cX9_weave 197 = .ok (.goto 4, 3) := by decide +kernel
theorem dX9_weave_200 : decode cX9_weave 200 = .ok (.iconst 1, 1) := by decide +kernel
theorem dX9_weave_201 : decode cX9_weave 201 = .ok (.isub, 1) := by decide +kernel
theorem dX9_weave_202 : decode cX9_weave 202 = .ok (.istore 7, 2) := by decide +kernel
theorem dX9_weave_204 : decode cX9_weave 204 = .ok (.goto (-157), 3) := by decide +kernel
theorem dX9_weave_207 : decode cX9_weave 207 = .ok (.aload_n 0, 1) := by decide +kernel
theorem dX9_weave_208 : decode cX9_weave 208 = .ok (.iload 5, 2) := by decide +kernel
theorem dX9_weave_210 : decode cX9_weave 210 = .ok (.invokevirtual 40, 3) := by decide +kernel
theorem dX9_weave_213 : decode cX9_weave 213 = .ok (.return_, 1) := by decide +kernel
theorem dX9_endRun_0 : decode cX9_endRun 0 = .ok (.iload_n 1, 1) := by decide +kernel
theorem dX9_endRun_1 : decode cX9_endRun 1 = .ok (.iconst 1, 1) := by decide +kernel
theorem dX9_endRun_2 : decode cX9_endRun 2 = .ok (.if_icmp .ge 4, 3) := by decide +kernel
theorem dX9_endRun_5 : decode cX9_endRun 5 = .ok (.return_, 1) := by decide +kernel
theorem dX9_endRun_6 : decode cX9_endRun 6 = .ok (.aload_n 0, 1) := by decide +kernel
theorem dX9_endRun_7 : decode cX9_endRun 7 = .ok (.dup, 1) := by decide +kernel
theorem dX9_endRun_8 : decode cX9_endRun 8 = .ok (.getfield 7, 3) := by decide +kernel
theorem dX9_endRun_11 : decode cX9_endRun 11 = .ok (.iconst 1, 1) := by decide +kernel
theorem dX9_endRun_12 : decode cX9_endRun 12 = .ok (.iadd, 1) := by decide +kernel
theorem dX9_endRun_13 : decode cX9_endRun 13 = .ok (.putfield 7, 3) := by decide +kernel
theorem dX9_endRun_16 : decode cX9_endRun 16 = .ok (.aload_n 0, 1) := by decide +kernel
theorem dX9_endRun_17 : decode cX9_endRun 17 = .ok (.aload_n 0, 1) := by decide +kernel
theorem dX9_endRun_18 : decode cX9_endRun 18 = .ok (.getfield 19, 3) := by decide +kernel
theorem dX9_endRun_21 : decode cX9_endRun 21 = .ok (.iload_n 1, 1) := by decide +kernel
theorem dX9_endRun_22 : decode cX9_endRun 22 = .ok (.invokestatic 44, 3) := by decide +kernel
theorem dX9_endRun_25 : decode cX9_endRun 25 = .ok (.putfield 19, 3) := by decide +kernel
theorem dX9_endRun_28 : decode cX9_endRun 28 = .ok (.aload_n 0, 1) := by decide +kernel
theorem dX9_endRun_29 : decode cX9_endRun 29 = .ok (.dup, 1) := by decide +kernel
theorem dX9_endRun_30 : decode cX9_endRun 30 = .ok (.getfield 16, 3) := by decide +kernel
theorem dX9_endRun_33 : decode cX9_endRun 33 = .ok (.iconst 1, 1) := by decide +kernel
theorem dX9_endRun_34 : decode cX9_endRun 34 = .ok (.iadd, 1) := by decide +kernel
theorem dX9_endRun_35 : decode cX9_endRun 35 = .ok (.putfield 16, 3) := by decide +kernel
theorem dX9_endRun_38 : decode cX9_endRun 38 = .ok (.iload_n 1, 1) := by decide +kernel
theorem dX9_endRun_39 : decode cX9_endRun 39 = .ok (.istore_n 2, 1) := by decide +kernel
theorem dX9_endRun_40 : decode cX9_endRun 40 = .ok (.iload_n 2, 1) := by decide +kernel
theorem dX9_endRun_41 : decode cX9_endRun 41 = .ok (.iconst 1, 1) := by decide +kernel
theorem dX9_endRun_42 : decode cX9_endRun 42 = .ok (.if_icmp .le 20, 3) := by decide +kernel
theorem dX9_endRun_45 : decode cX9_endRun 45 = .ok (.aload_n 0, 1) := by decide +kernel
theorem dX9_endRun_46 : decode cX9_endRun 46 = .ok (.dup, 1) := by decide +kernel
theorem dX9_endRun_47 : decode cX9_endRun 47 = .ok (.getfield 16, 3) := by decide +kernel
theorem dX9_endRun_50 : decode cX9_endRun 50 = .ok (.iconst 1, 1) := by decide +kernel
theorem dX9_endRun_51 : decode cX9_endRun 51 = .ok (.iadd, 1) := by decide +kernel
theorem dX9_endRun_52 : decode cX9_endRun 52 = .ok (.putfield 16, 3) := by decide +kernel
theorem dX9_endRun_55 : decode cX9_endRun 55 = .ok (.iload_n 2, 1) := by decide +kernel
theorem dX9_endRun_56 : decode cX9_endRun 56 = .ok (.iconst 1, 1) := by decide +kernel
theorem dX9_endRun_57 : decode cX9_endRun 57 = .ok (.ishr, 1) := by decide +kernel
theorem dX9_endRun_58 : decode cX9_endRun 58 = .ok (.istore_n 2, 1) := by decide +kernel
theorem dX9_endRun_59 : decode cX9_endRun 59 = .ok (.goto (-19), 3) := by decide +kernel
theorem dX9_endRun_62 : decode cX9_endRun 62 = .ok (.return_, 1) := by decide +kernel
theorem dX10_init_0 : decode cX10_init 0 = .ok (.aload_n 0, 1) := by decide +kernel
theorem dX10_init_1 : decode cX10_init 1 = .ok (.invokespecial 1, 3) := by decide +kernel
theorem dX10_init_4 : decode cX10_init 4 = .ok (.aload_n 0, 1) := by decide +kernel
theorem dX10_init_5 : decode cX10_init 5 = .ok (.new 7, 3) := by decide +kernel
theorem dX10_init_8 : decode cX10_init 8 = .ok (.dup, 1) := by decide +kernel
theorem dX10_init_9 : decode cX10_init 9 = .ok (.invokespecial 9, 3) := by decide +kernel
theorem dX10_init_12 : decode cX10_init 12 = .ok (.putfield 10, 3) := by decide +kernel
theorem dX10_init_15 : decode cX10_init 15 = .ok (.aload_n 0, 1) := by decide +kernel
theorem dX10_init_16 : decode cX10_init 16 = .ok (.new 16, 3) := by decide +kernel
theorem dX10_init_19 : decode cX10_init 19 = .ok (.dup, 1) := by decide +kernel
theorem dX10_init_20 : decode cX10_init 20 = .ok (.invokespecial 18, 3) := by decide +kernel
theorem dX10_init_23 : decode cX10_init 23 = .ok (.putfield 19, 3) := by decide +kernel
theorem dX10_init_26 : decode cX10_init 26 = .ok (.aload_n 0, 1) := by decide +kernel
theorem dX10_init_27 : decode cX10_init 27 = .ok (.new 23, 3) := by decide +kernel
theorem dX10_init_30 : decode cX10_init 30 = .ok (.dup, 1) := by decide +kernel
theorem dX10_init_31 : decode cX10_init 31 = .ok (.sipush 800, 3) := by decide +kernel
theorem dX10_init_34 : decode cX10_init 34 = .ok (.newarray .byte, 2) := by decide +kernel
theorem dX10_init_36 : decode cX10_init 36 = .ok (.invokespecial 25, 3) := by decide +kernel
theorem dX10_init_39 : decode cX10_init 39 = .ok (.putfield 28, 3) := by decide +kernel
theorem dX10_init_42 : decode cX10_init 42 = .ok (.aload_n 0, 1) := by decide +kernel
theorem dX10_init_43 : decode cX10_init 43 = .ok (.new 23, 3) := by decide +kernel
theorem dX10_init_46 : decode cX10_init 46 = .ok (.dup, 1) := by decide +kernel
theorem dX10_init_47 : decode cX10_init 47 = .ok (.sipush 360, 3) := by decide +kernel
theorem dX10_init_50 : decode cX10_init 50 = .ok (.newarray .byte, 2) := by decide +kernel
theorem dX10_init_52 : decode cX10_init 52 = .ok (.invokespecial 25, 3) := by decide +kernel
theorem dX10_init_55 : decode cX10_init 55 = .ok (.putfield 32, 3) := by decide +kernel
theorem dX10_init_58 : decode cX10_init 58 = .ok (.aload_n 0, 1) := by decide +kernel
theorem dX10_init_59 : decode cX10_init 59 = .ok (.new 35, 3) := by decide +kernel
theorem dX10_init_62 : decode cX10_init 62 = .ok (.dup, 1) := by decide +kernel
theorem dX10_init_63 : decode cX10_init 63 = .ok (.aload_n 0, 1) := by decide +kernel
theorem dX10_init_64 : decode cX10_init 64 = .ok (.getfield 28, 3) := by decide +kernel
theorem dX10_init_67 : decode cX10_init 67 = .ok (.aload_n 0, 1) := by decide +kernel
theorem dX10_init_68 : decode cX10_init 68 = .ok (.getfield 10, 3) := by decide +kernel
theorem dX10_init_71 : decode cX10_init 71 = .ok (.invokespecial 37, 3) := by decide +kernel
theorem dX10_init_74 : decode cX10_init 74 = .ok (.putfield 40, 3) := by decide +kernel
theorem dX10_init_77 : decode cX10_init 77 = .ok (.aload_n 0, 1) := by decide +kernel
theorem dX10_init_78 : decode cX10_init 78 = .ok (.new 44, 3) := by decide +kernel
theorem dX10_init_81 : decode cX10_init 81 = .ok (.dup, 1) := by decide +kernel
theorem dX10_init_82 : decode cX10_init 82 = .ok (.invokespecial 46, 3) := by decide +kernel
theorem dX10_init_85 : decode cX10_init 85 = .ok (.putfield 47, 3) := by decide +kernel
theorem dX10_init_88 : decode cX10_init 88 = .ok (.aload_n 0, 1) := by decide +kernel
theorem dX10_init_89 : decode cX10_init 89 = .ok (.iconst 3, 1) := by decide +kernel
theorem dX10_init_90 : decode cX10_init 90 = .ok (.anewarray 51, 3) := by decide +kernel
theorem dX10_init_93 : decode cX10_init 93 = .ok (.putfield 53, 3) := by decide +kernel
theorem dX10_init_96 : decode cX10_init 96 = .ok (.iconst 0, 1) := by decide +kernel
theorem dX10_init_97 : decode cX10_init 97 = .ok (.istore_n 1, 1) := by decide +kernel
theorem dX10_init_98 : decode cX10_init 98 = .ok (.iload_n 1, 1) := by decide +kernel
theorem dX10_init_99 : decode cX10_init 99 = .ok (.iconst 3, 1) := by decide +kernel
theorem dX10_init_100 : decode cX10_init 100 = .ok (.if_icmp .ge 22, 3) := by decide +kernel
theorem dX10_init_103 : decode cX10_init 103 = .ok (.aload_n 0, 1) := by decide +kernel
theorem dX10_init_104 : decode cX10_init 104 = .ok (.getfield 53, 3) := by decide +kernel
theorem dX10_init_107 : decode cX10_init 107 = .ok (.iload_n 1, 1) := by decide +kernel
theorem dX10_init_108 : decode cX10_init 108 = .ok (.new 51, 3) := by decide +kernel
theorem dX10_init_111 : decode cX10_init 111 = .ok (.dup, 1) := by decide +kernel
theorem dX10_init_112 : decode cX10_init 112 = .ok (.invokespecial 57, 3) := by decide +kernel
theorem dX10_init_115 : decode cX10_init 115 = .ok (.aastore, 1) := by decide +kernel
theorem dX10_init_116 : decode cX10_init 116 = .ok (.iinc 1 1, 3) := by decide +kernel
theorem dX10_init_119 : decode cX10_init 119 = .ok (.goto (-21), 3) := by decide +kernel
theorem dX10_init_122 : decode cX10_init 122 = .ok (.aload_n 0, 1) := by decide +kernel
theorem dX10_init_123 : decode cX10_init 123 = .ok (.iconst 0, 1) := by decide +kernel
theorem dX10_init_124 : decode cX10_init 124 = .ok (.putfield 58, 3) := by decide +kernel
theorem dX10_init_127 : decode cX10_init 127 = .ok (.aload_n 0, 1) := by decide +kernel
theorem dX10_init_128 : decode cX10_init 128 = .ok (.iconst (-1), 1) := by decide +kernel
theorem dX10_init_129 : decode cX10_init 129 = .ok (.putfield 62, 3) := by decide +kernel
theorem dX10_init_132 : decode cX10_init 132 = .ok (.return_, 1) := by decide +kernel
theorem dX10_feed_0 : decode cX10_feed 0 = .ok (.aload_n 0, 1) := by decide +kernel
theorem dX10_feed_1 : decode cX10_feed 1 = .ok (.getfield 28, 3) := by decide +kernel
theorem dX10_feed_4 : decode cX10_feed 4 = .ok (.getfield 65, 3) := by decide +kernel
theorem dX10_feed_7 : decode cX10_feed 7 = .ok (.sipush 780, 3) := by decide +kernel
theorem dX10_feed_10 : decode cX10_feed 10 = .ok (.if_icmp .le 5, 3) := by decide +kernel
theorem dX10_feed_13 : decode cX10_feed 13 = .ok (.iconst (-1), 1) := by decide +kernel
theorem dX10_feed_14 : decode cX10_feed 14 = .ok (.ireturn, 1) := by decide +kernel
theorem dX10_feed_15 : decode cX10_feed 15 = .ok (.aload_n 0, 1) := by decide +kernel
theorem dX10_feed_16 : decode cX10_feed 16 = .ok (.getfield 28, 3) := by decide +kernel
theorem dX10_feed_19 : decode cX10_feed 19 = .ok (.iload_n 1, 1) := by decide +kernel
theorem dX10_feed_20 : decode cX10_feed 20 = .ok (.invokevirtual 68, 3) := by decide +kernel
theorem dX10_feed_23 : decode cX10_feed 23 = .ok (.aload_n 0, 1) := by decide +kernel
theorem dX10_feed_24 : decode cX10_feed 24 = .ok (.getfield 28, 3) := by decide +kernel
theorem dX10_feed_27 : decode cX10_feed 27 = .ok (.iload_n 2, 1) := by decide +kernel
theorem dX10_feed_28 : decode cX10_feed 28 = .ok (.invokevirtual 68, 3) := by decide +kernel
theorem dX10_feed_31 : decode cX10_feed 31 = .ok (.aload_n 0, 1) := by decide +kernel
theorem dX10_feed_32 : decode cX10_feed 32 = .ok (.getfield 28, 3) := by decide +kernel
theorem dX10_feed_35 : decode cX10_feed 35 = .ok (.iload_n 3, 1) := by decide +kernel
theorem dX10_feed_36 : decode cX10_feed 36 = .ok (.invokevirtual 68, 3) := by decide +kernel
theorem dX10_feed_39 : decode cX10_feed 39 = .ok (.aload_n 0, 1) := by decide +kernel
theorem dX10_feed_40 : decode cX10_feed 40 = .ok (.getfield 28, 3) := by decide +kernel
theorem dX10_feed_43 : decode cX10_feed 43 = .ok (.iload 4, 2) := by decide +kernel
theorem dX10_feed_45 : decode cX10_feed 45 = .ok (.invokevirtual 68, 3) := by decide +kernel
theorem dX10_feed_48 : decode cX10_feed 48 = .ok (.aload_n 0, 1) := by decide +kernel
theorem dX10_feed_49 : decode cX10_feed 49 = .ok (.getfield 28, 3) := by decide +kernel
theorem dX10_feed_52 : decode cX10_feed 52 = .ok (.iload 5, 2) := by decide +kernel
theorem dX10_feed_54 : decode cX10_feed 54 = .ok (.invokevirtual 68, 3) := by decide +kernel
theorem dX10_feed_57 : decode cX10_feed 57 = .ok (.aload_n 0, 1) := by decide +kernel
theorem dX10_feed_58 : decode cX10_feed 58 = .ok (.getfield 28, 3) := by decide +kernel
theorem dX10_feed_61 : decode cX10_feed 61 = .ok (.getfield 65, 3) := by decide +kernel
theorem dX10_feed_64 : decode cX10_feed 64 = .ok (.ireturn, 1) := by decide +kernel
theorem dX10_end_0 : decode cX10_end 0 = .ok (.iload_n 1, 1) := by decide +kernel
theorem dX10_end_1 : decode cX10_end 1 = .ok (.ifCond .lt 14, 3) := by decide +kernel
theorem dX10_end_4 : decode cX10_end 4 = .ok (.iload_n 1, 1) := by decide +kernel
theorem dX10_end_5 : decode cX10_end 5 = .ok (.aload_n 0, 1) := by decide +kernel
theorem dX10_end_6 : decode cX10_end 6 = .ok (.getfield 28, 3) := by decide +kernel
theorem dX10_end_9 : decode cX10_end 9 = .ok (.getfield 65, 3) := by decide +kernel
theorem dX10_end_12 : decode cX10_end 12 = .ok (.if_icmp .le 5, 3) := by decide +kernel
theorem dX10_end_15 : decode cX10_end 15 = .ok (.iconst (-1), 1) := by decide +kernel
theorem dX10_end_16 : decode cX10_end 16 = .ok (.ireturn, 1) := by decide +kernel
theorem dX10_end_17 : decode cX10_end 17 = .ok (.aload_n 0, 1) := by decide +kernel
theorem dX10_end_18 : decode cX10_end 18 = .ok (.getfield 28, 3) := by decide +kernel
theorem dX10_end_21 : decode cX10_end 21 = .ok (.iload_n 1, 1) := by decide +kernel
theorem dX10_end_22 : decode cX10_end 22 = .ok (.putfield 65, 3) := by decide +kernel
theorem dX10_end_25 : decode cX10_end 25 = .ok (.iload_n 1, 1) := by decide +kernel
theorem dX10_end_26 : decode cX10_end 26 = .ok (.ireturn, 1) := by decide +kernel
theorem dX10_text_0 : decode cX10_text 0 = .ok (.aload_n 0, 1) := by decide +kernel
theorem dX10_text_1 : decode cX10_text 1 = .ok (.getfield 47, 3) := by decide +kernel
theorem dX10_text_4 : decode cX10_text 4 = .ok (.aload_n 0, 1) := by decide +kernel
theorem dX10_text_5 : decode cX10_text 5 = .ok (.getfield 10, 3) := by decide +kernel
theorem dX10_text_8 : decode cX10_text 8 = .ok (.invokevirtual 72, 3) := by decide +kernel
theorem dX10_text_11 : decode cX10_text 11 = .ok (.aload_n 0, 1) := by decide +kernel
theorem dX10_text_12 : decode cX10_text 12 = .ok (.getfield 10, 3) := by decide +kernel
theorem dX10_text_15 : decode cX10_text 15 = .ok (.invokevirtual 76, 3) := by decide +kernel
theorem dX10_text_18 : decode cX10_text 18 = .ok (.aload_n 0, 1) := by decide +kernel
theorem dX10_text_19 : decode cX10_text 19 = .ok (.getfield 40, 3) := by decide +kernel
theorem dX10_text_22 : decode cX10_text 22 = .ok (.invokevirtual 79, 3) := by decide +kernel
theorem dX10_text_25 : decode cX10_text 25 = .ok (.aload_n 0, 1) := by decide +kernel
theorem dX10_text_26 : decode cX10_text 26 = .ok (.getfield 28, 3) := by decide +kernel
theorem dX10_text_29 : decode cX10_text 29 = .ok (.iconst 0, 1) := by decide +kernel
theorem dX10_text_30 : decode cX10_text 30 = .ok (.putfield 65, 3) := by decide +kernel
theorem dX10_text_33 : decode cX10_text 33 = .ok (.aload_n 0, 1) := by decide +kernel
theorem dX10_text_34 : decode cX10_text 34 = .ok (.aload_n 0, 1) := by decide +kernel
theorem dX10_text_35 : decode cX10_text 35 = .ok (.getfield 40, 3) := by decide +kernel
theorem dX10_text_38 : decode cX10_text 38 = .ok (.getfield 82, 3) := by decide +kernel
theorem dX10_text_41 : decode cX10_text 41 = .ok (.putfield 58, 3) := by decide +kernel
theorem dX10_text_44 : decode cX10_text 44 = .ok (.aload_n 0, 1) := by decide +kernel
theorem dX10_text_45 : decode cX10_text 45 = .ok (.aload_n 0, 1) := by decide +kernel
theorem dX10_text_46 : decode cX10_text 46 = .ok (.getfield 40, 3) := by decide +kernel
theorem dX10_text_49 : decode cX10_text 49 = .ok (.getfield 83, 3) := by decide +kernel
theorem dX10_text_52 : decode cX10_text 52 = .ok (.putfield 62, 3) := by decide +kernel
theorem dX10_text_55 : decode cX10_text 55 = .ok (.aload_n 0, 1) := by decide +kernel
theorem dX10_text_56 : decode cX10_text 56 = .ok (.getfield 58, 3) := by decide +kernel
theorem dX10_text_59 : decode cX10_text 59 = .ok (.ifCond .eq 16, 3) := by decide +kernel
theorem dX10_text_62 : decode cX10_text 62 = .ok (.aload_n 0, 1) := by decide +kernel
theorem dX10_text_63 : decode cX10_text 63 = .ok (.getfield 47, 3) := by decide +kernel
theorem dX10_text_66 : decode cX10_text 66 = .ok (.aload_n 0, 1) := by decide +kernel
theorem dX10_text_67 : decode cX10_text 67 = .ok (.getfield 10, 3) := by decide +kernel
theorem dX10_text_70 : decode cX10_text 70 = .ok (.invokevirtual 84, 3) := by decide +kernel
theorem dX10_text_73 : decode cX10_text 73 = .ok (.iconst (-1), 1) := by decide +kernel
theorem dX10_text_74 : decode cX10_text 74 = .ok (.ireturn, 1) := by decide +kernel
theorem dX10_text_75 : decode cX10_text 75 = .ok (.aload_n 0, 1) := by decide +kernel
theorem dX10_text_76 : decode cX10_text 76 = .ok (.getfield 19, 3) := by decide +kernel
theorem dX10_text_79 : decode cX10_text 79 = .ok (.invokevirtual 87, 3) := by decide +kernel
theorem dX10_text_82 : decode cX10_text 82 = .ok (.aload_n 0, 1) := by decide +kernel
theorem dX10_text_83 : decode cX10_text 83 = .ok (.getfield 10, 3) := by decide +kernel
theorem dX10_text_86 : decode cX10_text 86 = .ok (.invokevirtual 90, 3) := by decide +kernel
theorem dX10_text_89 : decode cX10_text 89 = .ok (.ireturn, 1) := by decide +kernel
theorem dX10_fault_0 : decode cX10_fault 0 = .ok (.iload_n 1, 1) := by decide +kernel
theorem dX10_fault_1 : decode cX10_fault 1 = .ok (.lookupswitch 37 #[(0, 27), (1, 32)], 27) := by decide +kernel
theorem dX10_fault_28 : decode cX10_fault 28 = .ok (.aload_n 0, 1) := by decide +kernel
theorem dX10_fault_29 : decode cX10_fault 29 = .ok (.getfield 58, 3) := by decide +kernel
theorem dX10_fault_32 : decode cX10_fault 32 = .ok (.ireturn, 1) := by decide +kernel
theorem dX10_fault_33 : decode cX10_fault 33 = .ok (.aload_n 0, 1) := by decide +kernel
theorem dX10_fault_34 : decode cX10_fault 34 = .ok (.getfield 62, 3) := by decide +kernel
theorem dX10_fault_37 : decode cX10_fault 37 = .ok (.ireturn, 1) := by decide +kernel
theorem dX10_fault_38 : decode cX10_fault 38 = .ok (.iconst (-1), 1) := by decide +kernel
theorem dX10_fault_39 : decode cX10_fault 39 = .ok (.ireturn, 1) := by decide +kernel
theorem dX10_put_0 : decode cX10_put 0 = .ok (.aload_n 0, 1) := by decide +kernel
theorem dX10_put_1 : decode cX10_put 1 = .ok (.getfield 19, 3) := by decide +kernel
theorem dX10_put_4 : decode cX10_put 4 = .ok (.aload_n 0, 1) := by decide +kernel
theorem dX10_put_5 : decode cX10_put 5 = .ok (.getfield 10, 3) := by decide +kernel
theorem dX10_put_8 : decode cX10_put 8 = .ok (.invokevirtual 94, 3) := by decide +kernel
theorem dX10_put_11 : decode cX10_put 11 = .ok (.aload_n 0, 1) := by decide +kernel
theorem dX10_put_12 : decode cX10_put 12 = .ok (.getfield 19, 3) := by decide +kernel
theorem dX10_put_15 : decode cX10_put 15 = .ok (.aload_n 0, 1) := by decide +kernel
theorem dX10_put_16 : decode cX10_put 16 = .ok (.getfield 10, 3) := by decide +kernel
theorem dX10_put_19 : decode cX10_put 19 = .ok (.iload_n 1, 1) := by decide +kernel
theorem dX10_put_20 : decode cX10_put 20 = .ok (.iload_n 2, 1) := by decide +kernel
theorem dX10_put_21 : decode cX10_put 21 = .ok (.invokevirtual 97, 3) := by decide +kernel
theorem dX10_put_24 : decode cX10_put 24 = .ok (.invokevirtual 101, 3) := by decide +kernel
theorem dX10_put_27 : decode cX10_put 27 = .ok (.ireturn, 1) := by decide +kernel
theorem dX10_drop_0 : decode cX10_drop 0 = .ok (.aload_n 0, 1) := by decide +kernel
theorem dX10_drop_1 : decode cX10_drop 1 = .ok (.getfield 19, 3) := by decide +kernel
theorem dX10_drop_4 : decode cX10_drop 4 = .ok (.aload_n 0, 1) := by decide +kernel
theorem dX10_drop_5 : decode cX10_drop 5 = .ok (.getfield 10, 3) := by decide +kernel
theorem dX10_drop_8 : decode cX10_drop 8 = .ok (.invokevirtual 94, 3) := by decide +kernel
theorem dX10_drop_11 : decode cX10_drop 11 = .ok (.aload_n 0, 1) := by decide +kernel
theorem dX10_drop_12 : decode cX10_drop 12 = .ok (.getfield 19, 3) := by decide +kernel
theorem dX10_drop_15 : decode cX10_drop 15 = .ok (.aload_n 0, 1) := by decide +kernel
theorem dX10_drop_16 : decode cX10_drop 16 = .ok (.getfield 10, 3) := by decide +kernel
theorem dX10_drop_19 : decode cX10_drop 19 = .ok (.iload_n 1, 1) := by decide +kernel
theorem dX10_drop_20 : decode cX10_drop 20 = .ok (.iload_n 2, 1) := by decide +kernel
theorem dX10_drop_21 : decode cX10_drop 21 = .ok (.invokevirtual 105, 3) := by decide +kernel
theorem dX10_drop_24 : decode cX10_drop 24 = .ok (.invokevirtual 101, 3) := by decide +kernel
theorem dX10_drop_27 : decode cX10_drop 27 = .ok (.ireturn, 1) := by decide +kernel
theorem dX10_cut_0 : decode cX10_cut 0 = .ok (.aload_n 0, 1) := by decide +kernel
theorem dX10_cut_1 : decode cX10_cut 1 = .ok (.getfield 19, 3) := by decide +kernel
theorem dX10_cut_4 : decode cX10_cut 4 = .ok (.aload_n 0, 1) := by decide +kernel
theorem dX10_cut_5 : decode cX10_cut 5 = .ok (.getfield 10, 3) := by decide +kernel
theorem dX10_cut_8 : decode cX10_cut 8 = .ok (.invokevirtual 94, 3) := by decide +kernel
theorem dX10_cut_11 : decode cX10_cut 11 = .ok (.aload_n 0, 1) := by decide +kernel
theorem dX10_cut_12 : decode cX10_cut 12 = .ok (.getfield 19, 3) := by decide +kernel
theorem dX10_cut_15 : decode cX10_cut 15 = .ok (.aload_n 0, 1) := by decide +kernel
theorem dX10_cut_16 : decode cX10_cut 16 = .ok (.getfield 10, 3) := by decide +kernel
theorem dX10_cut_19 : decode cX10_cut 19 = .ok (.iload_n 1, 1) := by decide +kernel
theorem dX10_cut_20 : decode cX10_cut 20 = .ok (.iload_n 2, 1) := by decide +kernel
theorem dX10_cut_21 : decode cX10_cut 21 = .ok (.iload_n 3, 1) := by decide +kernel
theorem dX10_cut_22 : decode cX10_cut 22 = .ok (.invokevirtual 108, 3) := by decide +kernel
theorem dX10_cut_25 : decode cX10_cut 25 = .ok (.invokevirtual 101, 3) := by decide +kernel
theorem dX10_cut_28 : decode cX10_cut 28 = .ok (.ireturn, 1) := by decide +kernel
theorem dX10_join_0 : decode cX10_join 0 = .ok (.aload_n 0, 1) := by decide +kernel
theorem dX10_join_1 : decode cX10_join 1 = .ok (.getfield 19, 3) := by decide +kernel
theorem dX10_join_4 : decode cX10_join 4 = .ok (.aload_n 0, 1) := by decide +kernel
theorem dX10_join_5 : decode cX10_join 5 = .ok (.getfield 10, 3) := by decide +kernel
theorem dX10_join_8 : decode cX10_join 8 = .ok (.invokevirtual 94, 3) := by decide +kernel
theorem dX10_join_11 : decode cX10_join 11 = .ok (.aload_n 0, 1) := by decide +kernel
theorem dX10_join_12 : decode cX10_join 12 = .ok (.getfield 19, 3) := by decide +kernel
theorem dX10_join_15 : decode cX10_join 15 = .ok (.aload_n 0, 1) := by decide +kernel
theorem dX10_join_16 : decode cX10_join 16 = .ok (.getfield 10, 3) := by decide +kernel
theorem dX10_join_19 : decode cX10_join 19 = .ok (.iload_n 1, 1) := by decide +kernel
theorem dX10_join_20 : decode cX10_join 20 = .ok (.iload_n 2, 1) := by decide +kernel
theorem dX10_join_21 : decode cX10_join 21 = .ok (.invokevirtual 112, 3) := by decide +kernel
theorem dX10_join_24 : decode cX10_join 24 = .ok (.invokevirtual 101, 3) := by decide +kernel
theorem dX10_join_27 : decode cX10_join 27 = .ok (.ireturn, 1) := by decide +kernel
theorem dX10_melt_0 : decode cX10_melt 0 = .ok (.aload_n 0, 1) := by decide +kernel
theorem dX10_melt_1 : decode cX10_melt 1 = .ok (.getfield 19, 3) := by decide +kernel
theorem dX10_melt_4 : decode cX10_melt 4 = .ok (.aload_n 0, 1) := by decide +kernel
theorem dX10_melt_5 : decode cX10_melt 5 = .ok (.getfield 10, 3) := by decide +kernel
theorem dX10_melt_8 : decode cX10_melt 8 = .ok (.invokevirtual 94, 3) := by decide +kernel
theorem dX10_melt_11 : decode cX10_melt 11 = .ok (.aload_n 0, 1) := by decide +kernel
theorem dX10_melt_12 : decode cX10_melt 12 = .ok (.getfield 19, 3) := by decide +kernel
theorem dX10_melt_15 : decode cX10_melt 15 = .ok (.aload_n 0, 1) := by decide +kernel
theorem dX10_melt_16 : decode cX10_melt 16 = .ok (.getfield 10, 3) := by decide +kernel
theorem dX10_melt_19 : decode cX10_melt 19 = .ok (.iload_n 1, 1) := by decide +kernel
theorem dX10_melt_20 : decode cX10_melt 20 = .ok (.iload_n 2, 1) := by decide +kernel
theorem dX10_melt_21 : decode cX10_melt 21 = .ok (.invokevirtual 115, 3) := by decide +kernel
theorem dX10_melt_24 : decode cX10_melt 24 = .ok (.invokevirtual 101, 3) := by decide +kernel
theorem dX10_melt_27 : decode cX10_melt 27 = .ok (.ireturn, 1) := by decide +kernel
theorem dX10_shift_0 : decode cX10_shift 0 = .ok (.aload_n 0, 1) := by decide +kernel
theorem dX10_shift_1 : decode cX10_shift 1 = .ok (.getfield 19, 3) := by decide +kernel
theorem dX10_shift_4 : decode cX10_shift 4 = .ok (.aload_n 0, 1) := by decide +kernel
theorem dX10_shift_5 : decode cX10_shift 5 = .ok (.getfield 10, 3) := by decide +kernel
theorem dX10_shift_8 : decode cX10_shift 8 = .ok (.invokevirtual 94, 3) := by decide +kernel
theorem dX10_shift_11 : decode cX10_shift 11 = .ok (.aload_n 0, 1) := by decide +kernel
theorem dX10_shift_12 : decode cX10_shift 12 = .ok (.getfield 19, 3) := by decide +kernel
theorem dX10_shift_15 : decode cX10_shift 15 = .ok (.aload_n 0, 1) := by decide +kernel
theorem dX10_shift_16 : decode cX10_shift 16 = .ok (.getfield 10, 3) := by decide +kernel
theorem dX10_shift_19 : decode cX10_shift 19 = .ok (.iload_n 1, 1) := by decide +kernel
theorem dX10_shift_20 : decode cX10_shift 20 = .ok (.iload_n 2, 1) := by decide +kernel
theorem dX10_shift_21 : decode cX10_shift 21 = .ok (.invokevirtual 118, 3) := by decide +kernel
theorem dX10_shift_24 : decode cX10_shift 24 = .ok (.invokevirtual 101, 3) := by decide +kernel
theorem dX10_shift_27 : decode cX10_shift 27 = .ok (.ireturn, 1) := by decide +kernel
theorem dX10_move_0 : decode cX10_move 0 = .ok (.aload_n 0, 1) := by decide +kernel
theorem dX10_move_1 : decode cX10_move 1 = .ok (.getfield 19, 3) := by decide +kernel
theorem dX10_move_4 : decode cX10_move 4 = .ok (.aload_n 0, 1) := by decide +kernel
theorem dX10_move_5 : decode cX10_move 5 = .ok (.getfield 10, 3) := by decide +kernel
theorem dX10_move_8 : decode cX10_move 8 = .ok (.invokevirtual 94, 3) := by decide +kernel
theorem dX10_move_11 : decode cX10_move 11 = .ok (.aload_n 0, 1) := by decide +kernel
theorem dX10_move_12 : decode cX10_move 12 = .ok (.getfield 19, 3) := by decide +kernel
theorem dX10_move_15 : decode cX10_move 15 = .ok (.aload_n 0, 1) := by decide +kernel
theorem dX10_move_16 : decode cX10_move 16 = .ok (.getfield 10, 3) := by decide +kernel
theorem dX10_move_19 : decode cX10_move 19 = .ok (.iload_n 1, 1) := by decide +kernel
theorem dX10_move_20 : decode cX10_move 20 = .ok (.iload_n 2, 1) := by decide +kernel
theorem dX10_move_21 : decode cX10_move 21 = .ok (.iload_n 3, 1) := by decide +kernel
theorem dX10_move_22 : decode cX10_move 22 = .ok (.iload 4, 2) := by decide +kernel
theorem dX10_move_24 : decode cX10_move 24 = .ok (.invokevirtual 121, 3) := by decide +kernel
theorem dX10_move_27 : decode cX10_move 27 = .ok (.invokevirtual 101, 3) := by decide +kernel
theorem dX10_move_30 : decode cX10_move 30 = .ok (.ireturn, 1) := by decide +kernel
theorem dX10_mark_0 : decode cX10_mark 0 = .ok (.aload_n 0, 1) := by decide +kernel
theorem dX10_mark_1 : decode cX10_mark 1 = .ok (.getfield 19, 3) := by decide +kernel
theorem dX10_mark_4 : decode cX10_mark 4 = .ok (.aload_n 0, 1) := by decide +kernel
theorem dX10_mark_5 : decode cX10_mark 5 = .ok (.getfield 10, 3) := by decide +kernel
theorem dX10_mark_8 : decode cX10_mark 8 = .ok (.invokevirtual 94, 3) := by decide +kernel
theorem dX10_mark_11 : decode cX10_mark 11 = .ok (.aload_n 0, 1) := by decide +kernel
theorem dX10_mark_12 : decode cX10_mark 12 = .ok (.getfield 19, 3) := by decide +kernel
theorem dX10_mark_15 : decode cX10_mark 15 = .ok (.aload_n 0, 1) := by decide +kernel
theorem dX10_mark_16 : decode cX10_mark 16 = .ok (.getfield 10, 3) := by decide +kernel
theorem dX10_mark_19 : decode cX10_mark 19 = .ok (.iload_n 1, 1) := by decide +kernel
theorem dX10_mark_20 : decode cX10_mark 20 = .ok (.iload_n 2, 1) := by decide +kernel
theorem dX10_mark_21 : decode cX10_mark 21 = .ok (.iload_n 3, 1) := by decide +kernel
theorem dX10_mark_22 : decode cX10_mark 22 = .ok (.iload 4, 2) := by decide +kernel
theorem dX10_mark_24 : decode cX10_mark 24 = .ok (.ifCond .ne 7, 3) := by decide +kernel
theorem dX10_mark_27 : decode cX10_mark 27 = .ok (.iconst 1, 1) := by decide +kernel
theorem dX10_mark_28 : decode cX10_mark 28 = .ok (.goto 4, 3) := by decide +kernel
theorem dX10_mark_31 : decode cX10_mark 31 = .ok (.iconst 0, 1) := by decide +kernel
theorem dX10_mark_32 : decode cX10_mark 32 = .ok (.invokevirtual 125, 3) := by decide +kernel
theorem dX10_mark_35 : decode cX10_mark 35 = .ok (.invokevirtual 101, 3) := by decide +kernel
theorem dX10_mark_38 : decode cX10_mark 38 = .ok (.ireturn, 1) := by decide +kernel
theorem dX10_seek_0 : decode cX10_seek 0 = .ok (.aload_n 0, 1) := by decide +kernel
theorem dX10_seek_1 : decode cX10_seek 1 = .ok (.getfield 19, 3) := by decide +kernel
theorem dX10_seek_4 : decode cX10_seek 4 = .ok (.aload_n 0, 1) := by decide +kernel
theorem dX10_seek_5 : decode cX10_seek 5 = .ok (.getfield 10, 3) := by decide +kernel
theorem dX10_seek_8 : decode cX10_seek 8 = .ok (.invokevirtual 94, 3) := by decide +kernel
theorem dX10_seek_11 : decode cX10_seek 11 = .ok (.aload_n 0, 1) := by decide +kernel
theorem dX10_seek_12 : decode cX10_seek 12 = .ok (.getfield 19, 3) := by decide +kernel
theorem dX10_seek_15 : decode cX10_seek 15 = .ok (.aload_n 0, 1) := by decide +kernel
theorem dX10_seek_16 : decode cX10_seek 16 = .ok (.getfield 10, 3) := by decide +kernel
theorem dX10_seek_19 : decode cX10_seek 19 = .ok (.iload_n 1, 1) := by decide +kernel
theorem dX10_seek_20 : decode cX10_seek 20 = .ok (.iload_n 2, 1) := by decide +kernel
theorem dX10_seek_21 : decode cX10_seek 21 = .ok (.invokevirtual 129, 3) := by decide +kernel
theorem dX10_seek_24 : decode cX10_seek 24 = .ok (.invokevirtual 101, 3) := by decide +kernel
theorem dX10_seek_27 : decode cX10_seek 27 = .ok (.ireturn, 1) := by decide +kernel
theorem dX10_undo_0 : decode cX10_undo 0 = .ok (.aload_n 0, 1) := by decide +kernel
theorem dX10_undo_1 : decode cX10_undo 1 = .ok (.getfield 19, 3) := by decide +kernel
theorem dX10_undo_4 : decode cX10_undo 4 = .ok (.getfield 132, 3) := by decide +kernel
theorem dX10_undo_7 : decode cX10_undo 7 = .ok (.ifCond .ne 5, 3) := by decide +kernel
theorem dX10_undo_10 : decode cX10_undo 10 = .ok (.iconst (-1), 1) := by decide +kernel
theorem dX10_undo_11 : decode cX10_undo 11 = .ok (.ireturn, 1) := by decide +kernel
theorem dX10_undo_12 : decode cX10_undo 12 = .ok (.aload_n 0, 1) := by decide +kernel
theorem dX10_undo_13 : decode cX10_undo 13 = .ok (.getfield 19, 3) := by decide +kernel
theorem dX10_undo_16 : decode cX10_undo 16 = .ok (.aload_n 0, 1) := by decide +kernel
theorem dX10_undo_17 : decode cX10_undo 17 = .ok (.getfield 10, 3) := by decide +kernel
theorem dX10_undo_20 : decode cX10_undo 20 = .ok (.invokevirtual 135, 3) := by decide +kernel
theorem dX10_undo_23 : decode cX10_undo 23 = .ok (.aload_n 0, 1) := by decide +kernel
theorem dX10_undo_24 : decode cX10_undo 24 = .ok (.getfield 19, 3) := by decide +kernel
theorem dX10_undo_27 : decode cX10_undo 27 = .ok (.getfield 132, 3) := by decide +kernel
theorem dX10_undo_30 : decode cX10_undo 30 = .ok (.ireturn, 1) := by decide +kernel
theorem dX10_set_0 : decode cX10_set 0 = .ok (.aload_n 0, 1) := by decide +kernel
theorem dX10_set_1 : decode cX10_set 1 = .ok (.getfield 10, 3) := by decide +kernel
theorem dX10_set_4 : decode cX10_set 4 = .ok (.iload_n 1, 1) := by decide +kernel
theorem dX10_set_5 : decode cX10_set 5 = .ok (.invokevirtual 138, 3) := by decide +kernel
theorem dX10_set_8 : decode cX10_set 8 = .ok (.astore_n 3, 1) := by decide +kernel
theorem dX10_set_9 : decode cX10_set 9 = .ok (.aload_n 3, 1) := by decide +kernel
theorem dX10_set_10 : decode cX10_set 10 = .ok (.ifnonnull 5, 3) := by decide +kernel
theorem dX10_set_13 : decode cX10_set 13 = .ok (.iconst (-1), 1) := by decide +kernel
theorem dX10_set_14 : decode cX10_set 14 = .ok (.ireturn, 1) := by decide +kernel
theorem dX10_set_15 : decode cX10_set 15 = .ok (.iload_n 2, 1) := by decide +kernel
theorem dX10_set_16 : decode cX10_set 16 = .ok (.tableswitch 147 0 10 #[60, 65, 71, 82, 91, 103, 115, 120, 125, 137, 142], 60) := by decide +kernel
theorem dX10_set_76 : decode cX10_set 76 = .ok (.aload_n 3, 1) := by decide +kernel
theorem dX10_set_77 : decode cX10_set 77 = .ok (.getfield 142, 3) := by decide +kernel
theorem dX10_set_80 : decode cX10_set 80 = .ok (.ireturn, 1) := by decide +kernel
theorem dX10_set_81 : decode cX10_set 81 = .ok (.aload_n 3, 1) := by decide +kernel
theorem dX10_set_82 : decode cX10_set 82 = .ok (.iconst 0, 1) := by decide +kernel
theorem dX10_set_83 : decode cX10_set 83 = .ok (.invokevirtual 147, 3) := by decide +kernel
theorem dX10_set_86 : decode cX10_set 86 = .ok (.ireturn, 1) := by decide +kernel
theorem dX10_set_87 : decode cX10_set 87 = .ok (.aload_n 3, 1) := by decide +kernel
theorem dX10_set_88 : decode cX10_set 88 = .ok (.aload_n 3, 1) := by decide +kernel
theorem dX10_set_89 : decode cX10_set 89 = .ok (.getfield 142, 3) := by decide +kernel
theorem dX10_set_92 : decode cX10_set 92 = .ok (.iconst 1, 1) := by decide +kernel
theorem dX10_set_93 : decode cX10_set 93 = .ok (.isub, 1) := by decide +kernel
theorem dX10_set_94 : decode cX10_set 94 = .ok (.invokevirtual 147, 3) := by decide +kernel
theorem dX10_set_97 : decode cX10_set 97 = .ok (.ireturn, 1) := by decide +kernel
theorem dX10_set_98 : decode cX10_set 98 = .ok (.aload_n 3, 1) := by decide +kernel
theorem dX10_set_99 : decode cX10_set 99 = .ok (.iconst 0, 1) := by decide +kernel
theorem dX10_set_100 : decode cX10_set 100 = .ok (.sipush 9999, 3) := by decide +kernel
theorem dX10_set_103 : decode cX10_set 103 = .ok (.invokevirtual 150, 3) := by decide +kernel
theorem dX10_set_106 : decode cX10_set 106 = .ok (.ireturn, 1) := by decide +kernel
theorem dX10_set_107 : decode cX10_set 107 = .ok (.aload_n 0, 1) := by decide +kernel
theorem dX10_set_108 : decode cX10_set 108 = .ok (.getfield 10, 3) := by decide +kernel
theorem dX10_set_111 : decode cX10_set 111 = .ok (.aload_n 3, 1) := by decide +kernel
theorem dX10_set_112 : decode cX10_set 112 = .ok (.invokevirtual 153, 3) := by decide +kernel
theorem dX10_set_115 : decode cX10_set 115 = .ok (.invokevirtual 157, 3) := by decide +kernel
theorem dX10_set_118 : decode cX10_set 118 = .ok (.ireturn, 1) := by decide +kernel
theorem dX10_set_119 : decode cX10_set 119 = .ok (.aload_n 0, 1) := by decide +kernel
theorem dX10_set_120 : decode cX10_set 120 = .ok (.getfield 10, 3) := by decide +kernel
theorem dX10_set_123 : decode cX10_set 123 = .ok (.aload_n 3, 1) := by decide +kernel
theorem dX10_set_124 : decode cX10_set 124 = .ok (.invokevirtual 153, 3) := by decide +kernel
theorem dX10_set_127 : decode cX10_set 127 = .ok (.invokevirtual 162, 3) := by decide +kernel
theorem dX10_set_130 : decode cX10_set 130 = .ok (.ireturn, 1) := by decide +kernel
theorem dX10_set_131 : decode cX10_set 131 = .ok (.aload_n 3, 1) := by decide +kernel
theorem dX10_set_132 : decode cX10_set 132 = .ok (.getfield 165, 3) := by decide +kernel
theorem dX10_set_135 : decode cX10_set 135 = .ok (.ireturn, 1) := by decide +kernel
theorem dX10_set_136 : decode cX10_set 136 = .ok (.aload_n 3, 1) := by decide +kernel
theorem dX10_set_137 : decode cX10_set 137 = .ok (.invokevirtual 168, 3) := by decide +kernel
theorem dX10_set_140 : decode cX10_set 140 = .ok (.ireturn, 1) := by decide +kernel
theorem dX10_set_141 : decode cX10_set 141 = .ok (.aload_n 0, 1) := by decide +kernel
theorem dX10_set_142 : decode cX10_set 142 = .ok (.getfield 10, 3) := by decide +kernel
theorem dX10_set_145 : decode cX10_set 145 = .ok (.aload_n 3, 1) := by decide +kernel
theorem dX10_set_146 : decode cX10_set 146 = .ok (.invokevirtual 153, 3) := by decide +kernel
theorem dX10_set_149 : decode cX10_set 149 = .ok (.invokevirtual 171, 3) := by decide +kernel
theorem dX10_set_152 : decode cX10_set 152 = .ok (.ireturn, 1) := by decide +kernel
theorem dX10_set_153 : decode cX10_set 153 = .ok (.aload_n 3, 1) := by decide +kernel
theorem dX10_set_154 : decode cX10_set 154 = .ok (.invokevirtual 174, 3) := by decide +kernel
theorem dX10_set_157 : decode cX10_set 157 = .ok (.ireturn, 1) := by decide +kernel
theorem dX10_set_158 : decode cX10_set 158 = .ok (.aload_n 3, 1) := by decide +kernel
theorem dX10_set_159 : decode cX10_set 159 = .ok (.invokevirtual 177, 3) := by decide +kernel
theorem dX10_set_162 : decode cX10_set 162 = .ok (.ireturn, 1) := by decide +kernel
theorem dX10_set_163 : decode cX10_set 163 = .ok (.iconst (-1), 1) := by decide +kernel
theorem dX10_set_164 : decode cX10_set 164 = .ok (.ireturn, 1) := by decide +kernel
theorem dX10_key_0 : decode cX10_key 0 = .ok (.aload_n 0, 1) := by decide +kernel
theorem dX10_key_1 : decode cX10_key 1 = .ok (.getfield 10, 3) := by decide +kernel
theorem dX10_key_4 : decode cX10_key 4 = .ok (.iload_n 1, 1) := by decide +kernel
theorem dX10_key_5 : decode cX10_key 5 = .ok (.invokevirtual 138, 3) := by decide +kernel
theorem dX10_key_8 : decode cX10_key 8 = .ok (.astore_n 3, 1) := by decide +kernel
theorem dX10_key_9 : decode cX10_key 9 = .ok (.aload_n 3, 1) := by decide +kernel
theorem dX10_key_10 : decode cX10_key 10 = .ok (.ifnonnull 7, 3) := by decide +kernel
theorem dX10_key_13 : decode cX10_key 13 = .ok (.iconst (-1), 1) := by decide +kernel
theorem dX10_key_14 : decode cX10_key 14 = .ok (.goto 8, 3) := by decide +kernel
theorem dX10_key_17 : decode cX10_key 17 = .ok (.aload_n 3, 1) := by decide +kernel
theorem dX10_key_18 : decode cX10_key 18 = .ok (.iload_n 2, 1) := by decide +kernel
theorem dX10_key_19 : decode cX10_key 19 = .ok (.invokevirtual 147, 3) := by decide +kernel
theorem dX10_key_22 : decode cX10_key 22 = .ok (.ireturn, 1) := by decide +kernel
theorem dX10_of_0 : decode cX10_of 0 = .ok (.aload_n 0, 1) := by decide +kernel
theorem dX10_of_1 : decode cX10_of 1 = .ok (.getfield 10, 3) := by decide +kernel
theorem dX10_of_4 : decode cX10_of 4 = .ok (.iload_n 1, 1) := by decide +kernel
theorem dX10_of_5 : decode cX10_of 5 = .ok (.invokevirtual 138, 3) := by decide +kernel
theorem dX10_of_8 : decode cX10_of 8 = .ok (.astore 4, 2) := by decide +kernel
theorem dX10_of_10 : decode cX10_of 10 = .ok (.aload 4, 2) := by decide +kernel
theorem dX10_of_12 : decode cX10_of 12 = .ok (.ifnonnull 7, 3) := by decide +kernel
theorem dX10_of_15 : decode cX10_of 15 = .ok (.iconst (-1), 1) := by decide +kernel
theorem dX10_of_16 : decode cX10_of 16 = .ok (.goto 9, 3) := by decide +kernel
theorem dX10_of_19 : decode cX10_of 19 = .ok (.aload 4, 2) := by decide +kernel
theorem dX10_of_21 : decode cX10_of 21 = .ok (.iload_n 2, 1) := by decide +kernel
theorem dX10_of_22 : decode cX10_of 22 = .ok (.invokevirtual 180, 3) := by decide +kernel
theorem dX10_of_25 : decode cX10_of 25 = .ok (.istore 5, 2) := by decide +kernel
theorem dX10_of_27 : decode cX10_of 27 = .ok (.aload 4, 2) := by decide +kernel
theorem dX10_of_29 : decode cX10_of 29 = .ok (.ifnull 9, 3) := by decide +kernel
theorem dX10_of_32 : decode cX10_of 32 = .ok (.iload 5, 2) := by decide +kernel
theorem dX10_of_34 : decode cX10_of 34 = .ok (.iconst (-1), 1) := by decide +kernel
theorem dX10_of_35 : decode cX10_of 35 = .ok (.if_icmp .ne 5, 3) := by decide +kernel
theorem dX10_of_38 : decode cX10_of 38 = .ok (.iconst (-1), 1) := by decide +kernel
theorem dX10_of_39 : decode cX10_of 39 = .ok (.ireturn, 1) := by decide +kernel
theorem dX10_of_40 : decode cX10_of 40 = .ok (.iload_n 3, 1) := by decide +kernel
theorem dX10_of_41 : decode cX10_of 41 = .ok (.tableswitch 138 0 7 #[47, 50, 58, 73, 88, 103, 118, 123], 47) := by decide +kernel
theorem dX10_of_88 : decode cX10_of 88 = .ok (.iload 5, 2) := by decide +kernel
theorem dX10_of_90 : decode cX10_of 90 = .ok (.ireturn, 1) := by decide +kernel
theorem dX10_of_91 : decode cX10_of 91 = .ok (.aload 4, 2) := by decide +kernel
theorem dX10_of_93 : decode cX10_of 93 = .ok (.iload 5, 2) := by decide +kernel
theorem dX10_of_95 : decode cX10_of 95 = .ok (.invokevirtual 183, 3) := by decide +kernel
theorem dX10_of_98 : decode cX10_of 98 = .ok (.ireturn, 1) := by decide +kernel
theorem dX10_of_99 : decode cX10_of 99 = .ok (.aload_n 0, 1) := by decide +kernel
theorem dX10_of_100 : decode cX10_of 100 = .ok (.getfield 10, 3) := by decide +kernel
theorem dX10_of_103 : decode cX10_of 103 = .ok (.aload 4, 2) := by decide +kernel
theorem dX10_of_105 : decode cX10_of 105 = .ok (.invokevirtual 153, 3) := by decide +kernel
theorem dX10_of_108 : decode cX10_of 108 = .ok (.iload 5, 2) := by decide +kernel
theorem dX10_of_110 : decode cX10_of 110 = .ok (.invokevirtual 186, 3) := by decide +kernel
theorem dX10_of_113 : decode cX10_of 113 = .ok (.ireturn, 1) := by decide +kernel
theorem dX10_of_114 : decode cX10_of 114 = .ok (.aload_n 0, 1) := by decide +kernel
theorem dX10_of_115 : decode cX10_of 115 = .ok (.getfield 10, 3) := by decide +kernel
theorem dX10_of_118 : decode cX10_of 118 = .ok (.aload 4, 2) := by decide +kernel
theorem dX10_of_120 : decode cX10_of 120 = .ok (.invokevirtual 153, 3) := by decide +kernel
theorem dX10_of_123 : decode cX10_of 123 = .ok (.iload 5, 2) := by decide +kernel
theorem dX10_of_125 : decode cX10_of 125 = .ok (.invokevirtual 189, 3) := by decide +kernel
theorem dX10_of_128 : decode cX10_of 128 = .ok (.ireturn, 1) := by decide +kernel
theorem dX10_of_129 : decode cX10_of 129 = .ok (.aload_n 0, 1) := by decide +kernel
theorem dX10_of_130 : decode cX10_of 130 = .ok (.getfield 10, 3) := by decide +kernel
theorem dX10_of_133 : decode cX10_of 133 = .ok (.aload 4, 2) := by decide +kernel
theorem dX10_of_135 : decode cX10_of 135 = .ok (.invokevirtual 153, 3) := by decide +kernel
theorem dX10_of_138 : decode cX10_of 138 = .ok (.iload 5, 2) := by decide +kernel
theorem dX10_of_140 : decode cX10_of 140 = .ok (.invokevirtual 192, 3) := by decide +kernel
theorem dX10_of_143 : decode cX10_of 143 = .ok (.ireturn, 1) := by decide +kernel
theorem dX10_of_144 : decode cX10_of 144 = .ok (.aload_n 0, 1) := by decide +kernel
theorem dX10_of_145 : decode cX10_of 145 = .ok (.getfield 10, 3) := by decide +kernel
theorem dX10_of_148 : decode cX10_of 148 = .ok (.aload 4, 2) := by decide +kernel
theorem dX10_of_150 : decode cX10_of 150 = .ok (.invokevirtual 153, 3) := by decide +kernel
theorem dX10_of_153 : decode cX10_of 153 = .ok (.iload 5, 2) := by decide +kernel
theorem dX10_of_155 : decode cX10_of 155 = .ok (.invokevirtual 195, 3) := by decide +kernel
theorem dX10_of_158 : decode cX10_of 158 = .ok (.ireturn, 1) := by decide +kernel
theorem dX10_of_159 : decode cX10_of 159 = .ok (.iload_n 2, 1) := by decide +kernel
theorem dX10_of_160 : decode cX10_of 160 = .ok (.invokestatic 198, 3) := by decide +kernel
theorem dX10_of_163 : decode cX10_of 163 = .ok (.ireturn, 1) := by decide +kernel
theorem dX10_of_164 : decode cX10_of 164 = .ok (.aload_n 0, 1) := by decide +kernel
theorem dX10_of_165 : decode cX10_of 165 = .ok (.getfield 10, 3) := by decide +kernel
theorem dX10_of_168 : decode cX10_of 168 = .ok (.aload 4, 2) := by decide +kernel
theorem dX10_of_170 : decode cX10_of 170 = .ok (.invokevirtual 153, 3) := by decide +kernel
theorem dX10_of_173 : decode cX10_of 173 = .ok (.iload 5, 2) := by decide +kernel
theorem dX10_of_175 : decode cX10_of 175 = .ok (.invokevirtual 201, 3) := by decide +kernel
theorem dX10_of_178 : decode cX10_of 178 = .ok (.ireturn, 1) := by decide +kernel
theorem dX10_of_179 : decode cX10_of 179 = .ok (.iconst (-1), 1) := by decide +kernel
theorem dX10_of_180 : decode cX10_of 180 = .ok (.ireturn, 1) := by decide +kernel
theorem dX10_within_0 : decode cX10_within 0 = .ok (.aload_n 0, 1) := by decide +kernel
theorem dX10_within_1 : decode cX10_within 1 = .ok (.getfield 10, 3) := by decide +kernel
theorem dX10_within_4 : decode cX10_within 4 = .ok (.iload_n 1, 1) := by decide +kernel
theorem dX10_within_5 : decode cX10_within 5 = .ok (.invokevirtual 138, 3) := by decide +kernel
theorem dX10_within_8 : decode cX10_within 8 = .ok (.astore 5, 2) := by decide +kernel
theorem dX10_within_10 : decode cX10_within 10 = .ok (.aload 5, 2) := by decide +kernel
theorem dX10_within_12 : decode cX10_within 12 = .ok (.ifnonnull 5, 3) := by decide +kernel
theorem dX10_within_15 : decode cX10_within 15 = .ok (.iconst (-1), 1) := by decide +kernel
theorem dX10_within_16 : decode cX10_within 16 = .ok (.ireturn, 1) := by decide +kernel
theorem dX10_within_17 : decode cX10_within 17 = .ok (.iload 4, 2) := by decide +kernel
theorem dX10_within_19 : decode cX10_within 19 = .ok (.ifCond .eq 13, 3) := by decide +kernel
theorem dX10_within_22 : decode cX10_within 22 = .ok (.aload 5, 2) := by decide +kernel
theorem dX10_within_24 : decode cX10_within 24 = .ok (.iload_n 2, 1) := by decide +kernel
theorem dX10_within_25 : decode cX10_within 25 = .ok (.iload_n 3, 1) := by decide +kernel
theorem dX10_within_26 : decode cX10_within 26 = .ok (.invokevirtual 150, 3) := by decide +kernel
theorem dX10_within_29 : decode cX10_within 29 = .ok (.goto 10, 3) := by decide +kernel
theorem dX10_within_32 : decode cX10_within 32 = .ok (.aload 5, 2) := by decide +kernel
theorem dX10_within_34 : decode cX10_within 34 = .ok (.iload_n 2, 1) := by decide +kernel
theorem dX10_within_35 : decode cX10_within 35 = .ok (.iload_n 3, 1) := by decide +kernel
theorem dX10_within_36 : decode cX10_within 36 = .ok (.invokevirtual 204, 3) := by decide +kernel
theorem dX10_within_39 : decode cX10_within 39 = .ok (.ireturn, 1) := by decide +kernel
theorem dX10_far_0 : decode cX10_far 0 = .ok (.aload_n 0, 1) := by decide +kernel
theorem dX10_far_1 : decode cX10_far 1 = .ok (.getfield 10, 3) := by decide +kernel
theorem dX10_far_4 : decode cX10_far 4 = .ok (.iload_n 1, 1) := by decide +kernel
theorem dX10_far_5 : decode cX10_far 5 = .ok (.invokevirtual 138, 3) := by decide +kernel
theorem dX10_far_8 : decode cX10_far 8 = .ok (.astore 4, 2) := by decide +kernel
theorem dX10_far_10 : decode cX10_far 10 = .ok (.aload 4, 2) := by decide +kernel
theorem dX10_far_12 : decode cX10_far 12 = .ok (.ifnonnull 7, 3) := by decide +kernel
theorem dX10_far_15 : decode cX10_far 15 = .ok (.iconst (-1), 1) := by decide +kernel
theorem dX10_far_16 : decode cX10_far 16 = .ok (.goto 27, 3) := by decide +kernel
theorem dX10_far_19 : decode cX10_far 19 = .ok (.aload_n 0, 1) := by decide +kernel
theorem dX10_far_20 : decode cX10_far 20 = .ok (.getfield 10, 3) := by decide +kernel
theorem dX10_far_23 : decode cX10_far 23 = .ok (.aload 4, 2) := by decide +kernel
theorem dX10_far_25 : decode cX10_far 25 = .ok (.invokevirtual 153, 3) := by decide +kernel
theorem dX10_far_28 : decode cX10_far 28 = .ok (.aload 4, 2) := by decide +kernel
theorem dX10_far_30 : decode cX10_far 30 = .ok (.iload_n 2, 1) := by decide +kernel
theorem dX10_far_31 : decode cX10_far 31 = .ok (.invokevirtual 180, 3) := by decide +kernel
theorem dX10_far_34 : decode cX10_far 34 = .ok (.aload 4, 2) := by decide +kernel
theorem dX10_far_36 : decode cX10_far 36 = .ok (.iload_n 3, 1) := by decide +kernel
theorem dX10_far_37 : decode cX10_far 37 = .ok (.invokevirtual 180, 3) := by decide +kernel
theorem dX10_far_40 : decode cX10_far 40 = .ok (.invokevirtual 207, 3) := by decide +kernel
theorem dX10_far_43 : decode cX10_far 43 = .ok (.ireturn, 1) := by decide +kernel
theorem dX10_where_0 : decode cX10_where 0 = .ok (.iconst 0, 1) := by decide +kernel
theorem dX10_where_1 : decode cX10_where 1 = .ok (.istore_n 2, 1) := by decide +kernel
theorem dX10_where_2 : decode cX10_where 2 = .ok (.iconst 0, 1) := by decide +kernel
theorem dX10_where_3 : decode cX10_where 3 = .ok (.istore_n 3, 1) := by decide +kernel
theorem dX10_where_4 : decode cX10_where 4 = .ok (.iload_n 3, 1) := by decide +kernel
theorem dX10_where_5 : decode cX10_where 5 = .ok (.bipush 8, 2) := by decide +kernel
theorem dX10_where_7 : decode cX10_where 7 = .ok (.if_icmp .ge 32, 3) := by decide +kernel
theorem dX10_where_10 : decode cX10_where 10 = .ok (.aload_n 0, 1) := by decide +kernel
theorem dX10_where_11 : decode cX10_where 11 = .ok (.getfield 10, 3) := by decide +kernel
theorem dX10_where_14 : decode cX10_where 14 = .ok (.getfield 210, 3) := by decide +kernel
theorem dX10_where_17 : decode cX10_where 17 = .ok (.iload_n 3, 1) := by decide +kernel
theorem dX10_where_18 : decode cX10_where 18 = .ok (.aaload, 1) := by decide +kernel
theorem dX10_where_19 : decode cX10_where 19 = .ok (.iload_n 1, 1) := by decide +kernel
theorem dX10_where_20 : decode cX10_where 20 = .ok (.invokevirtual 180, 3) := by decide +kernel
theorem dX10_where_23 : decode cX10_where 23 = .ok (.iconst (-1), 1) := by decide +kernel
theorem dX10_where_24 : decode cX10_where 24 = .ok (.if_icmp .eq 9, 3) := by decide +kernel
theorem dX10_where_27 : decode cX10_where 27 = .ok (.iload_n 2, 1) := by decide +kernel
theorem dX10_where_28 : decode cX10_where 28 = .ok (.iconst 1, 1) := by decide +kernel
theorem dX10_where_29 : decode cX10_where 29 = .ok (.iload_n 3, 1) := by decide +kernel
theorem dX10_where_30 : decode cX10_where 30 = .ok (.ishl, 1) := by decide +kernel
theorem dX10_where_31 : decode cX10_where 31 = .ok (.ior, 1) := by decide +kernel
theorem dX10_where_32 : decode cX10_where 32 = .ok (.istore_n 2, 1) := by decide +kernel
theorem dX10_where_33 : decode cX10_where 33 = .ok (.iinc 3 1, 3) := by decide +kernel
theorem dX10_where_36 : decode cX10_where 36 = .ok (.goto (-32), 3) := by decide +kernel
theorem dX10_where_39 : decode cX10_where 39 = .ok (.iload_n 2, 1) := by decide +kernel
theorem dX10_where_40 : decode cX10_where 40 = .ok (.ireturn, 1) := by decide +kernel
theorem dX10_count_0 : decode cX10_count 0 = .ok (.iload_n 1, 1) := by decide +kernel
theorem dX10_count_1 : decode cX10_count 1 = .ok (.tableswitch 111 0 7 #[47, 55, 63, 71, 79, 87, 95, 103], 47) := by decide +kernel
theorem dX10_count_48 : decode cX10_count 48 = .ok (.aload_n 0, 1) := by decide +kernel
theorem dX10_count_49 : decode cX10_count 49 = .ok (.getfield 10, 3) := by decide +kernel
theorem dX10_count_52 : decode cX10_count 52 = .ok (.invokevirtual 90, 3) := by decide +kernel
theorem dX10_count_55 : decode cX10_count 55 = .ok (.ireturn, 1) := by decide +kernel
theorem dX10_count_56 : decode cX10_count 56 = .ok (.aload_n 0, 1) := by decide +kernel
theorem dX10_count_57 : decode cX10_count 57 = .ok (.getfield 10, 3) := by decide +kernel
theorem dX10_count_60 : decode cX10_count 60 = .ok (.invokevirtual 214, 3) := by decide +kernel
theorem dX10_count_63 : decode cX10_count 63 = .ok (.ireturn, 1) := by decide +kernel
theorem dX10_count_64 : decode cX10_count 64 = .ok (.aload_n 0, 1) := by decide +kernel
theorem dX10_count_65 : decode cX10_count 65 = .ok (.getfield 10, 3) := by decide +kernel
theorem dX10_count_68 : decode cX10_count 68 = .ok (.invokevirtual 217, 3) := by decide +kernel
theorem dX10_count_71 : decode cX10_count 71 = .ok (.ireturn, 1) := by decide +kernel
theorem dX10_count_72 : decode cX10_count 72 = .ok (.aload_n 0, 1) := by decide +kernel
theorem dX10_count_73 : decode cX10_count 73 = .ok (.getfield 10, 3) := by decide +kernel
theorem dX10_count_76 : decode cX10_count 76 = .ok (.invokevirtual 220, 3) := by decide +kernel
theorem dX10_count_79 : decode cX10_count 79 = .ok (.ireturn, 1) := by decide +kernel
theorem dX10_count_80 : decode cX10_count 80 = .ok (.aload_n 0, 1) := by decide +kernel
theorem dX10_count_81 : decode cX10_count 81 = .ok (.getfield 19, 3) := by decide +kernel
theorem dX10_count_84 : decode cX10_count 84 = .ok (.getfield 132, 3) := by decide +kernel
theorem dX10_count_87 : decode cX10_count 87 = .ok (.ireturn, 1) := by decide +kernel
theorem dX10_count_88 : decode cX10_count 88 = .ok (.aload_n 0, 1) := by decide +kernel
theorem dX10_count_89 : decode cX10_count 89 = .ok (.getfield 28, 3) := by decide +kernel
theorem dX10_count_92 : decode cX10_count 92 = .ok (.getfield 65, 3) := by decide +kernel
theorem dX10_count_95 : decode cX10_count 95 = .ok (.ireturn, 1) := by decide +kernel
theorem dX10_count_96 : decode cX10_count 96 = .ok (.aload_n 0, 1) := by decide +kernel
theorem dX10_count_97 : decode cX10_count 97 = .ok (.getfield 10, 3) := by decide +kernel
theorem dX10_count_100 : decode cX10_count 100 = .ok (.invokevirtual 223, 3) := by decide +kernel
theorem dX10_count_103 : decode cX10_count 103 = .ok (.ireturn, 1) := by decide +kernel
theorem dX10_count_104 : decode cX10_count 104 = .ok (.aload_n 0, 1) := by decide +kernel
theorem dX10_count_105 : decode cX10_count 105 = .ok (.getfield 32, 3) := by decide +kernel
theorem dX10_count_108 : decode cX10_count 108 = .ok (.getfield 65, 3) := by decide +kernel
theorem dX10_count_111 : decode cX10_count 111 = .ok (.ireturn, 1) := by decide +kernel
theorem dX10_count_112 : decode cX10_count 112 = .ok (.iconst (-1), 1) := by decide +kernel
theorem dX10_count_113 : decode cX10_count 113 = .ok (.ireturn, 1) := by decide +kernel
theorem dX10_pair_0 : decode cX10_pair 0 = .ok (.aload_n 0, 1) := by decide +kernel
theorem dX10_pair_1 : decode cX10_pair 1 = .ok (.getfield 10, 3) := by decide +kernel
theorem dX10_pair_4 : decode cX10_pair 4 = .ok (.iload_n 1, 1) := by decide +kernel
theorem dX10_pair_5 : decode cX10_pair 5 = .ok (.invokevirtual 138, 3) := by decide +kernel
theorem dX10_pair_8 : decode cX10_pair 8 = .ok (.astore 4, 2) := by decide +kernel
theorem dX10_pair_10 : decode cX10_pair 10 = .ok (.aload_n 0, 1) := by decide +kernel
theorem dX10_pair_11 : decode cX10_pair 11 = .ok (.getfield 10, 3) := by decide +kernel
theorem dX10_pair_14 : decode cX10_pair 14 = .ok (.iload_n 2, 1) := by decide +kernel
theorem dX10_pair_15 : decode cX10_pair 15 = .ok (.invokevirtual 138, 3) := by decide +kernel
theorem dX10_pair_18 : decode cX10_pair 18 = .ok (.astore 5, 2) := by decide +kernel
theorem dX10_pair_20 : decode cX10_pair 20 = .ok (.aload 4, 2) := by decide +kernel
theorem dX10_pair_22 : decode cX10_pair 22 = .ok (.ifnull 13, 3) := by decide +kernel
theorem dX10_pair_25 : decode cX10_pair 25 = .ok (.aload 5, 2) := by decide +kernel
theorem dX10_pair_27 : decode cX10_pair 27 = .ok (.ifnull 8, 3) := by decide +kernel
theorem dX10_pair_30 : decode cX10_pair 30 = .ok (.iload_n 1, 1) := by decide +kernel
theorem dX10_pair_31 : decode cX10_pair 31 = .ok (.iload_n 2, 1) := by decide +kernel
theorem dX10_pair_32 : decode cX10_pair 32 = .ok (.if_icmp .ne 5, 3) := by decide +kernel
theorem dX10_pair_35 : decode cX10_pair 35 = .ok (.iconst (-1), 1) := by decide +kernel
theorem dX10_pair_36 : decode cX10_pair 36 = .ok (.ireturn, 1) := by decide +kernel
theorem dX10_pair_37 : decode cX10_pair 37 = .ok (.aload_n 0, 1) := by decide +kernel
theorem dX10_pair_38 : decode cX10_pair 38 = .ok (.getfield 10, 3) := by decide +kernel
theorem dX10_pair_41 : decode cX10_pair 41 = .ok (.aload 4, 2) := by decide +kernel
theorem dX10_pair_43 : decode cX10_pair 43 = .ok (.aload 5, 2) := by decide +kernel
theorem dX10_pair_45 : decode cX10_pair 45 = .ok (.invokevirtual 226, 3) := by decide +kernel
theorem dX10_pair_48 : decode cX10_pair 48 = .ok (.astore 6, 2) := by decide +kernel
theorem dX10_pair_50 : decode cX10_pair 50 = .ok (.iload_n 3, 1) := by decide +kernel
theorem dX10_pair_51 : decode cX10_pair 51 = .ok (.tableswitch 117 0 6 #[41, 47, 53, 59, 71, 77, 97], 41) := by decide +kernel
theorem dX10_pair_92 : decode cX10_pair 92 = .ok (.aload 6, 2) := by decide +kernel
theorem dX10_pair_94 : decode cX10_pair 94 = .ok (.getfield 230, 3) := by decide +kernel
theorem dX10_pair_97 : decode cX10_pair 97 = .ok (.ireturn, 1) := by decide +kernel
theorem dX10_pair_98 : decode cX10_pair 98 = .ok (.aload 6, 2) := by decide +kernel
theorem dX10_pair_100 : decode cX10_pair 100 = .ok (.getfield 235, 3) := by decide +kernel
theorem dX10_pair_103 : decode cX10_pair 103 = .ok (.ireturn, 1) := by decide +kernel
theorem dX10_pair_104 : decode cX10_pair 104 = .ok (.aload 6, 2) := by decide +kernel
theorem dX10_pair_106 : decode cX10_pair 106 = .ok (.getfield 238, 3) := by decide +kernel
theorem dX10_pair_109 : decode cX10_pair 109 = .ok (.ireturn, 1) := by decide +kernel
theorem dX10_pair_110 : decode cX10_pair 110 = .ok (.aload 6, 2) := by decide +kernel
theorem dX10_pair_112 : decode cX10_pair 112 = .ok (.getfield 241, 3) := by decide +kernel
theorem dX10_pair_115 : decode cX10_pair 115 = .ok (.aload 6, 2) := by decide +kernel
theorem dX10_pair_117 : decode cX10_pair 117 = .ok (.getfield 235, 3) := by decide +kernel
theorem dX10_pair_120 : decode cX10_pair 120 = .ok (.isub, 1) := by decide +kernel
theorem dX10_pair_121 : decode cX10_pair 121 = .ok (.ireturn, 1) := by decide +kernel
theorem dX10_pair_122 : decode cX10_pair 122 = .ok (.aload 6, 2) := by decide +kernel
theorem dX10_pair_124 : decode cX10_pair 124 = .ok (.getfield 244, 3) := by decide +kernel
theorem dX10_pair_127 : decode cX10_pair 127 = .ok (.ireturn, 1) := by decide +kernel
theorem dX10_pair_128 : decode cX10_pair 128 = .ok (.aload_n 0, 1) := by decide +kernel
theorem dX10_pair_129 : decode cX10_pair 129 = .ok (.getfield 10, 3) := by decide +kernel
theorem dX10_pair_132 : decode cX10_pair 132 = .ok (.aload 4, 2) := by decide +kernel
theorem dX10_pair_134 : decode cX10_pair 134 = .ok (.aload 5, 2) := by decide +kernel
theorem dX10_pair_136 : decode cX10_pair 136 = .ok (.invokevirtual 247, 3) := by decide +kernel
theorem dX10_pair_139 : decode cX10_pair 139 = .ok (.ifCond .ne 7, 3) := by decide +kernel
theorem dX10_pair_142 : decode cX10_pair 142 = .ok (.iconst 1, 1) := by decide +kernel
theorem dX10_pair_143 : decode cX10_pair 143 = .ok (.goto 4, 3) := by decide +kernel
theorem dX10_pair_146 : decode cX10_pair 146 = .ok (.iconst 0, 1) := by decide +kernel
theorem dX10_pair_147 : decode cX10_pair 147 = .ok (.ireturn, 1) := by decide +kernel
theorem dX10_pair_148 : decode cX10_pair 148 = .ok (.aload_n 0, 1) := by decide +kernel
theorem dX10_pair_149 : decode cX10_pair 149 = .ok (.getfield 10, 3) := by decide +kernel
theorem dX10_pair_152 : decode cX10_pair 152 = .ok (.aload 5, 2) := by decide +kernel
theorem dX10_pair_154 : decode cX10_pair 154 = .ok (.aload 6, 2) := by decide +kernel
theorem dX10_pair_156 : decode cX10_pair 156 = .ok (.invokevirtual 251, 3) := by decide +kernel
theorem dX10_pair_159 : decode cX10_pair 159 = .ok (.ifCond .ne 7, 3) := by decide +kernel
theorem dX10_pair_162 : decode cX10_pair 162 = .ok (.iconst 1, 1) := by decide +kernel
theorem dX10_pair_163 : decode cX10_pair 163 = .ok (.goto 4, 3) := by decide +kernel
theorem dX10_pair_166 : decode cX10_pair 166 = .ok (.iconst 0, 1) := by decide +kernel
theorem dX10_pair_167 : decode cX10_pair 167 = .ok (.ireturn, 1) := by decide +kernel
theorem dX10_pair_168 : decode cX10_pair 168 = .ok (.iconst (-1), 1) := by decide +kernel
theorem dX10_pair_169 : decode cX10_pair 169 = .ok (.ireturn, 1) := by decide +kernel
theorem dX10_cheapest_0 : decode cX10_cheapest 0 = .ok (.aload_n 0, 1) := by decide +kernel
theorem dX10_cheapest_1 : decode cX10_cheapest 1 = .ok (.getfield 10, 3) := by decide +kernel
theorem dX10_cheapest_4 : decode cX10_cheapest 4 = .ok (.invokevirtual 255, 3) := by decide +kernel
theorem dX10_cheapest_7 : decode cX10_cheapest 7 = .ok (.iload_n 1, 1) := by decide +kernel
theorem dX10_cheapest_8 : decode cX10_cheapest 8 = .ok (.tableswitch 52 0 2 #[28, 36, 44], 28) := by decide +kernel
theorem dX10_cheapest_36 : decode cX10_cheapest 36 = .ok (.aload_n 0, 1) := by decide +kernel
theorem dX10_cheapest_37 : decode cX10_cheapest 37 = .ok (.getfield 10, 3) := by decide +kernel
theorem dX10_cheapest_40 : decode cX10_cheapest 40 = .ok (.getfield 258, 3) := by decide +kernel
theorem dX10_cheapest_43 : decode cX10_cheapest 43 = .ok (.ireturn, 1) := by decide +kernel
theorem dX10_cheapest_44 : decode cX10_cheapest 44 = .ok (.aload_n 0, 1) := by decide +kernel
theorem dX10_cheapest_45 : decode cX10_cheapest 45 = .ok (.getfield 10, 3) := by decide +kernel
theorem dX10_cheapest_48 : decode cX10_cheapest 48 = .ok (.getfield 261, 3) := by decide +kernel
theorem dX10_cheapest_51 : decode cX10_cheapest 51 = .ok (.ireturn, 1) := by decide +kernel
theorem dX10_cheapest_52 : decode cX10_cheapest 52 = .ok (.aload_n 0, 1) := by decide +kernel
theorem dX10_cheapest_53 : decode cX10_cheapest 53 = .ok (.getfield 10, 3) := by decide +kernel
theorem dX10_cheapest_56 : decode cX10_cheapest 56 = .ok (.getfield 264, 3) := by decide +kernel
theorem dX10_cheapest_59 : decode cX10_cheapest 59 = .ok (.ireturn, 1) := by decide +kernel
theorem dX10_cheapest_60 : decode cX10_cheapest 60 = .ok (.iconst (-1), 1) := by decide +kernel
theorem dX10_cheapest_61 : decode cX10_cheapest 61 = .ok (.ireturn, 1) := by decide +kernel
theorem dX10_merged_0 : decode cX10_merged 0 = .ok (.iload_n 1, 1) := by decide +kernel
theorem dX10_merged_1 : decode cX10_merged 1 = .ok (.ifCond .lt 14, 3) := by decide +kernel
theorem dX10_merged_4 : decode cX10_merged 4 = .ok (.iload_n 1, 1) := by decide +kernel
theorem dX10_merged_5 : decode cX10_merged 5 = .ok (.aload_n 0, 1) := by decide +kernel
theorem dX10_merged_6 : decode cX10_merged 6 = .ok (.getfield 10, 3) := by decide +kernel
theorem dX10_merged_9 : decode cX10_merged 9 = .ok (.invokevirtual 90, 3) := by decide +kernel
theorem dX10_merged_12 : decode cX10_merged 12 = .ok (.if_icmp .lt 5, 3) := by decide +kernel
theorem dX10_merged_15 : decode cX10_merged 15 = .ok (.iconst (-1), 1) := by decide +kernel
theorem dX10_merged_16 : decode cX10_merged 16 = .ok (.ireturn, 1) := by decide +kernel
theorem dX10_merged_17 : decode cX10_merged 17 = .ok (.aload_n 0, 1) := by decide +kernel
theorem dX10_merged_18 : decode cX10_merged 18 = .ok (.getfield 10, 3) := by decide +kernel
theorem dX10_merged_21 : decode cX10_merged 21 = .ok (.getfield 267, 3) := by decide +kernel
theorem dX10_merged_24 : decode cX10_merged 24 = .ok (.invokevirtual 271, 3) := by decide +kernel
theorem dX10_merged_27 : decode cX10_merged 27 = .ok (.iconst (-1), 1) := by decide +kernel
theorem dX10_merged_28 : decode cX10_merged 28 = .ok (.istore_n 2, 1) := by decide +kernel
theorem dX10_merged_29 : decode cX10_merged 29 = .ok (.iconst 0, 1) := by decide +kernel
theorem dX10_merged_30 : decode cX10_merged 30 = .ok (.istore_n 3, 1) := by decide +kernel
theorem dX10_merged_31 : decode cX10_merged 31 = .ok (.iload_n 3, 1) := by decide +kernel
theorem dX10_merged_32 : decode cX10_merged 32 = .ok (.iload_n 1, 1) := by decide +kernel
theorem dX10_merged_33 : decode cX10_merged 33 = .ok (.if_icmp .gt 20, 3) := by decide +kernel
theorem dX10_merged_36 : decode cX10_merged 36 = .ok (.aload_n 0, 1) := by decide +kernel
theorem dX10_merged_37 : decode cX10_merged 37 = .ok (.getfield 10, 3) := by decide +kernel
theorem dX10_merged_40 : decode cX10_merged 40 = .ok (.getfield 267, 3) := by decide +kernel
theorem dX10_merged_43 : decode cX10_merged 43 = .ok (.invokevirtual 276, 3) := by decide +kernel
theorem dX10_merged_46 : decode cX10_merged 46 = .ok (.istore_n 2, 1) := by decide +kernel
theorem dX10_merged_47 : decode cX10_merged 47 = .ok (.iinc 3 1, 3) := by decide +kernel
theorem dX10_merged_50 : decode cX10_merged 50 = .ok (.goto (-19), 3) := by decide +kernel
theorem dX10_merged_53 : decode cX10_merged 53 = .ok (.iload_n 2, 1) := by decide +kernel
theorem dX10_merged_54 : decode cX10_merged 54 = .ok (.ireturn, 1) := by decide +kernel
theorem dX10_would_0 : decode cX10_would 0 = .ok (.aload_n 0, 1) := by decide +kernel
theorem dX10_would_1 : decode cX10_would 1 = .ok (.getfield 10, 3) := by decide +kernel
theorem dX10_would_4 : decode cX10_would 4 = .ok (.iload_n 1, 1) := by decide +kernel
theorem dX10_would_5 : decode cX10_would 5 = .ok (.invokevirtual 138, 3) := by decide +kernel
theorem dX10_would_8 : decode cX10_would 8 = .ok (.astore 4, 2) := by decide +kernel
theorem dX10_would_10 : decode cX10_would 10 = .ok (.aload 4, 2) := by decide +kernel
theorem dX10_would_12 : decode cX10_would 12 = .ok (.ifnull 10, 3) := by decide +kernel
theorem dX10_would_15 : decode cX10_would 15 = .ok (.iload_n 2, 1) := by decide +kernel
theorem dX10_would_16 : decode cX10_would 16 = .ok (.invokestatic 279, 3) := by decide +kernel
theorem dX10_would_19 : decode cX10_would 19 = .ok (.ifCond .ne 5, 3) := by decide +kernel
theorem dX10_would_22 : decode cX10_would 22 = .ok (.iconst (-1), 1) := by decide +kernel
theorem dX10_would_23 : decode cX10_would 23 = .ok (.ireturn, 1) := by decide +kernel
theorem dX10_would_24 : decode cX10_would 24 = .ok (.aload 4, 2) := by decide +kernel
theorem dX10_would_26 : decode cX10_would 26 = .ok (.iload_n 2, 1) := by decide +kernel
theorem dX10_would_27 : decode cX10_would 27 = .ok (.invokevirtual 180, 3) := by decide +kernel
theorem dX10_would_30 : decode cX10_would 30 = .ok (.iconst (-1), 1) := by decide +kernel
theorem dX10_would_31 : decode cX10_would 31 = .ok (.if_icmp .eq 7, 3) := by decide +kernel
theorem dX10_would_34 : decode cX10_would 34 = .ok (.iconst 1, 1) := by decide +kernel
theorem dX10_would_35 : decode cX10_would 35 = .ok (.goto 4, 3) := by decide +kernel
theorem dX10_would_38 : decode cX10_would 38 = .ok (.iconst 0, 1) := by decide +kernel
theorem dX10_would_39 : decode cX10_would 39 = .ok (.istore 5, 2) := by decide +kernel
theorem dX10_would_41 : decode cX10_would 41 = .ok (.iload 5, 2) := by decide +kernel
theorem dX10_would_43 : decode cX10_would 43 = .ok (.iload_n 3, 1) := by decide +kernel
theorem dX10_would_44 : decode cX10_would 44 = .ok (.if_icmp .eq 5, 3) := by decide +kernel
theorem dX10_would_47 : decode cX10_would 47 = .ok (.iconst (-1), 1) := by decide +kernel
theorem dX10_would_48 : decode cX10_would 48 = .ok (.ireturn, 1) := by decide +kernel
theorem dX10_would_49 : decode cX10_would 49 = .ok (.aload_n 0, 1) := by decide +kernel
theorem dX10_would_50 : decode cX10_would 50 = .ok (.getfield 10, 3) := by decide +kernel
theorem dX10_would_53 : decode cX10_would 53 = .ok (.getfield 283, 3) := by decide +kernel
theorem dX10_would_56 : decode cX10_would 56 = .ok (.aload 4, 2) := by decide +kernel
theorem dX10_would_58 : decode cX10_would 58 = .ok (.iload_n 3, 1) := by decide +kernel
theorem dX10_would_59 : decode cX10_would 59 = .ok (.ifCond .eq 7, 3) := by decide +kernel
theorem dX10_would_62 : decode cX10_would 62 = .ok (.iconst (-1), 1) := by decide +kernel
theorem dX10_would_63 : decode cX10_would 63 = .ok (.goto 4, 3) := by decide +kernel
theorem dX10_would_66 : decode cX10_would 66 = .ok (.iload_n 2, 1) := by decide +kernel
theorem dX10_would_67 : decode cX10_would 67 = .ok (.iload_n 3, 1) := by decide +kernel
theorem dX10_would_68 : decode cX10_would 68 = .ok (.ifCond .eq 7, 3) := by decide +kernel
theorem dX10_would_71 : decode cX10_would 71 = .ok (.iload_n 2, 1) := by decide +kernel
theorem dX10_would_72 : decode cX10_would 72 = .ok (.goto 4, 3) := by decide +kernel
theorem dX10_would_75 : decode cX10_would 75 = .ok (.iconst (-1), 1) := by decide +kernel
theorem dX10_would_76 : decode cX10_would 76 = .ok (.invokevirtual 287, 3) := by decide +kernel
theorem dX10_would_79 : decode cX10_would 79 = .ok (.aload_n 0, 1) := by decide +kernel
theorem dX10_would_80 : decode cX10_would 80 = .ok (.getfield 10, 3) := by decide +kernel
theorem dX10_would_83 : decode cX10_would 83 = .ok (.getfield 283, 3) := by decide +kernel
theorem dX10_would_86 : decode cX10_would 86 = .ok (.invokevirtual 162, 3) := by decide +kernel
theorem dX10_would_89 : decode cX10_would 89 = .ok (.ireturn, 1) := by decide +kernel
theorem dX10_halves_0 : decode cX10_halves 0 = .ok (.aload_n 0, 1) := by decide +kernel
theorem dX10_halves_1 : decode cX10_halves 1 = .ok (.getfield 10, 3) := by decide +kernel
theorem dX10_halves_4 : decode cX10_halves 4 = .ok (.iload_n 1, 1) := by decide +kernel
theorem dX10_halves_5 : decode cX10_halves 5 = .ok (.invokevirtual 138, 3) := by decide +kernel
theorem dX10_halves_8 : decode cX10_halves 8 = .ok (.astore_n 2, 1) := by decide +kernel
theorem dX10_halves_9 : decode cX10_halves 9 = .ok (.aload_n 2, 1) := by decide +kernel
theorem dX10_halves_10 : decode cX10_halves 10 = .ok (.ifnull 11, 3) := by decide +kernel
theorem dX10_halves_13 : decode cX10_halves 13 = .ok (.aload_n 2, 1) := by decide +kernel
theorem dX10_halves_14 : decode cX10_halves 14 = .ok (.getfield 142, 3) := by decide +kernel
theorem dX10_halves_17 : decode cX10_halves 17 = .ok (.iconst 2, 1) := by decide +kernel
theorem dX10_halves_18 : decode cX10_halves 18 = .ok (.if_icmp .ge 5, 3) := by decide +kernel
theorem dX10_halves_21 : decode cX10_halves 21 = .ok (.iconst (-1), 1) := by decide +kernel
theorem dX10_halves_22 : decode cX10_halves 22 = .ok (.ireturn, 1) := by decide +kernel
theorem dX10_halves_23 : decode cX10_halves 23 = .ok (.aload_n 2, 1) := by decide +kernel
theorem dX10_halves_24 : decode cX10_halves 24 = .ok (.aload_n 2, 1) := by decide +kernel
theorem dX10_halves_25 : decode cX10_halves 25 = .ok (.getfield 142, 3) := by decide +kernel
theorem dX10_halves_28 : decode cX10_halves 28 = .ok (.iconst 1, 1) := by decide +kernel
theorem dX10_halves_29 : decode cX10_halves 29 = .ok (.iadd, 1) := by decide +kernel
theorem dX10_halves_30 : decode cX10_halves 30 = .ok (.iconst 2, 1) := by decide +kernel
theorem dX10_halves_31 : decode cX10_halves 31 = .ok (.idiv, 1) := by decide +kernel
theorem dX10_halves_32 : decode cX10_halves 32 = .ok (.iconst 1, 1) := by decide +kernel
theorem dX10_halves_33 : decode cX10_halves 33 = .ok (.isub, 1) := by decide +kernel
theorem dX10_halves_34 : decode cX10_halves 34 = .ok (.invokevirtual 147, 3) := by decide +kernel
theorem dX10_halves_37 : decode cX10_halves 37 = .ok (.ireturn, 1) := by decide +kernel
theorem dX10_tell_0 : decode cX10_tell 0 = .ok (.aload_n 0, 1) := by decide +kernel
theorem dX10_tell_1 : decode cX10_tell 1 = .ok (.getfield 10, 3) := by decide +kernel
theorem dX10_tell_4 : decode cX10_tell 4 = .ok (.iload_n 1, 1) := by decide +kernel
theorem dX10_tell_5 : decode cX10_tell 5 = .ok (.invokevirtual 138, 3) := by decide +kernel
theorem dX10_tell_8 : decode cX10_tell 8 = .ok (.astore_n 2, 1) := by decide +kernel
theorem dX10_tell_9 : decode cX10_tell 9 = .ok (.aload_n 2, 1) := by decide +kernel
theorem dX10_tell_10 : decode cX10_tell 10 = .ok (.ifnonnull 5, 3) := by decide +kernel
theorem dX10_tell_13 : decode cX10_tell 13 = .ok (.iconst (-1), 1) := by decide +kernel
theorem dX10_tell_14 : decode cX10_tell 14 = .ok (.ireturn, 1) := by decide +kernel
theorem dX10_tell_15 : decode cX10_tell 15 = .ok (.aload_n 0, 1) := by decide +kernel
theorem dX10_tell_16 : decode cX10_tell 16 = .ok (.getfield 32, 3) := by decide +kernel
theorem dX10_tell_19 : decode cX10_tell 19 = .ok (.iconst 0, 1) := by decide +kernel
theorem dX10_tell_20 : decode cX10_tell 20 = .ok (.putfield 65, 3) := by decide +kernel
theorem dX10_tell_23 : decode cX10_tell 23 = .ok (.iconst 0, 1) := by decide +kernel
theorem dX10_tell_24 : decode cX10_tell 24 = .ok (.istore_n 3, 1) := by decide +kernel
theorem dX10_tell_25 : decode cX10_tell 25 = .ok (.iload_n 3, 1) := by decide +kernel
theorem dX10_tell_26 : decode cX10_tell 26 = .ok (.aload_n 2, 1) := by decide +kernel
theorem dX10_tell_27 : decode cX10_tell 27 = .ok (.getfield 142, 3) := by decide +kernel
theorem dX10_tell_30 : decode cX10_tell 30 = .ok (.if_icmp .ge 93, 3) := by decide +kernel
theorem dX10_tell_33 : decode cX10_tell 33 = .ok (.aload_n 2, 1) := by decide +kernel
theorem dX10_tell_34 : decode cX10_tell 34 = .ok (.iload_n 3, 1) := by decide +kernel
theorem dX10_tell_35 : decode cX10_tell 35 = .ok (.invokevirtual 291, 3) := by decide +kernel
theorem dX10_tell_38 : decode cX10_tell 38 = .ok (.istore 4, 2) := by decide +kernel
theorem dX10_tell_40 : decode cX10_tell 40 = .ok (.iload_n 3, 1) := by decide +kernel
theorem dX10_tell_41 : decode cX10_tell 41 = .ok (.ifCond .le 12, 3) := by decide +kernel
theorem dX10_tell_44 : decode cX10_tell 44 = .ok (.aload_n 0, 1) := by decide +kernel
theorem dX10_tell_45 : decode cX10_tell 45 = .ok (.getfield 32, 3) := by decide +kernel
theorem dX10_tell_48 : decode cX10_tell 48 = .ok (.bipush 32, 2) := by decide +kernel
theorem dX10_tell_50 : decode cX10_tell 50 = .ok (.invokevirtual 294, 3) := by decide +kernel
theorem dX10_tell_53 : decode cX10_tell 53 = .ok (.aload_n 0, 1) := by decide +kernel
theorem dX10_tell_54 : decode cX10_tell 54 = .ok (.getfield 32, 3) := by decide +kernel
theorem dX10_tell_57 : decode cX10_tell 57 = .ok (.aload_n 2, 1) := by decide +kernel
theorem dX10_tell_58 : decode cX10_tell 58 = .ok (.iload_n 3, 1) := by decide +kernel
theorem dX10_tell_59 : decode cX10_tell 59 = .ok (.invokevirtual 147, 3) := by decide +kernel
theorem dX10_tell_62 : decode cX10_tell 62 = .ok (.invokevirtual 297, 3) := by decide +kernel
theorem dX10_tell_65 : decode cX10_tell 65 = .ok (.iload 4, 2) := by decide +kernel
theorem dX10_tell_67 : decode cX10_tell 67 = .ok (.iload_n 3, 1) := by decide +kernel
theorem dX10_tell_68 : decode cX10_tell 68 = .ok (.if_icmp .le 25, 3) := by decide +kernel
theorem dX10_tell_71 : decode cX10_tell 71 = .ok (.aload_n 0, 1) := by decide +kernel
theorem dX10_tell_72 : decode cX10_tell 72 = .ok (.getfield 32, 3) := by decide +kernel
theorem dX10_tell_75 : decode cX10_tell 75 = .ok (.bipush 45, 2) := by decide +kernel
theorem dX10_tell_77 : decode cX10_tell 77 = .ok (.invokevirtual 294, 3) := by decide +kernel
theorem dX10_tell_80 : decode cX10_tell 80 = .ok (.aload_n 0, 1) := by decide +kernel
theorem dX10_tell_81 : decode cX10_tell 81 = .ok (.getfield 32, 3) := by decide +kernel
theorem dX10_tell_84 : decode cX10_tell 84 = .ok (.aload_n 2, 1) := by decide +kernel
theorem dX10_tell_85 : decode cX10_tell 85 = .ok (.iload 4, 2) := by decide +kernel
theorem dX10_tell_87 : decode cX10_tell 87 = .ok (.invokevirtual 147, 3) := by decide +kernel
theorem dX10_tell_90 : decode cX10_tell 90 = .ok (.invokevirtual 297, 3) := by decide +kernel
theorem dX10_tell_93 : decode cX10_tell 93 = .ok (.aload_n 2, 1) := by decide +kernel
theorem dX10_tell_94 : decode cX10_tell 94 = .ok (.iload_n 3, 1) := by decide +kernel
theorem dX10_tell_95 : decode cX10_tell 95 = .ok (.invokevirtual 183, 3) := by decide +kernel
theorem dX10_tell_98 : decode cX10_tell 98 = .ok (.iconst 1, 1) := by decide +kernel
theorem dX10_tell_99 : decode cX10_tell 99 = .ok (.if_icmp .ne 12, 3) := by decide +kernel
theorem dX10_tell_102 : decode cX10_tell 102 = .ok (.aload_n 0, 1) := by decide +kernel
theorem dX10_tell_103 : decode cX10_tell 103 = .ok (.getfield 32, 3) := by decide +kernel
theorem dX10_tell_106 : decode cX10_tell 106 = .ok (.bipush 42, 2) := by decide +kernel
theorem dX10_tell_108 : decode cX10_tell 108 = .ok (.invokevirtual 294, 3) := by decide +kernel
theorem dX10_tell_111 : decode cX10_tell 111 = .ok (.iload_n 3, 1) := by decide +kernel
theorem dX10_tell_112 : decode cX10_tell 112 = .ok (.iload 4, 2) := by decide +kernel
theorem dX10_tell_114 : decode cX10_tell 114 = .ok (.invokestatic 300, 3) := by decide +kernel
theorem dX10_tell_117 : decode cX10_tell 117 = .ok (.iconst 1, 1) := by decide +kernel
theorem dX10_tell_118 : decode cX10_tell 118 = .ok (.iadd, 1) := by decide +kernel
theorem dX10_tell_119 : decode cX10_tell 119 = .ok (.istore_n 3, 1) := by decide +kernel
theorem dX10_tell_120 : decode cX10_tell 120 = .ok (.goto (-95), 3) := by decide +kernel
theorem dX10_tell_123 : decode cX10_tell 123 = .ok (.aload_n 0, 1) := by decide +kernel
theorem dX10_tell_124 : decode cX10_tell 124 = .ok (.getfield 32, 3) := by decide +kernel
theorem dX10_tell_127 : decode cX10_tell 127 = .ok (.getfield 65, 3) := by decide +kernel
theorem dX10_tell_130 : decode cX10_tell 130 = .ok (.ireturn, 1) := by decide +kernel
theorem dX10_octet_0 : decode cX10_octet 0 = .ok (.aload_n 0, 1) := by decide +kernel
theorem dX10_octet_1 : decode cX10_octet 1 = .ok (.getfield 32, 3) := by decide +kernel
theorem dX10_octet_4 : decode cX10_octet 4 = .ok (.iload_n 1, 1) := by decide +kernel
theorem dX10_octet_5 : decode cX10_octet 5 = .ok (.invokevirtual 305, 3) := by decide +kernel
theorem dX10_octet_8 : decode cX10_octet 8 = .ok (.ireturn, 1) := by decide +kernel
theorem dX10_image_0 : decode cX10_image 0 = .ok (.iload_n 1, 1) := by decide +kernel
theorem dX10_image_1 : decode cX10_image 1 = .ok (.ifCond .lt 8, 3) := by decide +kernel
theorem dX10_image_4 : decode cX10_image 4 = .ok (.iload_n 1, 1) := by decide +kernel
theorem dX10_image_5 : decode cX10_image 5 = .ok (.iconst 3, 1) := by decide +kernel
theorem dX10_image_6 : decode cX10_image 6 = .ok (.if_icmp .lt 5, 3) := by decide +kernel
theorem dX10_image_9 : decode cX10_image 9 = .ok (.iconst 0, 1) := by decide +kernel
theorem dX10_image_10 : decode cX10_image 10 = .ok (.ireturn, 1) := by decide +kernel
theorem dX10_image_11 : decode cX10_image 11 = .ok (.aload_n 0, 1) := by decide +kernel
theorem dX10_image_12 : decode cX10_image 12 = .ok (.getfield 53, 3) := by decide +kernel
theorem dX10_image_15 : decode cX10_image 15 = .ok (.iload_n 1, 1) := by decide +kernel
theorem dX10_image_16 : decode cX10_image 16 = .ok (.aaload, 1) := by decide +kernel
theorem dX10_image_17 : decode cX10_image 17 = .ok (.astore_n 2, 1) := by decide +kernel
theorem dX10_image_18 : decode cX10_image 18 = .ok (.aload_n 2, 1) := by decide +kernel
theorem dX10_image_19 : decode cX10_image 19 = .ok (.iconst 1, 1) := by decide +kernel
theorem dX10_image_20 : decode cX10_image 20 = .ok (.putfield 308, 3) := by decide +kernel
theorem dX10_image_23 : decode cX10_image 23 = .ok (.aload_n 2, 1) := by decide +kernel
theorem dX10_image_24 : decode cX10_image 24 = .ok (.getfield 312, 3) := by decide +kernel
theorem dX10_image_27 : decode cX10_image 27 = .ok (.aload_n 0, 1) := by decide +kernel
theorem dX10_image_28 : decode cX10_image 28 = .ok (.getfield 10, 3) := by decide +kernel
theorem dX10_image_31 : decode cX10_image 31 = .ok (.invokevirtual 72, 3) := by decide +kernel
theorem dX10_image_34 : decode cX10_image 34 = .ok (.aload_n 2, 1) := by decide +kernel
theorem dX10_image_35 : decode cX10_image 35 = .ok (.getfield 314, 3) := by decide +kernel
theorem dX10_image_38 : decode cX10_image 38 = .ok (.aload_n 0, 1) := by decide +kernel
theorem dX10_image_39 : decode cX10_image 39 = .ok (.getfield 28, 3) := by decide +kernel
theorem dX10_image_42 : decode cX10_image 42 = .ok (.invokevirtual 315, 3) := by decide +kernel
theorem dX10_image_45 : decode cX10_image 45 = .ok (.aload_n 2, 1) := by decide +kernel
theorem dX10_image_46 : decode cX10_image 46 = .ok (.getfield 319, 3) := by decide +kernel
theorem dX10_image_49 : decode cX10_image 49 = .ok (.aload_n 0, 1) := by decide +kernel
theorem dX10_image_50 : decode cX10_image 50 = .ok (.getfield 32, 3) := by decide +kernel
theorem dX10_image_53 : decode cX10_image 53 = .ok (.invokevirtual 315, 3) := by decide +kernel
theorem dX10_image_56 : decode cX10_image 56 = .ok (.aload_n 2, 1) := by decide +kernel
theorem dX10_image_57 : decode cX10_image 57 = .ok (.aload_n 0, 1) := by decide +kernel
theorem dX10_image_58 : decode cX10_image 58 = .ok (.getfield 58, 3) := by decide +kernel
theorem dX10_image_61 : decode cX10_image 61 = .ok (.putfield 320, 3) := by decide +kernel
theorem dX10_image_64 : decode cX10_image 64 = .ok (.aload_n 2, 1) := by decide +kernel
theorem dX10_image_65 : decode cX10_image 65 = .ok (.aload_n 0, 1) := by decide +kernel
theorem dX10_image_66 : decode cX10_image 66 = .ok (.getfield 62, 3) := by decide +kernel
theorem dX10_image_69 : decode cX10_image 69 = .ok (.putfield 321, 3) := by decide +kernel
theorem dX10_image_72 : decode cX10_image 72 = .ok (.iconst 1, 1) := by decide +kernel
theorem dX10_image_73 : decode cX10_image 73 = .ok (.ireturn, 1) := by decide +kernel
theorem dX10_again_0 : decode cX10_again 0 = .ok (.iload_n 1, 1) := by decide +kernel
theorem dX10_again_1 : decode cX10_again 1 = .ok (.ifCond .lt 20, 3) := by decide +kernel
theorem dX10_again_4 : decode cX10_again 4 = .ok (.iload_n 1, 1) := by decide +kernel
theorem dX10_again_5 : decode cX10_again 5 = .ok (.iconst 3, 1) := by decide +kernel
theorem dX10_again_6 : decode cX10_again 6 = .ok (.if_icmp .ge 15, 3) := by decide +kernel
theorem dX10_again_9 : decode cX10_again 9 = .ok (.aload_n 0, 1) := by decide +kernel
theorem dX10_again_10 : decode cX10_again 10 = .ok (.getfield 53, 3) := by decide +kernel
theorem dX10_again_13 : decode cX10_again 13 = .ok (.iload_n 1, 1) := by decide +kernel
theorem dX10_again_14 : decode cX10_again 14 = .ok (.aaload, 1) := by decide +kernel
theorem dX10_again_15 : decode cX10_again 15 = .ok (.getfield 308, 3) := by decide +kernel
theorem dX10_again_18 : decode cX10_again 18 = .ok (.ifCond .ne 5, 3) := by decide +kernel
theorem dX10_again_21 : decode cX10_again 21 = .ok (.iconst 0, 1) := by decide +kernel
theorem dX10_again_22 : decode cX10_again 22 = .ok (.ireturn, 1) := by decide +kernel
theorem dX10_again_23 : decode cX10_again 23 = .ok (.aload_n 0, 1) := by decide +kernel
theorem dX10_again_24 : decode cX10_again 24 = .ok (.getfield 53, 3) := by decide +kernel
theorem dX10_again_27 : decode cX10_again 27 = .ok (.iload_n 1, 1) := by decide +kernel
theorem dX10_again_28 : decode cX10_again 28 = .ok (.aaload, 1) := by decide +kernel
theorem dX10_again_29 : decode cX10_again 29 = .ok (.astore_n 2, 1) := by decide +kernel
theorem dX10_again_30 : decode cX10_again 30 = .ok (.aload_n 2, 1) := by decide +kernel
theorem dX10_again_31 : decode cX10_again 31 = .ok (.getfield 312, 3) := by decide +kernel
theorem dX10_again_34 : decode cX10_again 34 = .ok (.aload_n 0, 1) := by decide +kernel
theorem dX10_again_35 : decode cX10_again 35 = .ok (.getfield 10, 3) := by decide +kernel
theorem dX10_again_38 : decode cX10_again 38 = .ok (.invokevirtual 84, 3) := by decide +kernel
theorem dX10_again_41 : decode cX10_again 41 = .ok (.aload_n 0, 1) := by decide +kernel
theorem dX10_again_42 : decode cX10_again 42 = .ok (.getfield 28, 3) := by decide +kernel
theorem dX10_again_45 : decode cX10_again 45 = .ok (.aload_n 2, 1) := by decide +kernel
theorem dX10_again_46 : decode cX10_again 46 = .ok (.getfield 314, 3) := by decide +kernel
theorem dX10_again_49 : decode cX10_again 49 = .ok (.invokevirtual 315, 3) := by decide +kernel
theorem dX10_again_52 : decode cX10_again 52 = .ok (.aload_n 0, 1) := by decide +kernel
theorem dX10_again_53 : decode cX10_again 53 = .ok (.getfield 32, 3) := by decide +kernel
theorem dX10_again_56 : decode cX10_again 56 = .ok (.aload_n 2, 1) := by decide +kernel
theorem dX10_again_57 : decode cX10_again 57 = .ok (.getfield 319, 3) := by decide +kernel
theorem dX10_again_60 : decode cX10_again 60 = .ok (.invokevirtual 315, 3) := by decide +kernel
theorem dX10_again_63 : decode cX10_again 63 = .ok (.aload_n 0, 1) := by decide +kernel
theorem dX10_again_64 : decode cX10_again 64 = .ok (.aload_n 2, 1) := by decide +kernel
theorem dX10_again_65 : decode cX10_again 65 = .ok (.getfield 320, 3) := by decide +kernel
theorem dX10_again_68 : decode cX10_again 68 = .ok (.putfield 58, 3) := by decide +kernel
theorem dX10_again_71 : decode cX10_again 71 = .ok (.aload_n 0, 1) := by decide +kernel
theorem dX10_again_72 : decode cX10_again 72 = .ok (.aload_n 2, 1) := by decide +kernel
theorem dX10_again_73 : decode cX10_again 73 = .ok (.getfield 321, 3) := by decide +kernel
theorem dX10_again_76 : decode cX10_again 76 = .ok (.putfield 62, 3) := by decide +kernel
theorem dX10_again_79 : decode cX10_again 79 = .ok (.aload_n 0, 1) := by decide +kernel
theorem dX10_again_80 : decode cX10_again 80 = .ok (.getfield 19, 3) := by decide +kernel
theorem dX10_again_83 : decode cX10_again 83 = .ok (.invokevirtual 87, 3) := by decide +kernel
theorem dX10_again_86 : decode cX10_again 86 = .ok (.iconst 1, 1) := by decide +kernel
theorem dX10_again_87 : decode cX10_again 87 = .ok (.ireturn, 1) := by decide +kernel
theorem dX10_isKey_0 : decode cX10_isKey 0 = .ok (.iload_n 0, 1) := by decide +kernel
theorem dX10_isKey_1 : decode cX10_isKey 1 = .ok (.ifCond .lt 14, 3) := by decide +kernel
theorem dX10_isKey_4 : decode cX10_isKey 4 = .ok (.iload_n 0, 1) := by decide +kernel
theorem dX10_isKey_5 : decode cX10_isKey 5 = .ok (.sipush 9999, 3) := by decide +kernel
theorem dX10_isKey_8 : decode cX10_isKey 8 = .ok (.if_icmp .gt 7, 3) := by decide +kernel
theorem dX10_isKey_11 : decode cX10_isKey 11 = .ok (.iconst 1, 1) := by decide +kernel
theorem dX10_isKey_12 : decode cX10_isKey 12 = .ok (.goto 4, 3) := by decide +kernel
theorem dX10_isKey_15 : decode cX10_isKey 15 = .ok (.iconst 0, 1) := by decide +kernel
theorem dX10_isKey_16 : decode cX10_isKey 16 = .ok (.ireturn, 1) := by decide +kernel
theorem dX10_priority_0 : decode cX10_priority 0 = .ok (.iload_n 0, 1) := by decide +kernel
theorem dX10_priority_1 : decode cX10_priority 1 = .ok (.ldc_w 322, 3) := by decide +kernel
theorem dX10_priority_4 : decode cX10_priority 4 = .ok (.imul, 1) := by decide +kernel
theorem dX10_priority_5 : decode cX10_priority 5 = .ok (.sipush 9973, 3) := by decide +kernel
theorem dX10_priority_8 : decode cX10_priority 8 = .ok (.iadd, 1) := by decide +kernel
theorem dX10_priority_9 : decode cX10_priority 9 = .ok (.ldc_w 323, 3) := by decide +kernel
theorem dX10_priority_12 : decode cX10_priority 12 = .ok (.iand, 1) := by decide +kernel
theorem dX10_priority_13 : decode cX10_priority 13 = .ok (.ireturn, 1) := by decide +kernel
theorem dJ6_compare_7cf53_0 : decode cJ6_compare_7cf53 0 = .ok (.iload_n 0, 1) := by decide +kernel
theorem dJ6_compare_7cf53_1 : decode cJ6_compare_7cf53 1 = .ok (.iload_n 1, 1) := by decide +kernel
theorem dJ6_compare_7cf53_2 : decode cJ6_compare_7cf53 2 = .ok (.if_icmp .ge 7, 3) := by decide +kernel
theorem dJ6_compare_7cf53_5 : decode cJ6_compare_7cf53 5 = .ok (.iconst (-1), 1) := by decide +kernel
theorem dJ6_compare_7cf53_6 : decode cJ6_compare_7cf53 6 = .ok (.goto 13, 3) := by decide +kernel
theorem dJ6_compare_7cf53_9 : decode cJ6_compare_7cf53 9 = .ok (.iload_n 0, 1) := by decide +kernel
theorem dJ6_compare_7cf53_10 : decode cJ6_compare_7cf53 10 = .ok (.iload_n 1, 1) := by decide +kernel
theorem dJ6_compare_7cf53_11 : decode cJ6_compare_7cf53 11 = .ok (.if_icmp .ne 7, 3) := by decide +kernel
theorem dJ6_compare_7cf53_14 : decode cJ6_compare_7cf53 14 = .ok (.iconst 0, 1) := by decide +kernel
theorem dJ6_compare_7cf53_15 : decode cJ6_compare_7cf53 15 = .ok (.goto 4, 3) := by decide +kernel
theorem dJ6_compare_7cf53_18 : decode cJ6_compare_7cf53 18 = .ok (.iconst 1, 1) := by decide +kernel
theorem dJ6_compare_7cf53_19 : decode cJ6_compare_7cf53 19 = .ok (.ireturn, 1) := by decide +kernel
theorem dJ9_max_7cf53_0 : decode cJ9_max_7cf53 0 = .ok (.iload_n 0, 1) := by decide +kernel
theorem dJ9_max_7cf53_1 : decode cJ9_max_7cf53 1 = .ok (.iload_n 1, 1) := by decide +kernel
theorem dJ9_max_7cf53_2 : decode cJ9_max_7cf53 2 = .ok (.if_icmp .lt 7, 3) := by decide +kernel
theorem dJ9_max_7cf53_5 : decode cJ9_max_7cf53 5 = .ok (.iload_n 0, 1) := by decide +kernel
theorem dJ9_max_7cf53_6 : decode cJ9_max_7cf53 6 = .ok (.goto 4, 3) := by decide +kernel
theorem dJ9_max_7cf53_9 : decode cJ9_max_7cf53 9 = .ok (.iload_n 1, 1) := by decide +kernel
theorem dJ9_max_7cf53_10 : decode cJ9_max_7cf53 10 = .ok (.ireturn, 1) := by decide +kernel
theorem dJ9_min_7cf53_0 : decode cJ9_min_7cf53 0 = .ok (.iload_n 0, 1) := by decide +kernel
theorem dJ9_min_7cf53_1 : decode cJ9_min_7cf53 1 = .ok (.iload_n 1, 1) := by decide +kernel
theorem dJ9_min_7cf53_2 : decode cJ9_min_7cf53 2 = .ok (.if_icmp .gt 7, 3) := by decide +kernel
theorem dJ9_min_7cf53_5 : decode cJ9_min_7cf53 5 = .ok (.iload_n 0, 1) := by decide +kernel
theorem dJ9_min_7cf53_6 : decode cJ9_min_7cf53 6 = .ok (.goto 4, 3) := by decide +kernel
theorem dJ9_min_7cf53_9 : decode cJ9_min_7cf53 9 = .ok (.iload_n 1, 1) := by decide +kernel
theorem dJ9_min_7cf53_10 : decode cJ9_min_7cf53 10 = .ok (.ireturn, 1) := by decide +kernel
theorem dJ0_length_8abf5_0 : decode cJ0_length_8abf5 0 = .ok (.aload_n 0, 1) := by decide +kernel
theorem dJ0_length_8abf5_1 : decode cJ0_length_8abf5 1 = .ok (.getfield 9, 3) := by decide +kernel
theorem dJ0_length_8abf5_4 : decode cJ0_length_8abf5 4 = .ok (.arraylength, 1) := by decide +kernel
theorem dJ0_length_8abf5_5 : decode cJ0_length_8abf5 5 = .ok (.aload_n 0, 1) := by decide +kernel
theorem dJ0_length_8abf5_6 : decode cJ0_length_8abf5 6 = .ok (.invokevirtual 335, 3) := by decide +kernel
theorem dJ0_length_8abf5_9 : decode cJ0_length_8abf5 9 = .ok (.ishr, 1) := by decide +kernel
theorem dJ0_length_8abf5_10 : decode cJ0_length_8abf5 10 = .ok (.ireturn, 1) := by decide +kernel
theorem dJ0_charAt_5068e_0 : decode cJ0_charAt_5068e 0 = .ok (.aload_n 0, 1) := by decide +kernel
theorem dJ0_charAt_5068e_1 : decode cJ0_charAt_5068e 1 = .ok (.invokevirtual 492, 3) := by decide +kernel
theorem dJ0_charAt_5068e_4 : decode cJ0_charAt_5068e 4 = .ok (.ifCond .eq 12, 3) := by decide +kernel
theorem dJ0_charAt_5068e_7 : decode cJ0_charAt_5068e 7 = .ok (.aload_n 0, 1) := by decide +kernel
theorem dJ0_charAt_5068e_8 : decode cJ0_charAt_5068e 8 = .ok (.getfield 9, 3) := by decide +kernel
theorem dJ0_charAt_5068e_11 : decode cJ0_charAt_5068e 11 = .ok (.iload_n 1, 1) := by decide +kernel
theorem dJ0_charAt_5068e_12 : decode cJ0_charAt_5068e 12 = .ok (.invokestatic 495, 3) := by decide +kernel
theorem dJ0_charAt_5068e_15 : decode cJ0_charAt_5068e 15 = .ok (.ireturn, 1) := by decide +kernel
theorem dJ0_charAt_5068e_16 : decode cJ0_charAt_5068e 16 = .ok (.aload_n 0, 1) := by decide +kernel
theorem dJ0_charAt_5068e_17 : decode cJ0_charAt_5068e 17 = .ok (.getfield 9, 3) := by decide +kernel
theorem dJ0_charAt_5068e_20 : decode cJ0_charAt_5068e 20 = .ok (.iload_n 1, 1) := by decide +kernel
theorem dJ0_charAt_5068e_21 : decode cJ0_charAt_5068e 21 = .ok (.invokestatic 498, 3) := by decide +kernel
theorem dJ0_charAt_5068e_24 : decode cJ0_charAt_5068e 24 = .ok (.ireturn, 1) := by decide +kernel
theorem dJ0_coder_7d493_0 : decode cJ0_coder_7d493 0 = .ok (.getstatic 38, 3) := by decide +kernel
theorem dJ0_coder_7d493_3 : decode cJ0_coder_7d493 3 = .ok (.ifCond .eq 10, 3) := by decide +kernel
theorem dJ0_coder_7d493_6 : decode cJ0_coder_7d493 6 = .ok (.aload_n 0, 1) := by decide +kernel
theorem dJ0_coder_7d493_7 : decode cJ0_coder_7d493 7 = .ok (.getfield 15, 3) := by decide +kernel
theorem dJ0_coder_7d493_10 : decode cJ0_coder_7d493 10 = .ok (.goto 4, 3) := by decide +kernel
theorem dJ0_coder_7d493_13 : decode cJ0_coder_7d493 13 = .ok (.iconst 1, 1) := by decide +kernel
theorem dJ0_coder_7d493_14 : decode cJ0_coder_7d493 14 = .ok (.ireturn, 1) := by decide +kernel
theorem dJ0_isLatin1_aae02_0 : decode cJ0_isLatin1_aae02 0 = .ok (.getstatic 38, 3) := by decide +kernel
theorem dJ0_isLatin1_aae02_3 : decode cJ0_isLatin1_aae02 3 = .ok (.ifCond .eq 14, 3) := by decide +kernel
theorem dJ0_isLatin1_aae02_6 : decode cJ0_isLatin1_aae02 6 = .ok (.aload_n 0, 1) := by decide +kernel
theorem dJ0_isLatin1_aae02_7 : decode cJ0_isLatin1_aae02 7 = .ok (.getfield 15, 3) := by decide +kernel
theorem dJ0_isLatin1_aae02_10 : decode cJ0_isLatin1_aae02 10 = .ok (.ifCond .ne 7, 3) := by decide +kernel
theorem dJ0_isLatin1_aae02_13 : decode cJ0_isLatin1_aae02 13 = .ok (.iconst 1, 1) := by decide +kernel
theorem dJ0_isLatin1_aae02_14 : decode cJ0_isLatin1_aae02 14 = .ok (.goto 4, 3) := by decide +kernel
theorem dJ0_isLatin1_aae02_17 : decode cJ0_isLatin1_aae02 17 = .ok (.iconst 0, 1) := by decide +kernel
theorem dJ0_isLatin1_aae02_18 : decode cJ0_isLatin1_aae02 18 = .ok (.ireturn, 1) := by decide +kernel
theorem dJ0_checkIndex_df160_0 : decode cJ0_checkIndex_df160 0 = .ok (.iload_n 0, 1) := by decide +kernel
theorem dJ0_checkIndex_df160_1 : decode cJ0_checkIndex_df160 1 = .ok (.iload_n 1, 1) := by decide +kernel
theorem dJ0_checkIndex_df160_2 : decode cJ0_checkIndex_df160 2 = .ok (.getstatic 1053, 3) := by decide +kernel
theorem dJ0_checkIndex_df160_5 : decode cJ0_checkIndex_df160 5 = .ok (.invokestatic 1059, 3) := by decide +kernel
theorem dJ0_checkIndex_df160_8 : decode cJ0_checkIndex_df160 8 = .ok (.pop, 1) := by decide +kernel
theorem dJ0_checkIndex_df160_9 : decode cJ0_checkIndex_df160 9 = .ok (.return_, 1) := by decide +kernel
theorem dJ1_charAt_3b067_0 : decode cJ1_charAt_3b067 0 = .ok (.iload_n 1, 1) := by decide +kernel
theorem dJ1_charAt_3b067_1 : decode cJ1_charAt_3b067 1 = .ok (.aload_n 0, 1) := by decide +kernel
theorem dJ1_charAt_3b067_2 : decode cJ1_charAt_3b067 2 = .ok (.arraylength, 1) := by decide +kernel
theorem dJ1_charAt_3b067_3 : decode cJ1_charAt_3b067 3 = .ok (.invokestatic 9, 3) := by decide +kernel
theorem dJ1_charAt_3b067_6 : decode cJ1_charAt_3b067 6 = .ok (.aload_n 0, 1) := by decide +kernel
theorem dJ1_charAt_3b067_7 : decode cJ1_charAt_3b067 7 = .ok (.iload_n 1, 1) := by decide +kernel
theorem dJ1_charAt_3b067_8 : decode cJ1_charAt_3b067 8 = .ok (.baload, 1) := by decide +kernel
theorem dJ1_charAt_3b067_9 : decode cJ1_charAt_3b067 9 = .ok (.sipush 255, 3) := by decide +kernel
theorem dJ1_charAt_3b067_12 : decode cJ1_charAt_3b067 12 = .ok (.iand, 1) := by decide +kernel
theorem dJ1_charAt_3b067_13 : decode cJ1_charAt_3b067 13 = .ok (.i2c, 1) := by decide +kernel
theorem dJ1_charAt_3b067_14 : decode cJ1_charAt_3b067 14 = .ok (.ireturn, 1) := by decide +kernel
theorem dJ2_getChar_3b067_0 : decode cJ2_getChar_3b067 0 = .ok (.getstatic 44, 3) := by decide +kernel
theorem dJ2_getChar_3b067_3 : decode cJ2_getChar_3b067 3 = .ok (.ifCond .ne 25, 3) := by decide +kernel
theorem dJ2_getChar_3b067_6 : decode cJ2_getChar_3b067 6 = .ok (.iload_n 1, 1) := by decide +kernel
theorem dJ2_getChar_3b067_7 : decode cJ2_getChar_3b067 7 = .ok (.ifCond .lt 11, 3) := by decide +kernel
theorem dJ2_getChar_3b067_10 : decode cJ2_getChar_3b067 10 = .ok (.iload_n 1, 1) := by decide +kernel
theorem dJ2_getChar_3b067_11 : decode cJ2_getChar_3b067 11 = .ok (.aload_n 0, 1) := by decide +kernel
theorem dJ2_getChar_3b067_12 : decode cJ2_getChar_3b067 12 = .ok (.invokestatic 48, 3) := by decide +kernel
theorem dJ2_getChar_3b067_15 : decode cJ2_getChar_3b067 15 = .ok (.if_icmp .lt 13, 3) := by decide +kernel
theorem dJ2_getChar_3b067_18 : decode cJ2_getChar_3b067 18 = .ok (.new 52, 3) := by decide +kernel
theorem dJ2_getChar_3b067_21 : decode cJ2_getChar_3b067 21 = .ok (.dup, 1) := by decide +kernel
theorem dJ2_getChar_3b067_22 : decode cJ2_getChar_3b067 22 = .ok (.ldc 54, 2) := by decide +kernel
theorem dJ2_getChar_3b067_24 : decode cJ2_getChar_3b067 24 = .ok (.invokespecial 56, 3) := by decide +kernel
theorem dJ2_getChar_3b067_27 : decode cJ2_getChar_3b067 27 = .ok (.athrow, 1) := by decide +kernel
theorem dJ2_getChar_3b067_28 : decode cJ2_getChar_3b067 28 = .ok (.iload_n 1, 1) := by decide +kernel
theorem dJ2_getChar_3b067_29 : decode cJ2_getChar_3b067 29 = .ok (.iconst 1, 1) := by decide +kernel
theorem dJ2_getChar_3b067_30 : decode cJ2_getChar_3b067 30 = .ok (.ishl, 1) := by decide +kernel
theorem dJ2_getChar_3b067_31 : decode cJ2_getChar_3b067 31 = .ok (.istore_n 1, 1) := by decide +kernel
theorem dJ2_getChar_3b067_32 : decode cJ2_getChar_3b067 32 = .ok (.aload_n 0, 1) := by decide +kernel
theorem dJ2_getChar_3b067_33 : decode cJ2_getChar_3b067 33 = .ok (.iload_n 1, 1) := by decide +kernel
theorem dJ2_getChar_3b067_34 : decode cJ2_getChar_3b067 34 = .ok (.iinc 1 1, 3) := by decide +kernel
theorem dJ2_getChar_3b067_37 : decode cJ2_getChar_3b067 37 = .ok (.baload, 1) := by decide +kernel
theorem dJ2_getChar_3b067_38 : decode cJ2_getChar_3b067 38 = .ok (.sipush 255, 3) := by decide +kernel
theorem dJ2_getChar_3b067_41 : decode cJ2_getChar_3b067 41 = .ok (.iand, 1) := by decide +kernel
theorem dJ2_getChar_3b067_42 : decode cJ2_getChar_3b067 42 = .ok (.getstatic 59, 3) := by decide +kernel
theorem dJ2_getChar_3b067_45 : decode cJ2_getChar_3b067 45 = .ok (.ishl, 1) := by decide +kernel
theorem dJ2_getChar_3b067_46 : decode cJ2_getChar_3b067 46 = .ok (.aload_n 0, 1) := by decide +kernel
theorem dJ2_getChar_3b067_47 : decode cJ2_getChar_3b067 47 = .ok (.iload_n 1, 1) := by decide +kernel
theorem dJ2_getChar_3b067_48 : decode cJ2_getChar_3b067 48 = .ok (.baload, 1) := by decide +kernel
theorem dJ2_getChar_3b067_49 : decode cJ2_getChar_3b067 49 = .ok (.sipush 255, 3) := by decide +kernel
theorem dJ2_getChar_3b067_52 : decode cJ2_getChar_3b067 52 = .ok (.iand, 1) := by decide +kernel
theorem dJ2_getChar_3b067_53 : decode cJ2_getChar_3b067 53 = .ok (.getstatic 63, 3) := by decide +kernel
theorem dJ2_getChar_3b067_56 : decode cJ2_getChar_3b067 56 = .ok (.ishl, 1) := by decide +kernel
theorem dJ2_getChar_3b067_57 : decode cJ2_getChar_3b067 57 = .ok (.ior, 1) := by decide +kernel
theorem dJ2_getChar_3b067_58 : decode cJ2_getChar_3b067 58 = .ok (.i2c, 1) := by decide +kernel
theorem dJ2_getChar_3b067_59 : decode cJ2_getChar_3b067 59 = .ok (.ireturn, 1) := by decide +kernel
theorem dJ2_length_9d52b_0 : decode cJ2_length_9d52b 0 = .ok (.aload_n 0, 1) := by decide +kernel
theorem dJ2_length_9d52b_1 : decode cJ2_length_9d52b 1 = .ok (.arraylength, 1) := by decide +kernel
theorem dJ2_length_9d52b_2 : decode cJ2_length_9d52b 2 = .ok (.iconst 1, 1) := by decide +kernel
theorem dJ2_length_9d52b_3 : decode cJ2_length_9d52b 3 = .ok (.ishr, 1) := by decide +kernel
theorem dJ2_length_9d52b_4 : decode cJ2_length_9d52b 4 = .ok (.ireturn, 1) := by decide +kernel
theorem dJ2_charAt_3b067_0 : decode cJ2_charAt_3b067 0 = .ok (.iload_n 1, 1) := by decide +kernel
theorem dJ2_charAt_3b067_1 : decode cJ2_charAt_3b067 1 = .ok (.aload_n 0, 1) := by decide +kernel
theorem dJ2_charAt_3b067_2 : decode cJ2_charAt_3b067 2 = .ok (.invokestatic 67, 3) := by decide +kernel
theorem dJ2_charAt_3b067_5 : decode cJ2_charAt_3b067 5 = .ok (.aload_n 0, 1) := by decide +kernel
theorem dJ2_charAt_3b067_6 : decode cJ2_charAt_3b067 6 = .ok (.iload_n 1, 1) := by decide +kernel
theorem dJ2_charAt_3b067_7 : decode cJ2_charAt_3b067 7 = .ok (.invokestatic 71, 3) := by decide +kernel
theorem dJ2_charAt_3b067_10 : decode cJ2_charAt_3b067 10 = .ok (.ireturn, 1) := by decide +kernel
theorem dJ2_checkIndex_2214a_0 : decode cJ2_checkIndex_2214a 0 = .ok (.iload_n 0, 1) := by decide +kernel
theorem dJ2_checkIndex_2214a_1 : decode cJ2_checkIndex_2214a 1 = .ok (.aload_n 1, 1) := by decide +kernel
theorem dJ2_checkIndex_2214a_2 : decode cJ2_checkIndex_2214a 2 = .ok (.invokestatic 48, 3) := by decide +kernel
theorem dJ2_checkIndex_2214a_5 : decode cJ2_checkIndex_2214a 5 = .ok (.invokestatic 414, 3) := by decide +kernel
theorem dJ2_checkIndex_2214a_8 : decode cJ2_checkIndex_2214a 8 = .ok (.return_, 1) := by decide +kernel
theorem dJ3_checkIndex_8e157_0 : decode cJ3_checkIndex_8e157 0 = .ok (.iload_n 0, 1) := by decide +kernel
theorem dJ3_checkIndex_8e157_1 : decode cJ3_checkIndex_8e157 1 = .ok (.ifCond .lt 8, 3) := by decide +kernel
theorem dJ3_checkIndex_8e157_4 : decode cJ3_checkIndex_8e157 4 = .ok (.iload_n 0, 1) := by decide +kernel
theorem dJ3_checkIndex_8e157_5 : decode cJ3_checkIndex_8e157 5 = .ok (.iload_n 1, 1) := by decide +kernel
theorem dJ3_checkIndex_8e157_6 : decode cJ3_checkIndex_8e157 6 = .ok (.if_icmp .lt 10, 3) := by decide +kernel
theorem dJ3_checkIndex_8e157_9 : decode cJ3_checkIndex_8e157 9 = .ok (.aload_n 2, 1) := by decide +kernel
theorem dJ3_checkIndex_8e157_10 : decode cJ3_checkIndex_8e157 10 = .ok (.iload_n 0, 1) := by decide +kernel
theorem dJ3_checkIndex_8e157_11 : decode cJ3_checkIndex_8e157 11 = .ok (.iload_n 1, 1) := by decide +kernel
theorem dJ3_checkIndex_8e157_12 : decode cJ3_checkIndex_8e157 12 = .ok (.invokestatic 95, 3) := by decide +kernel
theorem dJ3_checkIndex_8e157_15 : decode cJ3_checkIndex_8e157 15 = .ok (.athrow, 1) := by decide +kernel
theorem dJ3_checkIndex_8e157_16 : decode cJ3_checkIndex_8e157 16 = .ok (.iload_n 0, 1) := by decide +kernel
theorem dJ3_checkIndex_8e157_17 : decode cJ3_checkIndex_8e157 17 = .ok (.ireturn, 1) := by decide +kernel
end
section
theorem dX11_init_0 : decode cX11_init 0 = .ok (.aload_n 0, 1) := by decide +kernel
theorem dX11_init_1 : decode cX11_init 1 = .ok (.invokespecial 1, 3) := by decide +kernel
theorem dX11_init_4 : decode cX11_init 4 = .ok (.aload_n 0, 1) := by decide +kernel
theorem dX11_init_5 : decode cX11_init 5 = .ok (.sipush 20204, 3) := by decide +kernel
theorem dX11_init_8 : decode cX11_init 8 = .ok (.newarray .int, 2) := by decide +kernel
theorem dX11_init_10 : decode cX11_init 10 = .ok (.putfield 7, 3) := by decide +kernel
theorem dX11_init_13 : decode cX11_init 13 = .ok (.aload_n 0, 1) := by decide +kernel
theorem dX11_init_14 : decode cX11_init 14 = .ok (.sipush 800, 3) := by decide +kernel
theorem dX11_init_17 : decode cX11_init 17 = .ok (.newarray .int, 2) := by decide +kernel
theorem dX11_init_19 : decode cX11_init 19 = .ok (.putfield 13, 3) := by decide +kernel
theorem dX11_init_22 : decode cX11_init 22 = .ok (.aload_n 0, 1) := by decide +kernel
theorem dX11_init_23 : decode cX11_init 23 = .ok (.sipush 400, 3) := by decide +kernel
theorem dX11_init_26 : decode cX11_init 26 = .ok (.newarray .int, 2) := by decide +kernel
theorem dX11_init_28 : decode cX11_init 28 = .ok (.putfield 16, 3) := by decide +kernel
theorem dX11_init_31 : decode cX11_init 31 = .ok (.aload_n 0, 1) := by decide +kernel
theorem dX11_init_32 : decode cX11_init 32 = .ok (.iconst 3, 1) := by decide +kernel
theorem dX11_init_33 : decode cX11_init 33 = .ok (.newarray .boolean, 2) := by decide +kernel
theorem dX11_init_35 : decode cX11_init 35 = .ok (.putfield 19, 3) := by decide +kernel
theorem dX11_init_38 : decode cX11_init 38 = .ok (.aload_n 0, 1) := by decide +kernel
theorem dX11_init_39 : decode cX11_init 39 = .ok (.iconst (-1), 1) := by decide +kernel
theorem dX11_init_40 : decode cX11_init 40 = .ok (.putfield 23, 3) := by decide +kernel
theorem dX11_init_43 : decode cX11_init 43 = .ok (.aload_n 0, 1) := by decide +kernel
theorem dX11_init_44 : decode cX11_init 44 = .ok (.bipush 64, 2) := by decide +kernel
theorem dX11_init_46 : decode cX11_init 46 = .ok (.newarray .int, 2) := by decide +kernel
theorem dX11_init_48 : decode cX11_init 48 = .ok (.putfield 27, 3) := by decide +kernel
theorem dX11_init_51 : decode cX11_init 51 = .ok (.aload_n 0, 1) := by decide +kernel
theorem dX11_init_52 : decode cX11_init 52 = .ok (.bipush 8, 2) := by decide +kernel
theorem dX11_init_54 : decode cX11_init 54 = .ok (.newarray .int, 2) := by decide +kernel
theorem dX11_init_56 : decode cX11_init 56 = .ok (.putfield 30, 3) := by decide +kernel
theorem dX11_init_59 : decode cX11_init 59 = .ok (.aload_n 0, 1) := by decide +kernel
theorem dX11_init_60 : decode cX11_init 60 = .ok (.iconst 0, 1) := by decide +kernel
theorem dX11_init_61 : decode cX11_init 61 = .ok (.invokevirtual 33, 3) := by decide +kernel
theorem dX11_init_64 : decode cX11_init 64 = .ok (.return_, 1) := by decide +kernel
theorem dX11_empties_0 : decode cX11_empties 0 = .ok (.iconst 0, 1) := by decide +kernel
theorem dX11_empties_1 : decode cX11_empties 1 = .ok (.istore_n 2, 1) := by decide +kernel
theorem dX11_empties_2 : decode cX11_empties 2 = .ok (.iload_n 2, 1) := by decide +kernel
theorem dX11_empties_3 : decode cX11_empties 3 = .ok (.sipush 976, 3) := by decide +kernel
theorem dX11_empties_6 : decode cX11_empties 6 = .ok (.if_icmp .ge 18, 3) := by decide +kernel
theorem dX11_empties_9 : decode cX11_empties 9 = .ok (.aload_n 0, 1) := by decide +kernel
theorem dX11_empties_10 : decode cX11_empties 10 = .ok (.getfield 7, 3) := by decide +kernel
theorem dX11_empties_13 : decode cX11_empties 13 = .ok (.iload_n 1, 1) := by decide +kernel
theorem dX11_empties_14 : decode cX11_empties 14 = .ok (.iload_n 2, 1) := by decide +kernel
theorem dX11_empties_15 : decode cX11_empties 15 = .ok (.iadd, 1) := by decide +kernel
theorem dX11_empties_16 : decode cX11_empties 16 = .ok (.iconst 0, 1) := by decide +kernel
theorem dX11_empties_17 : decode cX11_empties 17 = .ok (.iastore, 1) := by decide +kernel
theorem dX11_empties_18 : decode cX11_empties 18 = .ok (.iinc 2 1, 3) := by decide +kernel
theorem dX11_empties_21 : decode cX11_empties 21 = .ok (.goto (-19), 3) := by decide +kernel
theorem dX11_empties_24 : decode cX11_empties 24 = .ok (.iconst 0, 1) := by decide +kernel
theorem dX11_empties_25 : decode cX11_empties 25 = .ok (.istore_n 2, 1) := by decide +kernel
theorem dX11_empties_26 : decode cX11_empties 26 = .ok (.iload_n 2, 1) := by decide +kernel
theorem dX11_empties_27 : decode cX11_empties 27 = .ok (.bipush 8, 2) := by decide +kernel
theorem dX11_empties_29 : decode cX11_empties 29 = .ok (.if_icmp .ge 23, 3) := by decide +kernel
theorem dX11_empties_32 : decode cX11_empties 32 = .ok (.aload_n 0, 1) := by decide +kernel
theorem dX11_empties_33 : decode cX11_empties 33 = .ok (.getfield 7, 3) := by decide +kernel
theorem dX11_empties_36 : decode cX11_empties 36 = .ok (.iload_n 1, 1) := by decide +kernel
theorem dX11_empties_37 : decode cX11_empties 37 = .ok (.bipush 122, 2) := by decide +kernel
theorem dX11_empties_39 : decode cX11_empties 39 = .ok (.iload_n 2, 1) := by decide +kernel
theorem dX11_empties_40 : decode cX11_empties 40 = .ok (.imul, 1) := by decide +kernel
theorem dX11_empties_41 : decode cX11_empties 41 = .ok (.iadd, 1) := by decide +kernel
theorem dX11_empties_42 : decode cX11_empties 42 = .ok (.iconst 1, 1) := by decide +kernel
theorem dX11_empties_43 : decode cX11_empties 43 = .ok (.iadd, 1) := by decide +kernel
theorem dX11_empties_44 : decode cX11_empties 44 = .ok (.iconst (-1), 1) := by decide +kernel
theorem dX11_empties_45 : decode cX11_empties 45 = .ok (.iastore, 1) := by decide +kernel
theorem dX11_empties_46 : decode cX11_empties 46 = .ok (.iinc 2 1, 3) := by decide +kernel
theorem dX11_empties_49 : decode cX11_empties 49 = .ok (.goto (-23), 3) := by decide +kernel
theorem dX11_empties_52 : decode cX11_empties 52 = .ok (.return_, 1) := by decide +kernel
theorem dX11_isIn_0 : decode cX11_isIn 0 = .ok (.iload_n 0, 1) := by decide +kernel
theorem dX11_isIn_1 : decode cX11_isIn 1 = .ok (.iload_n 1, 1) := by decide +kernel
theorem dX11_isIn_2 : decode cX11_isIn 2 = .ok (.if_icmp .lt 12, 3) := by decide +kernel
theorem dX11_isIn_5 : decode cX11_isIn 5 = .ok (.iload_n 0, 1) := by decide +kernel
theorem dX11_isIn_6 : decode cX11_isIn 6 = .ok (.iload_n 2, 1) := by decide +kernel
theorem dX11_isIn_7 : decode cX11_isIn 7 = .ok (.if_icmp .gt 7, 3) := by decide +kernel
theorem dX11_isIn_10 : decode cX11_isIn 10 = .ok (.iconst 1, 1) := by decide +kernel
theorem dX11_isIn_11 : decode cX11_isIn 11 = .ok (.goto 4, 3) := by decide +kernel
theorem dX11_isIn_14 : decode cX11_isIn 14 = .ok (.iconst 0, 1) := by decide +kernel
theorem dX11_isIn_15 : decode cX11_isIn 15 = .ok (.ireturn, 1) := by decide +kernel
theorem dX11_copies_0 : decode cX11_copies 0 = .ok (.iconst 0, 1) := by decide +kernel
theorem dX11_copies_1 : decode cX11_copies 1 = .ok (.istore 4, 2) := by decide +kernel
theorem dX11_copies_3 : decode cX11_copies 3 = .ok (.iload 4, 2) := by decide +kernel
theorem dX11_copies_5 : decode cX11_copies 5 = .ok (.iload_n 3, 1) := by decide +kernel
theorem dX11_copies_6 : decode cX11_copies 6 = .ok (.if_icmp .ge 27, 3) := by decide +kernel
theorem dX11_copies_9 : decode cX11_copies 9 = .ok (.aload_n 0, 1) := by decide +kernel
theorem dX11_copies_10 : decode cX11_copies 10 = .ok (.getfield 7, 3) := by decide +kernel
theorem dX11_copies_13 : decode cX11_copies 13 = .ok (.iload_n 2, 1) := by decide +kernel
theorem dX11_copies_14 : decode cX11_copies 14 = .ok (.iload 4, 2) := by decide +kernel
theorem dX11_copies_16 : decode cX11_copies 16 = .ok (.iadd, 1) := by decide +kernel
theorem dX11_copies_17 : decode cX11_copies 17 = .ok (.aload_n 0, 1) := by decide +kernel
theorem dX11_copies_18 : decode cX11_copies 18 = .ok (.getfield 7, 3) := by decide +kernel
theorem dX11_copies_21 : decode cX11_copies 21 = .ok (.iload_n 1, 1) := by decide +kernel
theorem dX11_copies_22 : decode cX11_copies 22 = .ok (.iload 4, 2) := by decide +kernel
theorem dX11_copies_24 : decode cX11_copies 24 = .ok (.iadd, 1) := by decide +kernel
theorem dX11_copies_25 : decode cX11_copies 25 = .ok (.iaload, 1) := by decide +kernel
theorem dX11_copies_26 : decode cX11_copies 26 = .ok (.iastore, 1) := by decide +kernel
theorem dX11_copies_27 : decode cX11_copies 27 = .ok (.iinc 4 1, 3) := by decide +kernel
theorem dX11_copies_30 : decode cX11_copies 30 = .ok (.goto (-27), 3) := by decide +kernel
theorem dX11_copies_33 : decode cX11_copies 33 = .ok (.return_, 1) := by decide +kernel
theorem dX11_isSet_0 : decode cX11_isSet 0 = .ok (.iload_n 0, 1) := by decide +kernel
theorem dX11_isSet_1 : decode cX11_isSet 1 = .ok (.iconst 0, 1) := by decide +kernel
theorem dX11_isSet_2 : decode cX11_isSet 2 = .ok (.bipush 7, 2) := by decide +kernel
theorem dX11_isSet_4 : decode cX11_isSet 4 = .ok (.invokestatic 37, 3) := by decide +kernel
theorem dX11_isSet_7 : decode cX11_isSet 7 = .ok (.ireturn, 1) := by decide +kernel
theorem dX11_isKey_0 : decode cX11_isKey 0 = .ok (.iload_n 0, 1) := by decide +kernel
theorem dX11_isKey_1 : decode cX11_isKey 1 = .ok (.iconst 0, 1) := by decide +kernel
theorem dX11_isKey_2 : decode cX11_isKey 2 = .ok (.sipush 9999, 3) := by decide +kernel
theorem dX11_isKey_5 : decode cX11_isKey 5 = .ok (.invokestatic 37, 3) := by decide +kernel
theorem dX11_isKey_8 : decode cX11_isKey 8 = .ok (.ireturn, 1) := by decide +kernel
theorem dX11_many_0 : decode cX11_many 0 = .ok (.aload_n 0, 1) := by decide +kernel
theorem dX11_many_1 : decode cX11_many 1 = .ok (.getfield 7, 3) := by decide +kernel
theorem dX11_many_4 : decode cX11_many 4 = .ok (.aload_n 0, 1) := by decide +kernel
theorem dX11_many_5 : decode cX11_many 5 = .ok (.getfield 41, 3) := by decide +kernel
theorem dX11_many_8 : decode cX11_many 8 = .ok (.bipush 122, 2) := by decide +kernel
theorem dX11_many_10 : decode cX11_many 10 = .ok (.iload_n 1, 1) := by decide +kernel
theorem dX11_many_11 : decode cX11_many 11 = .ok (.imul, 1) := by decide +kernel
theorem dX11_many_12 : decode cX11_many 12 = .ok (.iadd, 1) := by decide +kernel
theorem dX11_many_13 : decode cX11_many 13 = .ok (.iaload, 1) := by decide +kernel
theorem dX11_many_14 : decode cX11_many 14 = .ok (.ireturn, 1) := by decide +kernel
theorem dX11_keyAt_0 : decode cX11_keyAt 0 = .ok (.aload_n 0, 1) := by decide +kernel
theorem dX11_keyAt_1 : decode cX11_keyAt 1 = .ok (.getfield 7, 3) := by decide +kernel
theorem dX11_keyAt_4 : decode cX11_keyAt 4 = .ok (.aload_n 0, 1) := by decide +kernel
theorem dX11_keyAt_5 : decode cX11_keyAt 5 = .ok (.getfield 41, 3) := by decide +kernel
theorem dX11_keyAt_8 : decode cX11_keyAt 8 = .ok (.bipush 122, 2) := by decide +kernel
theorem dX11_keyAt_10 : decode cX11_keyAt 10 = .ok (.iload_n 1, 1) := by decide +kernel
theorem dX11_keyAt_11 : decode cX11_keyAt 11 = .ok (.imul, 1) := by decide +kernel
theorem dX11_keyAt_12 : decode cX11_keyAt 12 = .ok (.iadd, 1) := by decide +kernel
theorem dX11_keyAt_13 : decode cX11_keyAt 13 = .ok (.iconst 2, 1) := by decide +kernel
theorem dX11_keyAt_14 : decode cX11_keyAt 14 = .ok (.iadd, 1) := by decide +kernel
theorem dX11_keyAt_15 : decode cX11_keyAt 15 = .ok (.iload_n 2, 1) := by decide +kernel
theorem dX11_keyAt_16 : decode cX11_keyAt 16 = .ok (.iadd, 1) := by decide +kernel
theorem dX11_keyAt_17 : decode cX11_keyAt 17 = .ok (.iaload, 1) := by decide +kernel
theorem dX11_keyAt_18 : decode cX11_keyAt 18 = .ok (.ireturn, 1) := by decide +kernel
theorem dX11_markAt_0 : decode cX11_markAt 0 = .ok (.aload_n 0, 1) := by decide +kernel
theorem dX11_markAt_1 : decode cX11_markAt 1 = .ok (.getfield 7, 3) := by decide +kernel
theorem dX11_markAt_4 : decode cX11_markAt 4 = .ok (.aload_n 0, 1) := by decide +kernel
theorem dX11_markAt_5 : decode cX11_markAt 5 = .ok (.getfield 41, 3) := by decide +kernel
theorem dX11_markAt_8 : decode cX11_markAt 8 = .ok (.bipush 122, 2) := by decide +kernel
theorem dX11_markAt_10 : decode cX11_markAt 10 = .ok (.iload_n 1, 1) := by decide +kernel
theorem dX11_markAt_11 : decode cX11_markAt 11 = .ok (.imul, 1) := by decide +kernel
theorem dX11_markAt_12 : decode cX11_markAt 12 = .ok (.iadd, 1) := by decide +kernel
theorem dX11_markAt_13 : decode cX11_markAt 13 = .ok (.bipush 62, 2) := by decide +kernel
theorem dX11_markAt_15 : decode cX11_markAt 15 = .ok (.iadd, 1) := by decide +kernel
theorem dX11_markAt_16 : decode cX11_markAt 16 = .ok (.iload_n 2, 1) := by decide +kernel
theorem dX11_markAt_17 : decode cX11_markAt 17 = .ok (.iadd, 1) := by decide +kernel
theorem dX11_markAt_18 : decode cX11_markAt 18 = .ok (.iaload, 1) := by decide +kernel
theorem dX11_markAt_19 : decode cX11_markAt 19 = .ok (.ireturn, 1) := by decide +kernel
theorem dX11_finger_0 : decode cX11_finger 0 = .ok (.aload_n 0, 1) := by decide +kernel
theorem dX11_finger_1 : decode cX11_finger 1 = .ok (.getfield 7, 3) := by decide +kernel
theorem dX11_finger_4 : decode cX11_finger 4 = .ok (.aload_n 0, 1) := by decide +kernel
theorem dX11_finger_5 : decode cX11_finger 5 = .ok (.getfield 41, 3) := by decide +kernel
theorem dX11_finger_8 : decode cX11_finger 8 = .ok (.bipush 122, 2) := by decide +kernel
theorem dX11_finger_10 : decode cX11_finger 10 = .ok (.iload_n 1, 1) := by decide +kernel
theorem dX11_finger_11 : decode cX11_finger 11 = .ok (.imul, 1) := by decide +kernel
theorem dX11_finger_12 : decode cX11_finger 12 = .ok (.iadd, 1) := by decide +kernel
theorem dX11_finger_13 : decode cX11_finger 13 = .ok (.iconst 1, 1) := by decide +kernel
theorem dX11_finger_14 : decode cX11_finger 14 = .ok (.iadd, 1) := by decide +kernel
theorem dX11_finger_15 : decode cX11_finger 15 = .ok (.iaload, 1) := by decide +kernel
theorem dX11_finger_16 : decode cX11_finger 16 = .ok (.ireturn, 1) := by decide +kernel
theorem dX11_points_0 : decode cX11_points 0 = .ok (.aload_n 0, 1) := by decide +kernel
theorem dX11_points_1 : decode cX11_points 1 = .ok (.getfield 7, 3) := by decide +kernel
theorem dX11_points_4 : decode cX11_points 4 = .ok (.aload_n 0, 1) := by decide +kernel
theorem dX11_points_5 : decode cX11_points 5 = .ok (.getfield 41, 3) := by decide +kernel
theorem dX11_points_8 : decode cX11_points 8 = .ok (.bipush 122, 2) := by decide +kernel
theorem dX11_points_10 : decode cX11_points 10 = .ok (.iload_n 1, 1) := by decide +kernel
theorem dX11_points_11 : decode cX11_points 11 = .ok (.imul, 1) := by decide +kernel
theorem dX11_points_12 : decode cX11_points 12 = .ok (.iadd, 1) := by decide +kernel
theorem dX11_points_13 : decode cX11_points 13 = .ok (.iconst 1, 1) := by decide +kernel
theorem dX11_points_14 : decode cX11_points 14 = .ok (.iadd, 1) := by decide +kernel
theorem dX11_points_15 : decode cX11_points 15 = .ok (.iload_n 2, 1) := by decide +kernel
theorem dX11_points_16 : decode cX11_points 16 = .ok (.iastore, 1) := by decide +kernel
theorem dX11_points_17 : decode cX11_points 17 = .ok (.return_, 1) := by decide +kernel
theorem dX11_below_0 : decode cX11_below 0 = .ok (.iconst 0, 1) := by decide +kernel
theorem dX11_below_1 : decode cX11_below 1 = .ok (.istore_n 3, 1) := by decide +kernel
theorem dX11_below_2 : decode cX11_below 2 = .ok (.iload_n 3, 1) := by decide +kernel
theorem dX11_below_3 : decode cX11_below 3 = .ok (.aload_n 0, 1) := by decide +kernel
theorem dX11_below_4 : decode cX11_below 4 = .ok (.iload_n 1, 1) := by decide +kernel
theorem dX11_below_5 : decode cX11_below 5 = .ok (.invokevirtual 44, 3) := by decide +kernel
theorem dX11_below_8 : decode cX11_below 8 = .ok (.if_icmp .ge 19, 3) := by decide +kernel
theorem dX11_below_11 : decode cX11_below 11 = .ok (.aload_n 0, 1) := by decide +kernel
theorem dX11_below_12 : decode cX11_below 12 = .ok (.iload_n 1, 1) := by decide +kernel
theorem dX11_below_13 : decode cX11_below 13 = .ok (.iload_n 3, 1) := by decide +kernel
theorem dX11_below_14 : decode cX11_below 14 = .ok (.invokevirtual 48, 3) := by decide +kernel
theorem dX11_below_17 : decode cX11_below 17 = .ok (.iload_n 2, 1) := by decide +kernel
theorem dX11_below_18 : decode cX11_below 18 = .ok (.if_icmp .ge 9, 3) := by decide +kernel
theorem dX11_below_21 : decode cX11_below 21 = .ok (.iinc 3 1, 3) := by decide +kernel
theorem dX11_below_24 : decode cX11_below 24 = .ok (.goto (-22), 3) := by decide +kernel
theorem dX11_below_27 : decode cX11_below 27 = .ok (.iload_n 3, 1) := by decide +kernel
theorem dX11_below_28 : decode cX11_below 28 = .ok (.ireturn, 1) := by decide +kernel
theorem dX11_placeOf_0 : decode cX11_placeOf 0 = .ok (.aload_n 0, 1) := by decide +kernel
theorem dX11_placeOf_1 : decode cX11_placeOf 1 = .ok (.iload_n 1, 1) := by decide +kernel
theorem dX11_placeOf_2 : decode cX11_placeOf 2 = .ok (.iload_n 2, 1) := by decide +kernel
theorem dX11_placeOf_3 : decode cX11_placeOf 3 = .ok (.invokevirtual 52, 3) := by decide +kernel
theorem dX11_placeOf_6 : decode cX11_placeOf 6 = .ok (.istore_n 3, 1) := by decide +kernel
theorem dX11_placeOf_7 : decode cX11_placeOf 7 = .ok (.iload_n 3, 1) := by decide +kernel
theorem dX11_placeOf_8 : decode cX11_placeOf 8 = .ok (.aload_n 0, 1) := by decide +kernel
theorem dX11_placeOf_9 : decode cX11_placeOf 9 = .ok (.iload_n 1, 1) := by decide +kernel
theorem dX11_placeOf_10 : decode cX11_placeOf 10 = .ok (.invokevirtual 44, 3) := by decide +kernel
theorem dX11_placeOf_13 : decode cX11_placeOf 13 = .ok (.if_icmp .ge 17, 3) := by decide +kernel
theorem dX11_placeOf_16 : decode cX11_placeOf 16 = .ok (.aload_n 0, 1) := by decide +kernel
theorem dX11_placeOf_17 : decode cX11_placeOf 17 = .ok (.iload_n 1, 1) := by decide +kernel
theorem dX11_placeOf_18 : decode cX11_placeOf 18 = .ok (.iload_n 3, 1) := by decide +kernel
theorem dX11_placeOf_19 : decode cX11_placeOf 19 = .ok (.invokevirtual 48, 3) := by decide +kernel
theorem dX11_placeOf_22 : decode cX11_placeOf 22 = .ok (.iload_n 2, 1) := by decide +kernel
theorem dX11_placeOf_23 : decode cX11_placeOf 23 = .ok (.if_icmp .ne 7, 3) := by decide +kernel
theorem dX11_placeOf_26 : decode cX11_placeOf 26 = .ok (.iload_n 3, 1) := by decide +kernel
theorem dX11_placeOf_27 : decode cX11_placeOf 27 = .ok (.goto 4, 3) := by decide +kernel
theorem dX11_placeOf_30 : decode cX11_placeOf 30 = .ok (.iconst (-1), 1) := by decide +kernel
theorem dX11_placeOf_31 : decode cX11_placeOf 31 = .ok (.ireturn, 1) := by decide +kernel
theorem dX11_puts_0 : decode cX11_puts 0 = .ok (.aload_n 0, 1) := by decide +kernel
theorem dX11_puts_1 : decode cX11_puts 1 = .ok (.iload_n 1, 1) := by decide +kernel
theorem dX11_puts_2 : decode cX11_puts 2 = .ok (.iload_n 2, 1) := by decide +kernel
theorem dX11_puts_3 : decode cX11_puts 3 = .ok (.invokevirtual 52, 3) := by decide +kernel
theorem dX11_puts_6 : decode cX11_puts 6 = .ok (.istore 4, 2) := by decide +kernel
theorem dX11_puts_8 : decode cX11_puts 8 = .ok (.aload_n 0, 1) := by decide +kernel
theorem dX11_puts_9 : decode cX11_puts 9 = .ok (.getfield 41, 3) := by decide +kernel
theorem dX11_puts_12 : decode cX11_puts 12 = .ok (.bipush 122, 2) := by decide +kernel
theorem dX11_puts_14 : decode cX11_puts 14 = .ok (.iload_n 1, 1) := by decide +kernel
theorem dX11_puts_15 : decode cX11_puts 15 = .ok (.imul, 1) := by decide +kernel
theorem dX11_puts_16 : decode cX11_puts 16 = .ok (.iadd, 1) := by decide +kernel
theorem dX11_puts_17 : decode cX11_puts 17 = .ok (.istore 5, 2) := by decide +kernel
theorem dX11_puts_19 : decode cX11_puts 19 = .ok (.aload_n 0, 1) := by decide +kernel
theorem dX11_puts_20 : decode cX11_puts 20 = .ok (.iload_n 1, 1) := by decide +kernel
theorem dX11_puts_21 : decode cX11_puts 21 = .ok (.invokevirtual 44, 3) := by decide +kernel
theorem dX11_puts_24 : decode cX11_puts 24 = .ok (.istore 6, 2) := by decide +kernel
theorem dX11_puts_26 : decode cX11_puts 26 = .ok (.iload 6, 2) := by decide +kernel
theorem dX11_puts_28 : decode cX11_puts 28 = .ok (.iload 4, 2) := by decide +kernel
theorem dX11_puts_30 : decode cX11_puts 30 = .ok (.if_icmp .le 63, 3) := by decide +kernel
theorem dX11_puts_33 : decode cX11_puts 33 = .ok (.aload_n 0, 1) := by decide +kernel
theorem dX11_puts_34 : decode cX11_puts 34 = .ok (.getfield 7, 3) := by decide +kernel
theorem dX11_puts_37 : decode cX11_puts 37 = .ok (.iload 5, 2) := by decide +kernel
theorem dX11_puts_39 : decode cX11_puts 39 = .ok (.iconst 2, 1) := by decide +kernel
theorem dX11_puts_40 : decode cX11_puts 40 = .ok (.iadd, 1) := by decide +kernel
theorem dX11_puts_41 : decode cX11_puts 41 = .ok (.iload 6, 2) := by decide +kernel
theorem dX11_puts_43 : decode cX11_puts 43 = .ok (.iadd, 1) := by decide +kernel
theorem dX11_puts_44 : decode cX11_puts 44 = .ok (.aload_n 0, 1) := by decide +kernel
theorem dX11_puts_45 : decode cX11_puts 45 = .ok (.getfield 7, 3) := by decide +kernel
theorem dX11_puts_48 : decode cX11_puts 48 = .ok (.iload 5, 2) := by decide +kernel
theorem dX11_puts_50 : decode cX11_puts 50 = .ok (.iconst 2, 1) := by decide +kernel
theorem dX11_puts_51 : decode cX11_puts 51 = .ok (.iadd, 1) := by decide +kernel
theorem dX11_puts_52 : decode cX11_puts 52 = .ok (.iload 6, 2) := by decide +kernel
theorem dX11_puts_54 : decode cX11_puts 54 = .ok (.iadd, 1) := by decide +kernel
theorem dX11_puts_55 : decode cX11_puts 55 = .ok (.iconst 1, 1) := by decide +kernel
theorem dX11_puts_56 : decode cX11_puts 56 = .ok (.isub, 1) := by decide +kernel
theorem dX11_puts_57 : decode cX11_puts 57 = .ok (.iaload, 1) := by decide +kernel
theorem dX11_puts_58 : decode cX11_puts 58 = .ok (.iastore, 1) := by decide +kernel
theorem dX11_puts_59 : decode cX11_puts 59 = .ok (.aload_n 0, 1) := by decide +kernel
theorem dX11_puts_60 : decode cX11_puts 60 = .ok (.getfield 7, 3) := by decide +kernel
theorem dX11_puts_63 : decode cX11_puts 63 = .ok (.iload 5, 2) := by decide +kernel
theorem dX11_puts_65 : decode cX11_puts 65 = .ok (.bipush 62, 2) := by decide +kernel
theorem dX11_puts_67 : decode cX11_puts 67 = .ok (.iadd, 1) := by decide +kernel
theorem dX11_puts_68 : decode cX11_puts 68 = .ok (.iload 6, 2) := by decide +kernel
theorem dX11_puts_70 : decode cX11_puts 70 = .ok (.iadd, 1) := by decide +kernel
theorem dX11_puts_71 : decode cX11_puts 71 = .ok (.aload_n 0, 1) := by decide +kernel
theorem dX11_puts_72 : decode cX11_puts 72 = .ok (.getfield 7, 3) := by decide +kernel
theorem dX11_puts_75 : decode cX11_puts 75 = .ok (.iload 5, 2) := by decide +kernel
theorem dX11_puts_77 : decode cX11_puts 77 = .ok (.bipush 62, 2) := by decide +kernel
theorem dX11_puts_79 : decode cX11_puts 79 = .ok (.iadd, 1) := by decide +kernel
theorem dX11_puts_80 : decode cX11_puts 80 = .ok (.iload 6, 2) := by decide +kernel
theorem dX11_puts_82 : decode cX11_puts 82 = .ok (.iadd, 1) := by decide +kernel
theorem dX11_puts_83 : decode cX11_puts 83 = .ok (.iconst 1, 1) := by decide +kernel
theorem dX11_puts_84 : decode cX11_puts 84 = .ok (.isub, 1) := by decide +kernel
theorem dX11_puts_85 : decode cX11_puts 85 = .ok (.iaload, 1) := by decide +kernel
theorem dX11_puts_86 : decode cX11_puts 86 = .ok (.iastore, 1) := by decide +kernel
theorem dX11_puts_87 : decode cX11_puts 87 = .ok (.iinc 6 (-1), 3) := by decide +kernel
theorem dX11_puts_90 : decode cX11_puts 90 = .ok (.goto (-64), 3) := by decide +kernel
theorem dX11_puts_93 : decode cX11_puts 93 = .ok (.aload_n 0, 1) := by decide +kernel
theorem dX11_puts_94 : decode cX11_puts 94 = .ok (.getfield 7, 3) := by decide +kernel
theorem dX11_puts_97 : decode cX11_puts 97 = .ok (.iload 5, 2) := by decide +kernel
theorem dX11_puts_99 : decode cX11_puts 99 = .ok (.iconst 2, 1) := by decide +kernel
theorem dX11_puts_100 : decode cX11_puts 100 = .ok (.iadd, 1) := by decide +kernel
theorem dX11_puts_101 : decode cX11_puts 101 = .ok (.iload 4, 2) := by decide +kernel
theorem dX11_puts_103 : decode cX11_puts 103 = .ok (.iadd, 1) := by decide +kernel
theorem dX11_puts_104 : decode cX11_puts 104 = .ok (.iload_n 2, 1) := by decide +kernel
theorem dX11_puts_105 : decode cX11_puts 105 = .ok (.iastore, 1) := by decide +kernel
theorem dX11_puts_106 : decode cX11_puts 106 = .ok (.aload_n 0, 1) := by decide +kernel
theorem dX11_puts_107 : decode cX11_puts 107 = .ok (.getfield 7, 3) := by decide +kernel
theorem dX11_puts_110 : decode cX11_puts 110 = .ok (.iload 5, 2) := by decide +kernel
theorem dX11_puts_112 : decode cX11_puts 112 = .ok (.bipush 62, 2) := by decide +kernel
theorem dX11_puts_114 : decode cX11_puts 114 = .ok (.iadd, 1) := by decide +kernel
theorem dX11_puts_115 : decode cX11_puts 115 = .ok (.iload 4, 2) := by decide +kernel
theorem dX11_puts_117 : decode cX11_puts 117 = .ok (.iadd, 1) := by decide +kernel
theorem dX11_puts_118 : decode cX11_puts 118 = .ok (.iload_n 3, 1) := by decide +kernel
theorem dX11_puts_119 : decode cX11_puts 119 = .ok (.iastore, 1) := by decide +kernel
theorem dX11_puts_120 : decode cX11_puts 120 = .ok (.aload_n 0, 1) := by decide +kernel
theorem dX11_puts_121 : decode cX11_puts 121 = .ok (.getfield 7, 3) := by decide +kernel
theorem dX11_puts_124 : decode cX11_puts 124 = .ok (.iload 5, 2) := by decide +kernel
theorem dX11_puts_126 : decode cX11_puts 126 = .ok (.dup2, 1) := by decide +kernel
theorem dX11_puts_127 : decode cX11_puts 127 = .ok (.iaload, 1) := by decide +kernel
theorem dX11_puts_128 : decode cX11_puts 128 = .ok (.iconst 1, 1) := by decide +kernel
theorem dX11_puts_129 : decode cX11_puts 129 = .ok (.iadd, 1) := by decide +kernel
theorem dX11_puts_130 : decode cX11_puts 130 = .ok (.iastore, 1) := by decide +kernel
theorem dX11_puts_131 : decode cX11_puts 131 = .ok (.aload_n 0, 1) := by decide +kernel
theorem dX11_puts_132 : decode cX11_puts 132 = .ok (.iload_n 1, 1) := by decide +kernel
theorem dX11_puts_133 : decode cX11_puts 133 = .ok (.iconst (-1), 1) := by decide +kernel
theorem dX11_puts_134 : decode cX11_puts 134 = .ok (.invokevirtual 55, 3) := by decide +kernel
theorem dX11_puts_137 : decode cX11_puts 137 = .ok (.return_, 1) := by decide +kernel
theorem dX11_drops_0 : decode cX11_drops 0 = .ok (.aload_n 0, 1) := by decide +kernel
theorem dX11_drops_1 : decode cX11_drops 1 = .ok (.getfield 41, 3) := by decide +kernel
theorem dX11_drops_4 : decode cX11_drops 4 = .ok (.bipush 122, 2) := by decide +kernel
theorem dX11_drops_6 : decode cX11_drops 6 = .ok (.iload_n 1, 1) := by decide +kernel
theorem dX11_drops_7 : decode cX11_drops 7 = .ok (.imul, 1) := by decide +kernel
theorem dX11_drops_8 : decode cX11_drops 8 = .ok (.iadd, 1) := by decide +kernel
theorem dX11_drops_9 : decode cX11_drops 9 = .ok (.istore_n 3, 1) := by decide +kernel
theorem dX11_drops_10 : decode cX11_drops 10 = .ok (.iload_n 2, 1) := by decide +kernel
theorem dX11_drops_11 : decode cX11_drops 11 = .ok (.istore 4, 2) := by decide +kernel
theorem dX11_drops_13 : decode cX11_drops 13 = .ok (.iload 4, 2) := by decide +kernel
theorem dX11_drops_15 : decode cX11_drops 15 = .ok (.iconst 1, 1) := by decide +kernel
theorem dX11_drops_16 : decode cX11_drops 16 = .ok (.iadd, 1) := by decide +kernel
theorem dX11_drops_17 : decode cX11_drops 17 = .ok (.aload_n 0, 1) := by decide +kernel
theorem dX11_drops_18 : decode cX11_drops 18 = .ok (.iload_n 1, 1) := by decide +kernel
theorem dX11_drops_19 : decode cX11_drops 19 = .ok (.invokevirtual 44, 3) := by decide +kernel
theorem dX11_drops_22 : decode cX11_drops 22 = .ok (.if_icmp .ge 59, 3) := by decide +kernel
theorem dX11_drops_25 : decode cX11_drops 25 = .ok (.aload_n 0, 1) := by decide +kernel
theorem dX11_drops_26 : decode cX11_drops 26 = .ok (.getfield 7, 3) := by decide +kernel
theorem dX11_drops_29 : decode cX11_drops 29 = .ok (.iload_n 3, 1) := by decide +kernel
theorem dX11_drops_30 : decode cX11_drops 30 = .ok (.iconst 2, 1) := by decide +kernel
theorem dX11_drops_31 : decode cX11_drops 31 = .ok (.iadd, 1) := by decide +kernel
theorem dX11_drops_32 : decode cX11_drops 32 = .ok (.iload 4, 2) := by decide +kernel
theorem dX11_drops_34 : decode cX11_drops 34 = .ok (.iadd, 1) := by decide +kernel
theorem dX11_drops_35 : decode cX11_drops 35 = .ok (.aload_n 0, 1) := by decide +kernel
theorem dX11_drops_36 : decode cX11_drops 36 = .ok (.getfield 7, 3) := by decide +kernel
theorem dX11_drops_39 : decode cX11_drops 39 = .ok (.iload_n 3, 1) := by decide +kernel
theorem dX11_drops_40 : decode cX11_drops 40 = .ok (.iconst 2, 1) := by decide +kernel
theorem dX11_drops_41 : decode cX11_drops 41 = .ok (.iadd, 1) := by decide +kernel
theorem dX11_drops_42 : decode cX11_drops 42 = .ok (.iload 4, 2) := by decide +kernel
theorem dX11_drops_44 : decode cX11_drops 44 = .ok (.iadd, 1) := by decide +kernel
theorem dX11_drops_45 : decode cX11_drops 45 = .ok (.iconst 1, 1) := by decide +kernel
theorem dX11_drops_46 : decode cX11_drops 46 = .ok (.iadd, 1) := by decide +kernel
theorem dX11_drops_47 : decode cX11_drops 47 = .ok (.iaload, 1) := by decide +kernel
theorem dX11_drops_48 : decode cX11_drops 48 = .ok (.iastore, 1) := by decide +kernel
theorem dX11_drops_49 : decode cX11_drops 49 = .ok (.aload_n 0, 1) := by decide +kernel
theorem dX11_drops_50 : decode cX11_drops 50 = .ok (.getfield 7, 3) := by decide +kernel
theorem dX11_drops_53 : decode cX11_drops 53 = .ok (.iload_n 3, 1) := by decide +kernel
theorem dX11_drops_54 : decode cX11_drops 54 = .ok (.bipush 62, 2) := by decide +kernel
theorem dX11_drops_56 : decode cX11_drops 56 = .ok (.iadd, 1) := by decide +kernel
theorem dX11_drops_57 : decode cX11_drops 57 = .ok (.iload 4, 2) := by decide +kernel
theorem dX11_drops_59 : decode cX11_drops 59 = .ok (.iadd, 1) := by decide +kernel
theorem dX11_drops_60 : decode cX11_drops 60 = .ok (.aload_n 0, 1) := by decide +kernel
theorem dX11_drops_61 : decode cX11_drops 61 = .ok (.getfield 7, 3) := by decide +kernel
theorem dX11_drops_64 : decode cX11_drops 64 = .ok (.iload_n 3, 1) := by decide +kernel
theorem dX11_drops_65 : decode cX11_drops 65 = .ok (.bipush 62, 2) := by decide +kernel
theorem dX11_drops_67 : decode cX11_drops 67 = .ok (.iadd, 1) := by decide +kernel
theorem dX11_drops_68 : decode cX11_drops 68 = .ok (.iload 4, 2) := by decide +kernel
theorem dX11_drops_70 : decode cX11_drops 70 = .ok (.iadd, 1) := by decide +kernel
theorem dX11_drops_71 : decode cX11_drops 71 = .ok (.iconst 1, 1) := by decide +kernel
theorem dX11_drops_72 : decode cX11_drops 72 = .ok (.iadd, 1) := by decide +kernel
theorem dX11_drops_73 : decode cX11_drops 73 = .ok (.iaload, 1) := by decide +kernel
theorem dX11_drops_74 : decode cX11_drops 74 = .ok (.iastore, 1) := by decide +kernel
theorem dX11_drops_75 : decode cX11_drops 75 = .ok (.iinc 4 1, 3) := by decide +kernel
theorem dX11_drops_78 : decode cX11_drops 78 = .ok (.goto (-65), 3) := by decide +kernel
theorem dX11_drops_81 : decode cX11_drops 81 = .ok (.aload_n 0, 1) := by decide +kernel
theorem dX11_drops_82 : decode cX11_drops 82 = .ok (.getfield 7, 3) := by decide +kernel
theorem dX11_drops_85 : decode cX11_drops 85 = .ok (.iload_n 3, 1) := by decide +kernel
theorem dX11_drops_86 : decode cX11_drops 86 = .ok (.dup2, 1) := by decide +kernel
theorem dX11_drops_87 : decode cX11_drops 87 = .ok (.iaload, 1) := by decide +kernel
theorem dX11_drops_88 : decode cX11_drops 88 = .ok (.iconst 1, 1) := by decide +kernel
theorem dX11_drops_89 : decode cX11_drops 89 = .ok (.isub, 1) := by decide +kernel
theorem dX11_drops_90 : decode cX11_drops 90 = .ok (.iastore, 1) := by decide +kernel
theorem dX11_drops_91 : decode cX11_drops 91 = .ok (.aload_n 0, 1) := by decide +kernel
theorem dX11_drops_92 : decode cX11_drops 92 = .ok (.iload_n 1, 1) := by decide +kernel
theorem dX11_drops_93 : decode cX11_drops 93 = .ok (.iconst (-1), 1) := by decide +kernel
theorem dX11_drops_94 : decode cX11_drops 94 = .ok (.invokevirtual 55, 3) := by decide +kernel
theorem dX11_drops_97 : decode cX11_drops 97 = .ok (.return_, 1) := by decide +kernel
theorem dX11_total_0 : decode cX11_total 0 = .ok (.iconst 0, 1) := by decide +kernel
theorem dX11_total_1 : decode cX11_total 1 = .ok (.istore_n 1, 1) := by decide +kernel
theorem dX11_total_2 : decode cX11_total 2 = .ok (.iconst 0, 1) := by decide +kernel
theorem dX11_total_3 : decode cX11_total 3 = .ok (.istore_n 2, 1) := by decide +kernel
theorem dX11_total_4 : decode cX11_total 4 = .ok (.iload_n 2, 1) := by decide +kernel
theorem dX11_total_5 : decode cX11_total 5 = .ok (.bipush 8, 2) := by decide +kernel
theorem dX11_total_7 : decode cX11_total 7 = .ok (.if_icmp .ge 17, 3) := by decide +kernel
theorem dX11_total_10 : decode cX11_total 10 = .ok (.iload_n 1, 1) := by decide +kernel
theorem dX11_total_11 : decode cX11_total 11 = .ok (.aload_n 0, 1) := by decide +kernel
theorem dX11_total_12 : decode cX11_total 12 = .ok (.iload_n 2, 1) := by decide +kernel
theorem dX11_total_13 : decode cX11_total 13 = .ok (.invokevirtual 44, 3) := by decide +kernel
theorem dX11_total_16 : decode cX11_total 16 = .ok (.iadd, 1) := by decide +kernel
theorem dX11_total_17 : decode cX11_total 17 = .ok (.istore_n 1, 1) := by decide +kernel
theorem dX11_total_18 : decode cX11_total 18 = .ok (.iinc 2 1, 3) := by decide +kernel
theorem dX11_total_21 : decode cX11_total 21 = .ok (.goto (-17), 3) := by decide +kernel
theorem dX11_total_24 : decode cX11_total 24 = .ok (.iload_n 1, 1) := by decide +kernel
theorem dX11_total_25 : decode cX11_total 25 = .ok (.ireturn, 1) := by decide +kernel
theorem dX11_twins_0 : decode cX11_twins 0 = .ok (.iconst 0, 1) := by decide +kernel
theorem dX11_twins_1 : decode cX11_twins 1 = .ok (.istore_n 3, 1) := by decide +kernel
theorem dX11_twins_2 : decode cX11_twins 2 = .ok (.iconst 0, 1) := by decide +kernel
theorem dX11_twins_3 : decode cX11_twins 3 = .ok (.istore 4, 2) := by decide +kernel
theorem dX11_twins_5 : decode cX11_twins 5 = .ok (.iload 4, 2) := by decide +kernel
theorem dX11_twins_7 : decode cX11_twins 7 = .ok (.aload_n 0, 1) := by decide +kernel
theorem dX11_twins_8 : decode cX11_twins 8 = .ok (.iload_n 2, 1) := by decide +kernel
theorem dX11_twins_9 : decode cX11_twins 9 = .ok (.invokevirtual 44, 3) := by decide +kernel
theorem dX11_twins_12 : decode cX11_twins 12 = .ok (.if_icmp .ge 33, 3) := by decide +kernel
theorem dX11_twins_15 : decode cX11_twins 15 = .ok (.iload_n 3, 1) := by decide +kernel
theorem dX11_twins_16 : decode cX11_twins 16 = .ok (.aload_n 0, 1) := by decide +kernel
theorem dX11_twins_17 : decode cX11_twins 17 = .ok (.iload_n 1, 1) := by decide +kernel
theorem dX11_twins_18 : decode cX11_twins 18 = .ok (.aload_n 0, 1) := by decide +kernel
theorem dX11_twins_19 : decode cX11_twins 19 = .ok (.iload_n 2, 1) := by decide +kernel
theorem dX11_twins_20 : decode cX11_twins 20 = .ok (.iload 4, 2) := by decide +kernel
theorem dX11_twins_22 : decode cX11_twins 22 = .ok (.invokevirtual 48, 3) := by decide +kernel
theorem dX11_twins_25 : decode cX11_twins 25 = .ok (.invokevirtual 59, 3) := by decide +kernel
theorem dX11_twins_28 : decode cX11_twins 28 = .ok (.iconst (-1), 1) := by decide +kernel
theorem dX11_twins_29 : decode cX11_twins 29 = .ok (.if_icmp .eq 7, 3) := by decide +kernel
theorem dX11_twins_32 : decode cX11_twins 32 = .ok (.iconst 1, 1) := by decide +kernel
theorem dX11_twins_33 : decode cX11_twins 33 = .ok (.goto 4, 3) := by decide +kernel
theorem dX11_twins_36 : decode cX11_twins 36 = .ok (.iconst 0, 1) := by decide +kernel
theorem dX11_twins_37 : decode cX11_twins 37 = .ok (.iadd, 1) := by decide +kernel
theorem dX11_twins_38 : decode cX11_twins 38 = .ok (.istore_n 3, 1) := by decide +kernel
theorem dX11_twins_39 : decode cX11_twins 39 = .ok (.iinc 4 1, 3) := by decide +kernel
theorem dX11_twins_42 : decode cX11_twins 42 = .ok (.goto (-37), 3) := by decide +kernel
theorem dX11_twins_45 : decode cX11_twins 45 = .ok (.iload_n 3, 1) := by decide +kernel
theorem dX11_twins_46 : decode cX11_twins 46 = .ok (.ireturn, 1) := by decide +kernel
theorem dX11_counted_0 : decode cX11_counted 0 = .ok (.iconst 0, 1) := by decide +kernel
theorem dX11_counted_1 : decode cX11_counted 1 = .ok (.istore 4, 2) := by decide +kernel
theorem dX11_counted_3 : decode cX11_counted 3 = .ok (.iconst 0, 1) := by decide +kernel
theorem dX11_counted_4 : decode cX11_counted 4 = .ok (.istore 5, 2) := by decide +kernel
theorem dX11_counted_6 : decode cX11_counted 6 = .ok (.iload 5, 2) := by decide +kernel
theorem dX11_counted_8 : decode cX11_counted 8 = .ok (.aload_n 0, 1) := by decide +kernel
theorem dX11_counted_9 : decode cX11_counted 9 = .ok (.iload_n 1, 1) := by decide +kernel
theorem dX11_counted_10 : decode cX11_counted 10 = .ok (.invokevirtual 44, 3) := by decide +kernel
theorem dX11_counted_13 : decode cX11_counted 13 = .ok (.if_icmp .ge 34, 3) := by decide +kernel
theorem dX11_counted_16 : decode cX11_counted 16 = .ok (.iload 4, 2) := by decide +kernel
theorem dX11_counted_18 : decode cX11_counted 18 = .ok (.aload_n 0, 1) := by decide +kernel
theorem dX11_counted_19 : decode cX11_counted 19 = .ok (.iload_n 1, 1) := by decide +kernel
theorem dX11_counted_20 : decode cX11_counted 20 = .ok (.iload 5, 2) := by decide +kernel
theorem dX11_counted_22 : decode cX11_counted 22 = .ok (.invokevirtual 48, 3) := by decide +kernel
theorem dX11_counted_25 : decode cX11_counted 25 = .ok (.iload_n 2, 1) := by decide +kernel
theorem dX11_counted_26 : decode cX11_counted 26 = .ok (.iload_n 3, 1) := by decide +kernel
theorem dX11_counted_27 : decode cX11_counted 27 = .ok (.invokestatic 37, 3) := by decide +kernel
theorem dX11_counted_30 : decode cX11_counted 30 = .ok (.ifCond .eq 7, 3) := by decide +kernel
theorem dX11_counted_33 : decode cX11_counted 33 = .ok (.iconst 1, 1) := by decide +kernel
theorem dX11_counted_34 : decode cX11_counted 34 = .ok (.goto 4, 3) := by decide +kernel
theorem dX11_counted_37 : decode cX11_counted 37 = .ok (.iconst 0, 1) := by decide +kernel
theorem dX11_counted_38 : decode cX11_counted 38 = .ok (.iadd, 1) := by decide +kernel
theorem dX11_counted_39 : decode cX11_counted 39 = .ok (.istore 4, 2) := by decide +kernel
theorem dX11_counted_41 : decode cX11_counted 41 = .ok (.iinc 5 1, 3) := by decide +kernel
theorem dX11_counted_44 : decode cX11_counted 44 = .ok (.goto (-38), 3) := by decide +kernel
theorem dX11_counted_47 : decode cX11_counted 47 = .ok (.iload 4, 2) := by decide +kernel
theorem dX11_counted_49 : decode cX11_counted 49 = .ok (.ireturn, 1) := by decide +kernel
theorem dX11_laysRow_0 : decode cX11_laysRow 0 = .ok (.aload_n 0, 1) := by decide +kernel
theorem dX11_laysRow_1 : decode cX11_laysRow 1 = .ok (.aload_n 0, 1) := by decide +kernel
theorem dX11_laysRow_2 : decode cX11_laysRow 2 = .ok (.iload_n 1, 1) := by decide +kernel
theorem dX11_laysRow_3 : decode cX11_laysRow 3 = .ok (.invokevirtual 44, 3) := by decide +kernel
theorem dX11_laysRow_6 : decode cX11_laysRow 6 = .ok (.putfield 62, 3) := by decide +kernel
theorem dX11_laysRow_9 : decode cX11_laysRow 9 = .ok (.iconst 0, 1) := by decide +kernel
theorem dX11_laysRow_10 : decode cX11_laysRow 10 = .ok (.istore_n 2, 1) := by decide +kernel
theorem dX11_laysRow_11 : decode cX11_laysRow 11 = .ok (.iload_n 2, 1) := by decide +kernel
theorem dX11_laysRow_12 : decode cX11_laysRow 12 = .ok (.aload_n 0, 1) := by decide +kernel
theorem dX11_laysRow_13 : decode cX11_laysRow 13 = .ok (.getfield 62, 3) := by decide +kernel
theorem dX11_laysRow_16 : decode cX11_laysRow 16 = .ok (.if_icmp .ge 21, 3) := by decide +kernel
theorem dX11_laysRow_19 : decode cX11_laysRow 19 = .ok (.aload_n 0, 1) := by decide +kernel
theorem dX11_laysRow_20 : decode cX11_laysRow 20 = .ok (.getfield 27, 3) := by decide +kernel
theorem dX11_laysRow_23 : decode cX11_laysRow 23 = .ok (.iload_n 2, 1) := by decide +kernel
theorem dX11_laysRow_24 : decode cX11_laysRow 24 = .ok (.aload_n 0, 1) := by decide +kernel
theorem dX11_laysRow_25 : decode cX11_laysRow 25 = .ok (.iload_n 1, 1) := by decide +kernel
theorem dX11_laysRow_26 : decode cX11_laysRow 26 = .ok (.iload_n 2, 1) := by decide +kernel
theorem dX11_laysRow_27 : decode cX11_laysRow 27 = .ok (.invokevirtual 48, 3) := by decide +kernel
theorem dX11_laysRow_30 : decode cX11_laysRow 30 = .ok (.iastore, 1) := by decide +kernel
theorem dX11_laysRow_31 : decode cX11_laysRow 31 = .ok (.iinc 2 1, 3) := by decide +kernel
theorem dX11_laysRow_34 : decode cX11_laysRow 34 = .ok (.goto (-23), 3) := by decide +kernel
theorem dX11_laysRow_37 : decode cX11_laysRow 37 = .ok (.return_, 1) := by decide +kernel
theorem dX11_priority_0 : decode cX11_priority 0 = .ok (.iload_n 0, 1) := by decide +kernel
theorem dX11_priority_1 : decode cX11_priority 1 = .ok (.ldc 65, 2) := by decide +kernel
theorem dX11_priority_3 : decode cX11_priority 3 = .ok (.imul, 1) := by decide +kernel
theorem dX11_priority_4 : decode cX11_priority 4 = .ok (.sipush 9973, 3) := by decide +kernel
theorem dX11_priority_7 : decode cX11_priority 7 = .ok (.iadd, 1) := by decide +kernel
theorem dX11_priority_8 : decode cX11_priority 8 = .ok (.ldc 66, 2) := by decide +kernel
theorem dX11_priority_10 : decode cX11_priority 10 = .ok (.irem, 1) := by decide +kernel
theorem dX11_priority_11 : decode cX11_priority 11 = .ok (.ireturn, 1) := by decide +kernel
theorem dX11_ahead_0 : decode cX11_ahead 0 = .ok (.iload_n 1, 1) := by decide +kernel
theorem dX11_ahead_1 : decode cX11_ahead 1 = .ok (.iload_n 2, 1) := by decide +kernel
theorem dX11_ahead_2 : decode cX11_ahead 2 = .ok (.if_icmp .le 7, 3) := by decide +kernel
theorem dX11_ahead_5 : decode cX11_ahead 5 = .ok (.iconst (-1), 1) := by decide +kernel
theorem dX11_ahead_6 : decode cX11_ahead 6 = .ok (.goto 4, 3) := by decide +kernel
theorem dX11_ahead_9 : decode cX11_ahead 9 = .ok (.iload_n 1, 1) := by decide +kernel
theorem dX11_ahead_10 : decode cX11_ahead 10 = .ok (.istore_n 3, 1) := by decide +kernel
theorem dX11_ahead_11 : decode cX11_ahead 11 = .ok (.iload_n 1, 1) := by decide +kernel
theorem dX11_ahead_12 : decode cX11_ahead 12 = .ok (.iconst 1, 1) := by decide +kernel
theorem dX11_ahead_13 : decode cX11_ahead 13 = .ok (.iadd, 1) := by decide +kernel
theorem dX11_ahead_14 : decode cX11_ahead 14 = .ok (.istore 4, 2) := by decide +kernel
theorem dX11_ahead_16 : decode cX11_ahead 16 = .ok (.iload 4, 2) := by decide +kernel
theorem dX11_ahead_18 : decode cX11_ahead 18 = .ok (.iload_n 2, 1) := by decide +kernel
theorem dX11_ahead_19 : decode cX11_ahead 19 = .ok (.if_icmp .gt 38, 3) := by decide +kernel
theorem dX11_ahead_22 : decode cX11_ahead 22 = .ok (.aload_n 0, 1) := by decide +kernel
theorem dX11_ahead_23 : decode cX11_ahead 23 = .ok (.getfield 27, 3) := by decide +kernel
theorem dX11_ahead_26 : decode cX11_ahead 26 = .ok (.iload 4, 2) := by decide +kernel
theorem dX11_ahead_28 : decode cX11_ahead 28 = .ok (.iaload, 1) := by decide +kernel
theorem dX11_ahead_29 : decode cX11_ahead 29 = .ok (.invokestatic 67, 3) := by decide +kernel
theorem dX11_ahead_32 : decode cX11_ahead 32 = .ok (.aload_n 0, 1) := by decide +kernel
theorem dX11_ahead_33 : decode cX11_ahead 33 = .ok (.getfield 27, 3) := by decide +kernel
theorem dX11_ahead_36 : decode cX11_ahead 36 = .ok (.iload_n 3, 1) := by decide +kernel
theorem dX11_ahead_37 : decode cX11_ahead 37 = .ok (.iaload, 1) := by decide +kernel
theorem dX11_ahead_38 : decode cX11_ahead 38 = .ok (.invokestatic 67, 3) := by decide +kernel
theorem dX11_ahead_41 : decode cX11_ahead 41 = .ok (.if_icmp .le 8, 3) := by decide +kernel
theorem dX11_ahead_44 : decode cX11_ahead 44 = .ok (.iload 4, 2) := by decide +kernel
theorem dX11_ahead_46 : decode cX11_ahead 46 = .ok (.goto 4, 3) := by decide +kernel
theorem dX11_ahead_49 : decode cX11_ahead 49 = .ok (.iload_n 3, 1) := by decide +kernel
theorem dX11_ahead_50 : decode cX11_ahead 50 = .ok (.istore_n 3, 1) := by decide +kernel
theorem dX11_ahead_51 : decode cX11_ahead 51 = .ok (.iinc 4 1, 3) := by decide +kernel
theorem dX11_ahead_54 : decode cX11_ahead 54 = .ok (.goto (-38), 3) := by decide +kernel
theorem dX11_ahead_57 : decode cX11_ahead 57 = .ok (.iload_n 3, 1) := by decide +kernel
theorem dX11_ahead_58 : decode cX11_ahead 58 = .ok (.ireturn, 1) := by decide +kernel
theorem dX11_goesTo_0 : decode cX11_goesTo 0 = .ok (.aload_n 0, 1) := by decide +kernel
theorem dX11_goesTo_1 : decode cX11_goesTo 1 = .ok (.iconst 0, 1) := by decide +kernel
theorem dX11_goesTo_2 : decode cX11_goesTo 2 = .ok (.putfield 70, 3) := by decide +kernel
theorem dX11_goesTo_5 : decode cX11_goesTo 5 = .ok (.aload_n 0, 1) := by decide +kernel
theorem dX11_goesTo_6 : decode cX11_goesTo 6 = .ok (.aload_n 0, 1) := by decide +kernel
theorem dX11_goesTo_7 : decode cX11_goesTo 7 = .ok (.getfield 62, 3) := by decide +kernel
theorem dX11_goesTo_10 : decode cX11_goesTo 10 = .ok (.iconst 1, 1) := by decide +kernel
theorem dX11_goesTo_11 : decode cX11_goesTo 11 = .ok (.isub, 1) := by decide +kernel
theorem dX11_goesTo_12 : decode cX11_goesTo 12 = .ok (.putfield 73, 3) := by decide +kernel
theorem dX11_goesTo_15 : decode cX11_goesTo 15 = .ok (.aload_n 0, 1) := by decide +kernel
theorem dX11_goesTo_16 : decode cX11_goesTo 16 = .ok (.iconst (-1), 1) := by decide +kernel
theorem dX11_goesTo_17 : decode cX11_goesTo 17 = .ok (.putfield 76, 3) := by decide +kernel
theorem dX11_goesTo_20 : decode cX11_goesTo 20 = .ok (.aload_n 0, 1) := by decide +kernel
theorem dX11_goesTo_21 : decode cX11_goesTo 21 = .ok (.iconst 0, 1) := by decide +kernel
theorem dX11_goesTo_22 : decode cX11_goesTo 22 = .ok (.putfield 79, 3) := by decide +kernel
theorem dX11_goesTo_25 : decode cX11_goesTo 25 = .ok (.aload_n 0, 1) := by decide +kernel
theorem dX11_goesTo_26 : decode cX11_goesTo 26 = .ok (.aload_n 0, 1) := by decide +kernel
theorem dX11_goesTo_27 : decode cX11_goesTo 27 = .ok (.getfield 70, 3) := by decide +kernel
theorem dX11_goesTo_30 : decode cX11_goesTo 30 = .ok (.aload_n 0, 1) := by decide +kernel
theorem dX11_goesTo_31 : decode cX11_goesTo 31 = .ok (.getfield 73, 3) := by decide +kernel
theorem dX11_goesTo_34 : decode cX11_goesTo 34 = .ok (.invokevirtual 82, 3) := by decide +kernel
theorem dX11_goesTo_37 : decode cX11_goesTo 37 = .ok (.istore_n 2, 1) := by decide +kernel
theorem dX11_goesTo_38 : decode cX11_goesTo 38 = .ok (.iload_n 2, 1) := by decide +kernel
theorem dX11_goesTo_39 : decode cX11_goesTo 39 = .ok (.iload_n 1, 1) := by decide +kernel
theorem dX11_goesTo_40 : decode cX11_goesTo 40 = .ok (.if_icmp .eq 56, 3) := by decide +kernel
theorem dX11_goesTo_43 : decode cX11_goesTo 43 = .ok (.aload_n 0, 1) := by decide +kernel
theorem dX11_goesTo_44 : decode cX11_goesTo 44 = .ok (.iload_n 2, 1) := by decide +kernel
theorem dX11_goesTo_45 : decode cX11_goesTo 45 = .ok (.putfield 76, 3) := by decide +kernel
theorem dX11_goesTo_48 : decode cX11_goesTo 48 = .ok (.aload_n 0, 1) := by decide +kernel
theorem dX11_goesTo_49 : decode cX11_goesTo 49 = .ok (.dup, 1) := by decide +kernel
theorem dX11_goesTo_50 : decode cX11_goesTo 50 = .ok (.getfield 79, 3) := by decide +kernel
theorem dX11_goesTo_53 : decode cX11_goesTo 53 = .ok (.iconst 1, 1) := by decide +kernel
theorem dX11_goesTo_54 : decode cX11_goesTo 54 = .ok (.iadd, 1) := by decide +kernel
theorem dX11_goesTo_55 : decode cX11_goesTo 55 = .ok (.putfield 79, 3) := by decide +kernel
theorem dX11_goesTo_58 : decode cX11_goesTo 58 = .ok (.iload_n 1, 1) := by decide +kernel
theorem dX11_goesTo_59 : decode cX11_goesTo 59 = .ok (.iload_n 2, 1) := by decide +kernel
theorem dX11_goesTo_60 : decode cX11_goesTo 60 = .ok (.if_icmp .ge 13, 3) := by decide +kernel
theorem dX11_goesTo_63 : decode cX11_goesTo 63 = .ok (.aload_n 0, 1) := by decide +kernel
theorem dX11_goesTo_64 : decode cX11_goesTo 64 = .ok (.iload_n 2, 1) := by decide +kernel
theorem dX11_goesTo_65 : decode cX11_goesTo 65 = .ok (.iconst 1, 1) := by decide +kernel
theorem dX11_goesTo_66 : decode cX11_goesTo 66 = .ok (.isub, 1) := by decide +kernel
theorem dX11_goesTo_67 : decode cX11_goesTo 67 = .ok (.putfield 73, 3) := by decide +kernel
theorem dX11_goesTo_70 : decode cX11_goesTo 70 = .ok (.goto 10, 3) := by decide +kernel
theorem dX11_goesTo_73 : decode cX11_goesTo 73 = .ok (.aload_n 0, 1) := by decide +kernel
theorem dX11_goesTo_74 : decode cX11_goesTo 74 = .ok (.iload_n 2, 1) := by decide +kernel
theorem dX11_goesTo_75 : decode cX11_goesTo 75 = .ok (.iconst 1, 1) := by decide +kernel
theorem dX11_goesTo_76 : decode cX11_goesTo 76 = .ok (.iadd, 1) := by decide +kernel
theorem dX11_goesTo_77 : decode cX11_goesTo 77 = .ok (.putfield 70, 3) := by decide +kernel
theorem dX11_goesTo_80 : decode cX11_goesTo 80 = .ok (.aload_n 0, 1) := by decide +kernel
theorem dX11_goesTo_81 : decode cX11_goesTo 81 = .ok (.aload_n 0, 1) := by decide +kernel
theorem dX11_goesTo_82 : decode cX11_goesTo 82 = .ok (.getfield 70, 3) := by decide +kernel
theorem dX11_goesTo_85 : decode cX11_goesTo 85 = .ok (.aload_n 0, 1) := by decide +kernel
theorem dX11_goesTo_86 : decode cX11_goesTo 86 = .ok (.getfield 73, 3) := by decide +kernel
theorem dX11_goesTo_89 : decode cX11_goesTo 89 = .ok (.invokevirtual 82, 3) := by decide +kernel
theorem dX11_goesTo_92 : decode cX11_goesTo 92 = .ok (.istore_n 2, 1) := by decide +kernel
theorem dX11_goesTo_93 : decode cX11_goesTo 93 = .ok (.goto (-55), 3) := by decide +kernel
theorem dX11_goesTo_96 : decode cX11_goesTo 96 = .ok (.return_, 1) := by decide +kernel
theorem dX11_depth_0 : decode cX11_depth 0 = .ok (.aload_n 0, 1) := by decide +kernel
theorem dX11_depth_1 : decode cX11_depth 1 = .ok (.iload_n 1, 1) := by decide +kernel
theorem dX11_depth_2 : decode cX11_depth 2 = .ok (.invokevirtual 85, 3) := by decide +kernel
theorem dX11_depth_5 : decode cX11_depth 5 = .ok (.aload_n 0, 1) := by decide +kernel
theorem dX11_depth_6 : decode cX11_depth 6 = .ok (.getfield 79, 3) := by decide +kernel
theorem dX11_depth_9 : decode cX11_depth 9 = .ok (.ireturn, 1) := by decide +kernel
theorem dX11_high_0 : decode cX11_high 0 = .ok (.iconst 0, 1) := by decide +kernel
theorem dX11_high_1 : decode cX11_high 1 = .ok (.istore_n 1, 1) := by decide +kernel
theorem dX11_high_2 : decode cX11_high 2 = .ok (.iconst 0, 1) := by decide +kernel
theorem dX11_high_3 : decode cX11_high 3 = .ok (.istore_n 2, 1) := by decide +kernel
theorem dX11_high_4 : decode cX11_high 4 = .ok (.iload_n 2, 1) := by decide +kernel
theorem dX11_high_5 : decode cX11_high 5 = .ok (.aload_n 0, 1) := by decide +kernel
theorem dX11_high_6 : decode cX11_high 6 = .ok (.getfield 62, 3) := by decide +kernel
theorem dX11_high_9 : decode cX11_high 9 = .ok (.if_icmp .ge 32, 3) := by decide +kernel
theorem dX11_high_12 : decode cX11_high 12 = .ok (.aload_n 0, 1) := by decide +kernel
theorem dX11_high_13 : decode cX11_high 13 = .ok (.iload_n 2, 1) := by decide +kernel
theorem dX11_high_14 : decode cX11_high 14 = .ok (.invokevirtual 88, 3) := by decide +kernel
theorem dX11_high_17 : decode cX11_high 17 = .ok (.iconst 1, 1) := by decide +kernel
theorem dX11_high_18 : decode cX11_high 18 = .ok (.iadd, 1) := by decide +kernel
theorem dX11_high_19 : decode cX11_high 19 = .ok (.iload_n 1, 1) := by decide +kernel
theorem dX11_high_20 : decode cX11_high 20 = .ok (.if_icmp .le 13, 3) := by decide +kernel
theorem dX11_high_23 : decode cX11_high 23 = .ok (.aload_n 0, 1) := by decide +kernel
theorem dX11_high_24 : decode cX11_high 24 = .ok (.iload_n 2, 1) := by decide +kernel
theorem dX11_high_25 : decode cX11_high 25 = .ok (.invokevirtual 88, 3) := by decide +kernel
theorem dX11_high_28 : decode cX11_high 28 = .ok (.iconst 1, 1) := by decide +kernel
theorem dX11_high_29 : decode cX11_high 29 = .ok (.iadd, 1) := by decide +kernel
theorem dX11_high_30 : decode cX11_high 30 = .ok (.goto 4, 3) := by decide +kernel
theorem dX11_high_33 : decode cX11_high 33 = .ok (.iload_n 1, 1) := by decide +kernel
theorem dX11_high_34 : decode cX11_high 34 = .ok (.istore_n 1, 1) := by decide +kernel
theorem dX11_high_35 : decode cX11_high 35 = .ok (.iinc 2 1, 3) := by decide +kernel
theorem dX11_high_38 : decode cX11_high 38 = .ok (.goto (-34), 3) := by decide +kernel
theorem dX11_high_41 : decode cX11_high 41 = .ok (.iload_n 1, 1) := by decide +kernel
theorem dX11_high_42 : decode cX11_high 42 = .ok (.ireturn, 1) := by decide +kernel
theorem dX11_farOf_0 : decode cX11_farOf 0 = .ok (.iload_n 1, 1) := by decide +kernel
theorem dX11_farOf_1 : decode cX11_farOf 1 = .ok (.iload_n 2, 1) := by decide +kernel
theorem dX11_farOf_2 : decode cX11_farOf 2 = .ok (.if_icmp .ge 7, 3) := by decide +kernel
theorem dX11_farOf_5 : decode cX11_farOf 5 = .ok (.iload_n 1, 1) := by decide +kernel
theorem dX11_farOf_6 : decode cX11_farOf 6 = .ok (.goto 4, 3) := by decide +kernel
theorem dX11_farOf_9 : decode cX11_farOf 9 = .ok (.iload_n 2, 1) := by decide +kernel
theorem dX11_farOf_10 : decode cX11_farOf 10 = .ok (.istore_n 3, 1) := by decide +kernel
theorem dX11_farOf_11 : decode cX11_farOf 11 = .ok (.iload_n 1, 1) := by decide +kernel
theorem dX11_farOf_12 : decode cX11_farOf 12 = .ok (.iload_n 2, 1) := by decide +kernel
theorem dX11_farOf_13 : decode cX11_farOf 13 = .ok (.if_icmp .ge 7, 3) := by decide +kernel
theorem dX11_farOf_16 : decode cX11_farOf 16 = .ok (.iload_n 2, 1) := by decide +kernel
theorem dX11_farOf_17 : decode cX11_farOf 17 = .ok (.goto 4, 3) := by decide +kernel
theorem dX11_farOf_20 : decode cX11_farOf 20 = .ok (.iload_n 1, 1) := by decide +kernel
theorem dX11_farOf_21 : decode cX11_farOf 21 = .ok (.istore 4, 2) := by decide +kernel
theorem dX11_farOf_23 : decode cX11_farOf 23 = .ok (.aload_n 0, 1) := by decide +kernel
theorem dX11_farOf_24 : decode cX11_farOf 24 = .ok (.iload_n 1, 1) := by decide +kernel
theorem dX11_farOf_25 : decode cX11_farOf 25 = .ok (.invokevirtual 88, 3) := by decide +kernel
theorem dX11_farOf_28 : decode cX11_farOf 28 = .ok (.aload_n 0, 1) := by decide +kernel
theorem dX11_farOf_29 : decode cX11_farOf 29 = .ok (.iload_n 2, 1) := by decide +kernel
theorem dX11_farOf_30 : decode cX11_farOf 30 = .ok (.invokevirtual 88, 3) := by decide +kernel
theorem dX11_farOf_33 : decode cX11_farOf 33 = .ok (.iadd, 1) := by decide +kernel
theorem dX11_farOf_34 : decode cX11_farOf 34 = .ok (.iconst 2, 1) := by decide +kernel
theorem dX11_farOf_35 : decode cX11_farOf 35 = .ok (.aload_n 0, 1) := by decide +kernel
theorem dX11_farOf_36 : decode cX11_farOf 36 = .ok (.aload_n 0, 1) := by decide +kernel
theorem dX11_farOf_37 : decode cX11_farOf 37 = .ok (.iload_n 3, 1) := by decide +kernel
theorem dX11_farOf_38 : decode cX11_farOf 38 = .ok (.iload 4, 2) := by decide +kernel
theorem dX11_farOf_40 : decode cX11_farOf 40 = .ok (.invokevirtual 82, 3) := by decide +kernel
theorem dX11_farOf_43 : decode cX11_farOf 43 = .ok (.invokevirtual 88, 3) := by decide +kernel
theorem dX11_farOf_46 : decode cX11_farOf 46 = .ok (.imul, 1) := by decide +kernel
theorem dX11_farOf_47 : decode cX11_farOf 47 = .ok (.isub, 1) := by decide +kernel
theorem dX11_farOf_48 : decode cX11_farOf 48 = .ok (.ireturn, 1) := by decide +kernel
theorem dX11_endsRun_0 : decode cX11_endsRun 0 = .ok (.aload_n 0, 1) := by decide +kernel
theorem dX11_endsRun_1 : decode cX11_endsRun 1 = .ok (.getfield 91, 3) := by decide +kernel
theorem dX11_endsRun_4 : decode cX11_endsRun 4 = .ok (.ifCond .ne 4, 3) := by decide +kernel
theorem dX11_endsRun_7 : decode cX11_endsRun 7 = .ok (.return_, 1) := by decide +kernel
theorem dX11_endsRun_8 : decode cX11_endsRun 8 = .ok (.aload_n 0, 1) := by decide +kernel
theorem dX11_endsRun_9 : decode cX11_endsRun 9 = .ok (.dup, 1) := by decide +kernel
theorem dX11_endsRun_10 : decode cX11_endsRun 10 = .ok (.getfield 94, 3) := by decide +kernel
theorem dX11_endsRun_13 : decode cX11_endsRun 13 = .ok (.iconst 1, 1) := by decide +kernel
theorem dX11_endsRun_14 : decode cX11_endsRun 14 = .ok (.iadd, 1) := by decide +kernel
theorem dX11_endsRun_15 : decode cX11_endsRun 15 = .ok (.putfield 94, 3) := by decide +kernel
theorem dX11_endsRun_18 : decode cX11_endsRun 18 = .ok (.aload_n 0, 1) := by decide +kernel
theorem dX11_endsRun_19 : decode cX11_endsRun 19 = .ok (.aload_n 0, 1) := by decide +kernel
theorem dX11_endsRun_20 : decode cX11_endsRun 20 = .ok (.getfield 91, 3) := by decide +kernel
theorem dX11_endsRun_23 : decode cX11_endsRun 23 = .ok (.aload_n 0, 1) := by decide +kernel
theorem dX11_endsRun_24 : decode cX11_endsRun 24 = .ok (.getfield 97, 3) := by decide +kernel
theorem dX11_endsRun_27 : decode cX11_endsRun 27 = .ok (.if_icmp .le 10, 3) := by decide +kernel
theorem dX11_endsRun_30 : decode cX11_endsRun 30 = .ok (.aload_n 0, 1) := by decide +kernel
theorem dX11_endsRun_31 : decode cX11_endsRun 31 = .ok (.getfield 91, 3) := by decide +kernel
theorem dX11_endsRun_34 : decode cX11_endsRun 34 = .ok (.goto 7, 3) := by decide +kernel
theorem dX11_endsRun_37 : decode cX11_endsRun 37 = .ok (.aload_n 0, 1) := by decide +kernel
theorem dX11_endsRun_38 : decode cX11_endsRun 38 = .ok (.getfield 97, 3) := by decide +kernel
theorem dX11_endsRun_41 : decode cX11_endsRun 41 = .ok (.putfield 97, 3) := by decide +kernel
theorem dX11_endsRun_44 : decode cX11_endsRun 44 = .ok (.aload_n 0, 1) := by decide +kernel
theorem dX11_endsRun_45 : decode cX11_endsRun 45 = .ok (.dup, 1) := by decide +kernel
theorem dX11_endsRun_46 : decode cX11_endsRun 46 = .ok (.getfield 100, 3) := by decide +kernel
theorem dX11_endsRun_49 : decode cX11_endsRun 49 = .ok (.iconst 1, 1) := by decide +kernel
theorem dX11_endsRun_50 : decode cX11_endsRun 50 = .ok (.iadd, 1) := by decide +kernel
theorem dX11_endsRun_51 : decode cX11_endsRun 51 = .ok (.putfield 100, 3) := by decide +kernel
theorem dX11_endsRun_54 : decode cX11_endsRun 54 = .ok (.aload_n 0, 1) := by decide +kernel
theorem dX11_endsRun_55 : decode cX11_endsRun 55 = .ok (.getfield 91, 3) := by decide +kernel
theorem dX11_endsRun_58 : decode cX11_endsRun 58 = .ok (.istore_n 1, 1) := by decide +kernel
theorem dX11_endsRun_59 : decode cX11_endsRun 59 = .ok (.iload_n 1, 1) := by decide +kernel
theorem dX11_endsRun_60 : decode cX11_endsRun 60 = .ok (.iconst 1, 1) := by decide +kernel
theorem dX11_endsRun_61 : decode cX11_endsRun 61 = .ok (.if_icmp .le 20, 3) := by decide +kernel
theorem dX11_endsRun_64 : decode cX11_endsRun 64 = .ok (.aload_n 0, 1) := by decide +kernel
theorem dX11_endsRun_65 : decode cX11_endsRun 65 = .ok (.dup, 1) := by decide +kernel
theorem dX11_endsRun_66 : decode cX11_endsRun 66 = .ok (.getfield 100, 3) := by decide +kernel
theorem dX11_endsRun_69 : decode cX11_endsRun 69 = .ok (.iconst 1, 1) := by decide +kernel
theorem dX11_endsRun_70 : decode cX11_endsRun 70 = .ok (.iadd, 1) := by decide +kernel
theorem dX11_endsRun_71 : decode cX11_endsRun 71 = .ok (.putfield 100, 3) := by decide +kernel
theorem dX11_endsRun_74 : decode cX11_endsRun 74 = .ok (.iload_n 1, 1) := by decide +kernel
theorem dX11_endsRun_75 : decode cX11_endsRun 75 = .ok (.iconst 2, 1) := by decide +kernel
theorem dX11_endsRun_76 : decode cX11_endsRun 76 = .ok (.idiv, 1) := by decide +kernel
theorem dX11_endsRun_77 : decode cX11_endsRun 77 = .ok (.istore_n 1, 1) := by decide +kernel
theorem dX11_endsRun_78 : decode cX11_endsRun 78 = .ok (.goto (-19), 3) := by decide +kernel
theorem dX11_endsRun_81 : decode cX11_endsRun 81 = .ok (.return_, 1) := by decide +kernel
theorem dX11_goes_0 : decode cX11_goes 0 = .ok (.iload_n 1, 1) := by decide +kernel
theorem dX11_goes_1 : decode cX11_goes 1 = .ok (.aload_n 0, 1) := by decide +kernel
theorem dX11_goes_2 : decode cX11_goes 2 = .ok (.getfield 103, 3) := by decide +kernel
theorem dX11_goes_5 : decode cX11_goes 5 = .ok (.if_icmp .eq 17, 3) := by decide +kernel
theorem dX11_goes_8 : decode cX11_goes 8 = .ok (.aload_n 0, 1) := by decide +kernel
theorem dX11_goes_9 : decode cX11_goes 9 = .ok (.invokevirtual 106, 3) := by decide +kernel
theorem dX11_goes_12 : decode cX11_goes 12 = .ok (.aload_n 0, 1) := by decide +kernel
theorem dX11_goes_13 : decode cX11_goes 13 = .ok (.iconst 0, 1) := by decide +kernel
theorem dX11_goes_14 : decode cX11_goes 14 = .ok (.putfield 91, 3) := by decide +kernel
theorem dX11_goes_17 : decode cX11_goes 17 = .ok (.aload_n 0, 1) := by decide +kernel
theorem dX11_goes_18 : decode cX11_goes 18 = .ok (.iload_n 1, 1) := by decide +kernel
theorem dX11_goes_19 : decode cX11_goes 19 = .ok (.putfield 103, 3) := by decide +kernel
theorem dX11_goes_22 : decode cX11_goes 22 = .ok (.aload_n 0, 1) := by decide +kernel
theorem dX11_goes_23 : decode cX11_goes 23 = .ok (.dup, 1) := by decide +kernel
theorem dX11_goes_24 : decode cX11_goes 24 = .ok (.getfield 91, 3) := by decide +kernel
theorem dX11_goes_27 : decode cX11_goes 27 = .ok (.iconst 1, 1) := by decide +kernel
theorem dX11_goes_28 : decode cX11_goes 28 = .ok (.iadd, 1) := by decide +kernel
theorem dX11_goes_29 : decode cX11_goes 29 = .ok (.putfield 91, 3) := by decide +kernel
theorem dX11_goes_32 : decode cX11_goes 32 = .ok (.return_, 1) := by decide +kernel
theorem dX11_laysRuns_0 : decode cX11_laysRuns 0 = .ok (.aload_n 0, 1) := by decide +kernel
theorem dX11_laysRuns_1 : decode cX11_laysRuns 1 = .ok (.iconst 0, 1) := by decide +kernel
theorem dX11_laysRuns_2 : decode cX11_laysRuns 2 = .ok (.putfield 94, 3) := by decide +kernel
theorem dX11_laysRuns_5 : decode cX11_laysRuns 5 = .ok (.aload_n 0, 1) := by decide +kernel
theorem dX11_laysRuns_6 : decode cX11_laysRuns 6 = .ok (.iconst 0, 1) := by decide +kernel
theorem dX11_laysRuns_7 : decode cX11_laysRuns 7 = .ok (.putfield 100, 3) := by decide +kernel
theorem dX11_laysRuns_10 : decode cX11_laysRuns 10 = .ok (.aload_n 0, 1) := by decide +kernel
theorem dX11_laysRuns_11 : decode cX11_laysRuns 11 = .ok (.iconst 0, 1) := by decide +kernel
theorem dX11_laysRuns_12 : decode cX11_laysRuns 12 = .ok (.putfield 97, 3) := by decide +kernel
theorem dX11_laysRuns_15 : decode cX11_laysRuns 15 = .ok (.aload_n 0, 1) := by decide +kernel
theorem dX11_laysRuns_16 : decode cX11_laysRuns 16 = .ok (.iconst 0, 1) := by decide +kernel
theorem dX11_laysRuns_17 : decode cX11_laysRuns 17 = .ok (.putfield 91, 3) := by decide +kernel
theorem dX11_laysRuns_20 : decode cX11_laysRuns 20 = .ok (.aload_n 0, 1) := by decide +kernel
theorem dX11_laysRuns_21 : decode cX11_laysRuns 21 = .ok (.iconst (-1), 1) := by decide +kernel
theorem dX11_laysRuns_22 : decode cX11_laysRuns 22 = .ok (.putfield 103, 3) := by decide +kernel
theorem dX11_laysRuns_25 : decode cX11_laysRuns 25 = .ok (.iconst 0, 1) := by decide +kernel
theorem dX11_laysRuns_26 : decode cX11_laysRuns 26 = .ok (.istore_n 3, 1) := by decide +kernel
theorem dX11_laysRuns_27 : decode cX11_laysRuns 27 = .ok (.iconst 0, 1) := by decide +kernel
theorem dX11_laysRuns_28 : decode cX11_laysRuns 28 = .ok (.istore 4, 2) := by decide +kernel
theorem dX11_laysRuns_30 : decode cX11_laysRuns 30 = .ok (.iload_n 3, 1) := by decide +kernel
theorem dX11_laysRuns_31 : decode cX11_laysRuns 31 = .ok (.aload_n 0, 1) := by decide +kernel
theorem dX11_laysRuns_32 : decode cX11_laysRuns 32 = .ok (.iload_n 1, 1) := by decide +kernel
theorem dX11_laysRuns_33 : decode cX11_laysRuns 33 = .ok (.invokevirtual 44, 3) := by decide +kernel
theorem dX11_laysRuns_36 : decode cX11_laysRuns 36 = .ok (.if_icmp .lt 13, 3) := by decide +kernel
theorem dX11_laysRuns_39 : decode cX11_laysRuns 39 = .ok (.iload 4, 2) := by decide +kernel
theorem dX11_laysRuns_41 : decode cX11_laysRuns 41 = .ok (.aload_n 0, 1) := by decide +kernel
theorem dX11_laysRuns_42 : decode cX11_laysRuns 42 = .ok (.iload_n 2, 1) := by decide +kernel
theorem dX11_laysRuns_43 : decode cX11_laysRuns 43 = .ok (.invokevirtual 44, 3) := by decide +kernel
theorem dX11_laysRuns_46 : decode cX11_laysRuns 46 = .ok (.if_icmp .ge 106, 3) := by decide +kernel
theorem dX11_laysRuns_49 : decode cX11_laysRuns 49 = .ok (.iload_n 3, 1) := by decide +kernel
theorem dX11_laysRuns_50 : decode cX11_laysRuns 50 = .ok (.aload_n 0, 1) := by decide +kernel
theorem dX11_laysRuns_51 : decode cX11_laysRuns 51 = .ok (.iload_n 1, 1) := by decide +kernel
theorem dX11_laysRuns_52 : decode cX11_laysRuns 52 = .ok (.invokevirtual 44, 3) := by decide +kernel
theorem dX11_laysRuns_55 : decode cX11_laysRuns 55 = .ok (.if_icmp .ge 12, 3) := by decide +kernel
theorem dX11_laysRuns_58 : decode cX11_laysRuns 58 = .ok (.aload_n 0, 1) := by decide +kernel
theorem dX11_laysRuns_59 : decode cX11_laysRuns 59 = .ok (.iload_n 1, 1) := by decide +kernel
theorem dX11_laysRuns_60 : decode cX11_laysRuns 60 = .ok (.iload_n 3, 1) := by decide +kernel
theorem dX11_laysRuns_61 : decode cX11_laysRuns 61 = .ok (.invokevirtual 48, 3) := by decide +kernel
theorem dX11_laysRuns_64 : decode cX11_laysRuns 64 = .ok (.goto 6, 3) := by decide +kernel
theorem dX11_laysRuns_67 : decode cX11_laysRuns 67 = .ok (.sipush 10000, 3) := by decide +kernel
theorem dX11_laysRuns_70 : decode cX11_laysRuns 70 = .ok (.istore 5, 2) := by decide +kernel
theorem dX11_laysRuns_72 : decode cX11_laysRuns 72 = .ok (.iload 4, 2) := by decide +kernel
theorem dX11_laysRuns_74 : decode cX11_laysRuns 74 = .ok (.aload_n 0, 1) := by decide +kernel
theorem dX11_laysRuns_75 : decode cX11_laysRuns 75 = .ok (.iload_n 2, 1) := by decide +kernel
theorem dX11_laysRuns_76 : decode cX11_laysRuns 76 = .ok (.invokevirtual 44, 3) := by decide +kernel
theorem dX11_laysRuns_79 : decode cX11_laysRuns 79 = .ok (.if_icmp .ge 13, 3) := by decide +kernel
theorem dX11_laysRuns_82 : decode cX11_laysRuns 82 = .ok (.aload_n 0, 1) := by decide +kernel
theorem dX11_laysRuns_83 : decode cX11_laysRuns 83 = .ok (.iload_n 2, 1) := by decide +kernel
theorem dX11_laysRuns_84 : decode cX11_laysRuns 84 = .ok (.iload 4, 2) := by decide +kernel
theorem dX11_laysRuns_86 : decode cX11_laysRuns 86 = .ok (.invokevirtual 48, 3) := by decide +kernel
theorem dX11_laysRuns_89 : decode cX11_laysRuns 89 = .ok (.goto 6, 3) := by decide +kernel
theorem dX11_laysRuns_92 : decode cX11_laysRuns 92 = .ok (.sipush 10000, 3) := by decide +kernel
theorem dX11_laysRuns_95 : decode cX11_laysRuns 95 = .ok (.istore 6, 2) := by decide +kernel
theorem dX11_laysRuns_97 : decode cX11_laysRuns 97 = .ok (.iload 5, 2) := by decide +kernel
theorem dX11_laysRuns_99 : decode cX11_laysRuns 99 = .ok (.iload 6, 2) := by decide +kernel
theorem dX11_laysRuns_101 : decode cX11_laysRuns 101 = .ok (.if_icmp .gt 11, 3) := by decide +kernel
theorem dX11_laysRuns_104 : decode cX11_laysRuns 104 = .ok (.aload_n 0, 1) := by decide +kernel
theorem dX11_laysRuns_105 : decode cX11_laysRuns 105 = .ok (.iconst 0, 1) := by decide +kernel
theorem dX11_laysRuns_106 : decode cX11_laysRuns 106 = .ok (.invokevirtual 109, 3) := by decide +kernel
theorem dX11_laysRuns_109 : decode cX11_laysRuns 109 = .ok (.goto 8, 3) := by decide +kernel
theorem dX11_laysRuns_112 : decode cX11_laysRuns 112 = .ok (.aload_n 0, 1) := by decide +kernel
theorem dX11_laysRuns_113 : decode cX11_laysRuns 113 = .ok (.iconst 1, 1) := by decide +kernel
theorem dX11_laysRuns_114 : decode cX11_laysRuns 114 = .ok (.invokevirtual 109, 3) := by decide +kernel
theorem dX11_laysRuns_117 : decode cX11_laysRuns 117 = .ok (.iload_n 3, 1) := by decide +kernel
theorem dX11_laysRuns_118 : decode cX11_laysRuns 118 = .ok (.iload 5, 2) := by decide +kernel
theorem dX11_laysRuns_120 : decode cX11_laysRuns 120 = .ok (.iload 6, 2) := by decide +kernel
theorem dX11_laysRuns_122 : decode cX11_laysRuns 122 = .ok (.if_icmp .gt 7, 3) := by decide +kernel
theorem dX11_laysRuns_125 : decode cX11_laysRuns 125 = .ok (.iconst 1, 1) := by decide +kernel
theorem dX11_laysRuns_126 : decode cX11_laysRuns 126 = .ok (.goto 4, 3) := by decide +kernel
theorem dX11_laysRuns_129 : decode cX11_laysRuns 129 = .ok (.iconst 0, 1) := by decide +kernel
theorem dX11_laysRuns_130 : decode cX11_laysRuns 130 = .ok (.iadd, 1) := by decide +kernel
theorem dX11_laysRuns_131 : decode cX11_laysRuns 131 = .ok (.istore_n 3, 1) := by decide +kernel
theorem dX11_laysRuns_132 : decode cX11_laysRuns 132 = .ok (.iload 4, 2) := by decide +kernel
theorem dX11_laysRuns_134 : decode cX11_laysRuns 134 = .ok (.iload 6, 2) := by decide +kernel
theorem dX11_laysRuns_136 : decode cX11_laysRuns 136 = .ok (.iload 5, 2) := by decide +kernel
theorem dX11_laysRuns_138 : decode cX11_laysRuns 138 = .ok (.if_icmp .gt 7, 3) := by decide +kernel
theorem dX11_laysRuns_141 : decode cX11_laysRuns 141 = .ok (.iconst 1, 1) := by decide +kernel
theorem dX11_laysRuns_142 : decode cX11_laysRuns 142 = .ok (.goto 4, 3) := by decide +kernel
theorem dX11_laysRuns_145 : decode cX11_laysRuns 145 = .ok (.iconst 0, 1) := by decide +kernel
theorem dX11_laysRuns_146 : decode cX11_laysRuns 146 = .ok (.iadd, 1) := by decide +kernel
theorem dX11_laysRuns_147 : decode cX11_laysRuns 147 = .ok (.istore 4, 2) := by decide +kernel
theorem dX11_laysRuns_149 : decode cX11_laysRuns 149 = .ok (.goto (-119), 3) := by decide +kernel
theorem dX11_laysRuns_152 : decode cX11_laysRuns 152 = .ok (.aload_n 0, 1) := by decide +kernel
theorem dX11_laysRuns_153 : decode cX11_laysRuns 153 = .ok (.invokevirtual 106, 3) := by decide +kernel
theorem dX11_laysRuns_156 : decode cX11_laysRuns 156 = .ok (.return_, 1) := by decide +kernel
theorem dX11_areTwo_0 : decode cX11_areTwo 0 = .ok (.iload_n 1, 1) := by decide +kernel
theorem dX11_areTwo_1 : decode cX11_areTwo 1 = .ok (.invokestatic 112, 3) := by decide +kernel
theorem dX11_areTwo_4 : decode cX11_areTwo 4 = .ok (.ifCond .eq 19, 3) := by decide +kernel
theorem dX11_areTwo_7 : decode cX11_areTwo 7 = .ok (.iload_n 2, 1) := by decide +kernel
theorem dX11_areTwo_8 : decode cX11_areTwo 8 = .ok (.invokestatic 112, 3) := by decide +kernel
theorem dX11_areTwo_11 : decode cX11_areTwo 11 = .ok (.ifCond .eq 12, 3) := by decide +kernel
theorem dX11_areTwo_14 : decode cX11_areTwo 14 = .ok (.iload_n 1, 1) := by decide +kernel
theorem dX11_areTwo_15 : decode cX11_areTwo 15 = .ok (.iload_n 2, 1) := by decide +kernel
theorem dX11_areTwo_16 : decode cX11_areTwo 16 = .ok (.if_icmp .eq 7, 3) := by decide +kernel
theorem dX11_areTwo_19 : decode cX11_areTwo 19 = .ok (.iconst 1, 1) := by decide +kernel
theorem dX11_areTwo_20 : decode cX11_areTwo 20 = .ok (.goto 4, 3) := by decide +kernel
theorem dX11_areTwo_23 : decode cX11_areTwo 23 = .ok (.iconst 0, 1) := by decide +kernel
theorem dX11_areTwo_24 : decode cX11_areTwo 24 = .ok (.ireturn, 1) := by decide +kernel
theorem dX11_refusesPut_0 : decode cX11_refusesPut 0 = .ok (.iload_n 1, 1) := by decide +kernel
theorem dX11_refusesPut_1 : decode cX11_refusesPut 1 = .ok (.invokestatic 112, 3) := by decide +kernel
theorem dX11_refusesPut_4 : decode cX11_refusesPut 4 = .ok (.ifCond .eq 10, 3) := by decide +kernel
theorem dX11_refusesPut_7 : decode cX11_refusesPut 7 = .ok (.iload_n 2, 1) := by decide +kernel
theorem dX11_refusesPut_8 : decode cX11_refusesPut 8 = .ok (.invokestatic 116, 3) := by decide +kernel
theorem dX11_refusesPut_11 : decode cX11_refusesPut 11 = .ok (.ifCond .ne 5, 3) := by decide +kernel
theorem dX11_refusesPut_14 : decode cX11_refusesPut 14 = .ok (.iconst 1, 1) := by decide +kernel
theorem dX11_refusesPut_15 : decode cX11_refusesPut 15 = .ok (.ireturn, 1) := by decide +kernel
theorem dX11_refusesPut_16 : decode cX11_refusesPut 16 = .ok (.aload_n 0, 1) := by decide +kernel
theorem dX11_refusesPut_17 : decode cX11_refusesPut 17 = .ok (.iload_n 1, 1) := by decide +kernel
theorem dX11_refusesPut_18 : decode cX11_refusesPut 18 = .ok (.iload_n 2, 1) := by decide +kernel
theorem dX11_refusesPut_19 : decode cX11_refusesPut 19 = .ok (.invokevirtual 59, 3) := by decide +kernel
theorem dX11_refusesPut_22 : decode cX11_refusesPut 22 = .ok (.iconst (-1), 1) := by decide +kernel
theorem dX11_refusesPut_23 : decode cX11_refusesPut 23 = .ok (.if_icmp .eq 5, 3) := by decide +kernel
theorem dX11_refusesPut_26 : decode cX11_refusesPut 26 = .ok (.iconst 2, 1) := by decide +kernel
theorem dX11_refusesPut_27 : decode cX11_refusesPut 27 = .ok (.ireturn, 1) := by decide +kernel
theorem dX11_refusesPut_28 : decode cX11_refusesPut 28 = .ok (.aload_n 0, 1) := by decide +kernel
theorem dX11_refusesPut_29 : decode cX11_refusesPut 29 = .ok (.iload_n 1, 1) := by decide +kernel
theorem dX11_refusesPut_30 : decode cX11_refusesPut 30 = .ok (.invokevirtual 44, 3) := by decide +kernel
theorem dX11_refusesPut_33 : decode cX11_refusesPut 33 = .ok (.bipush 60, 2) := by decide +kernel
theorem dX11_refusesPut_35 : decode cX11_refusesPut 35 = .ok (.if_icmp .eq 13, 3) := by decide +kernel
theorem dX11_refusesPut_38 : decode cX11_refusesPut 38 = .ok (.aload_n 0, 1) := by decide +kernel
theorem dX11_refusesPut_39 : decode cX11_refusesPut 39 = .ok (.invokevirtual 119, 3) := by decide +kernel
theorem dX11_refusesPut_42 : decode cX11_refusesPut 42 = .ok (.sipush 240, 3) := by decide +kernel
theorem dX11_refusesPut_45 : decode cX11_refusesPut 45 = .ok (.if_icmp .ne 7, 3) := by decide +kernel
theorem dX11_refusesPut_48 : decode cX11_refusesPut 48 = .ok (.iconst 4, 1) := by decide +kernel
theorem dX11_refusesPut_49 : decode cX11_refusesPut 49 = .ok (.goto 4, 3) := by decide +kernel
theorem dX11_refusesPut_52 : decode cX11_refusesPut 52 = .ok (.iconst 0, 1) := by decide +kernel
theorem dX11_refusesPut_53 : decode cX11_refusesPut 53 = .ok (.ireturn, 1) := by decide +kernel
theorem dX11_refusesCut_0 : decode cX11_refusesCut 0 = .ok (.aload_n 0, 1) := by decide +kernel
theorem dX11_refusesCut_1 : decode cX11_refusesCut 1 = .ok (.iload_n 1, 1) := by decide +kernel
theorem dX11_refusesCut_2 : decode cX11_refusesCut 2 = .ok (.iload_n 3, 1) := by decide +kernel
theorem dX11_refusesCut_3 : decode cX11_refusesCut 3 = .ok (.invokevirtual 123, 3) := by decide +kernel
theorem dX11_refusesCut_6 : decode cX11_refusesCut 6 = .ok (.ifCond .eq 10, 3) := by decide +kernel
theorem dX11_refusesCut_9 : decode cX11_refusesCut 9 = .ok (.iload_n 2, 1) := by decide +kernel
theorem dX11_refusesCut_10 : decode cX11_refusesCut 10 = .ok (.invokestatic 116, 3) := by decide +kernel
theorem dX11_refusesCut_13 : decode cX11_refusesCut 13 = .ok (.ifCond .ne 5, 3) := by decide +kernel
theorem dX11_refusesCut_16 : decode cX11_refusesCut 16 = .ok (.iconst 1, 1) := by decide +kernel
theorem dX11_refusesCut_17 : decode cX11_refusesCut 17 = .ok (.ireturn, 1) := by decide +kernel
theorem dX11_refusesCut_18 : decode cX11_refusesCut 18 = .ok (.aload_n 0, 1) := by decide +kernel
theorem dX11_refusesCut_19 : decode cX11_refusesCut 19 = .ok (.iload_n 1, 1) := by decide +kernel
theorem dX11_refusesCut_20 : decode cX11_refusesCut 20 = .ok (.iload_n 2, 1) := by decide +kernel
theorem dX11_refusesCut_21 : decode cX11_refusesCut 21 = .ok (.iconst 1, 1) := by decide +kernel
theorem dX11_refusesCut_22 : decode cX11_refusesCut 22 = .ok (.iadd, 1) := by decide +kernel
theorem dX11_refusesCut_23 : decode cX11_refusesCut 23 = .ok (.sipush 9999, 3) := by decide +kernel
theorem dX11_refusesCut_26 : decode cX11_refusesCut 26 = .ok (.invokevirtual 127, 3) := by decide +kernel
theorem dX11_refusesCut_29 : decode cX11_refusesCut 29 = .ok (.ifCond .ne 5, 3) := by decide +kernel
theorem dX11_refusesCut_32 : decode cX11_refusesCut 32 = .ok (.iconst 2, 1) := by decide +kernel
theorem dX11_refusesCut_33 : decode cX11_refusesCut 33 = .ok (.ireturn, 1) := by decide +kernel
theorem dX11_refusesCut_34 : decode cX11_refusesCut 34 = .ok (.aload_n 0, 1) := by decide +kernel
theorem dX11_refusesCut_35 : decode cX11_refusesCut 35 = .ok (.iload_n 3, 1) := by decide +kernel
theorem dX11_refusesCut_36 : decode cX11_refusesCut 36 = .ok (.invokevirtual 44, 3) := by decide +kernel
theorem dX11_refusesCut_39 : decode cX11_refusesCut 39 = .ok (.ifCond .le 7, 3) := by decide +kernel
theorem dX11_refusesCut_42 : decode cX11_refusesCut 42 = .ok (.iconst 3, 1) := by decide +kernel
theorem dX11_refusesCut_43 : decode cX11_refusesCut 43 = .ok (.goto 4, 3) := by decide +kernel
theorem dX11_refusesCut_46 : decode cX11_refusesCut 46 = .ok (.iconst 0, 1) := by decide +kernel
theorem dX11_refusesCut_47 : decode cX11_refusesCut 47 = .ok (.ireturn, 1) := by decide +kernel
theorem dX11_refusesJoin_0 : decode cX11_refusesJoin 0 = .ok (.aload_n 0, 1) := by decide +kernel
theorem dX11_refusesJoin_1 : decode cX11_refusesJoin 1 = .ok (.iload_n 1, 1) := by decide +kernel
theorem dX11_refusesJoin_2 : decode cX11_refusesJoin 2 = .ok (.iload_n 2, 1) := by decide +kernel
theorem dX11_refusesJoin_3 : decode cX11_refusesJoin 3 = .ok (.invokevirtual 123, 3) := by decide +kernel
theorem dX11_refusesJoin_6 : decode cX11_refusesJoin 6 = .ok (.ifCond .ne 5, 3) := by decide +kernel
theorem dX11_refusesJoin_9 : decode cX11_refusesJoin 9 = .ok (.iconst 1, 1) := by decide +kernel
theorem dX11_refusesJoin_10 : decode cX11_refusesJoin 10 = .ok (.ireturn, 1) := by decide +kernel
theorem dX11_refusesJoin_11 : decode cX11_refusesJoin 11 = .ok (.aload_n 0, 1) := by decide +kernel
theorem dX11_refusesJoin_12 : decode cX11_refusesJoin 12 = .ok (.iload_n 2, 1) := by decide +kernel
theorem dX11_refusesJoin_13 : decode cX11_refusesJoin 13 = .ok (.invokevirtual 44, 3) := by decide +kernel
theorem dX11_refusesJoin_16 : decode cX11_refusesJoin 16 = .ok (.ifCond .ne 5, 3) := by decide +kernel
theorem dX11_refusesJoin_19 : decode cX11_refusesJoin 19 = .ok (.iconst 2, 1) := by decide +kernel
theorem dX11_refusesJoin_20 : decode cX11_refusesJoin 20 = .ok (.ireturn, 1) := by decide +kernel
theorem dX11_refusesJoin_21 : decode cX11_refusesJoin 21 = .ok (.aload_n 0, 1) := by decide +kernel
theorem dX11_refusesJoin_22 : decode cX11_refusesJoin 22 = .ok (.iload_n 1, 1) := by decide +kernel
theorem dX11_refusesJoin_23 : decode cX11_refusesJoin 23 = .ok (.invokevirtual 44, 3) := by decide +kernel
theorem dX11_refusesJoin_26 : decode cX11_refusesJoin 26 = .ok (.ifCond .le 26, 3) := by decide +kernel
theorem dX11_refusesJoin_29 : decode cX11_refusesJoin 29 = .ok (.aload_n 0, 1) := by decide +kernel
theorem dX11_refusesJoin_30 : decode cX11_refusesJoin 30 = .ok (.iload_n 1, 1) := by decide +kernel
theorem dX11_refusesJoin_31 : decode cX11_refusesJoin 31 = .ok (.aload_n 0, 1) := by decide +kernel
theorem dX11_refusesJoin_32 : decode cX11_refusesJoin 32 = .ok (.iload_n 1, 1) := by decide +kernel
theorem dX11_refusesJoin_33 : decode cX11_refusesJoin 33 = .ok (.invokevirtual 44, 3) := by decide +kernel
theorem dX11_refusesJoin_36 : decode cX11_refusesJoin 36 = .ok (.iconst 1, 1) := by decide +kernel
theorem dX11_refusesJoin_37 : decode cX11_refusesJoin 37 = .ok (.isub, 1) := by decide +kernel
theorem dX11_refusesJoin_38 : decode cX11_refusesJoin 38 = .ok (.invokevirtual 48, 3) := by decide +kernel
theorem dX11_refusesJoin_41 : decode cX11_refusesJoin 41 = .ok (.aload_n 0, 1) := by decide +kernel
theorem dX11_refusesJoin_42 : decode cX11_refusesJoin 42 = .ok (.iload_n 2, 1) := by decide +kernel
theorem dX11_refusesJoin_43 : decode cX11_refusesJoin 43 = .ok (.iconst 0, 1) := by decide +kernel
theorem dX11_refusesJoin_44 : decode cX11_refusesJoin 44 = .ok (.invokevirtual 48, 3) := by decide +kernel
theorem dX11_refusesJoin_47 : decode cX11_refusesJoin 47 = .ok (.if_icmp .lt 5, 3) := by decide +kernel
theorem dX11_refusesJoin_50 : decode cX11_refusesJoin 50 = .ok (.iconst 3, 1) := by decide +kernel
theorem dX11_refusesJoin_51 : decode cX11_refusesJoin 51 = .ok (.ireturn, 1) := by decide +kernel
theorem dX11_refusesJoin_52 : decode cX11_refusesJoin 52 = .ok (.aload_n 0, 1) := by decide +kernel
theorem dX11_refusesJoin_53 : decode cX11_refusesJoin 53 = .ok (.iload_n 1, 1) := by decide +kernel
theorem dX11_refusesJoin_54 : decode cX11_refusesJoin 54 = .ok (.invokevirtual 44, 3) := by decide +kernel
theorem dX11_refusesJoin_57 : decode cX11_refusesJoin 57 = .ok (.aload_n 0, 1) := by decide +kernel
theorem dX11_refusesJoin_58 : decode cX11_refusesJoin 58 = .ok (.iload_n 2, 1) := by decide +kernel
theorem dX11_refusesJoin_59 : decode cX11_refusesJoin 59 = .ok (.invokevirtual 44, 3) := by decide +kernel
theorem dX11_refusesJoin_62 : decode cX11_refusesJoin 62 = .ok (.iadd, 1) := by decide +kernel
theorem dX11_refusesJoin_63 : decode cX11_refusesJoin 63 = .ok (.bipush 60, 2) := by decide +kernel
theorem dX11_refusesJoin_65 : decode cX11_refusesJoin 65 = .ok (.if_icmp .le 7, 3) := by decide +kernel
theorem dX11_refusesJoin_68 : decode cX11_refusesJoin 68 = .ok (.iconst 4, 1) := by decide +kernel
theorem dX11_refusesJoin_69 : decode cX11_refusesJoin 69 = .ok (.goto 4, 3) := by decide +kernel
theorem dX11_refusesJoin_72 : decode cX11_refusesJoin 72 = .ok (.iconst 0, 1) := by decide +kernel
theorem dX11_refusesJoin_73 : decode cX11_refusesJoin 73 = .ok (.ireturn, 1) := by decide +kernel
theorem dX11_refusesMelt_0 : decode cX11_refusesMelt 0 = .ok (.aload_n 0, 1) := by decide +kernel
theorem dX11_refusesMelt_1 : decode cX11_refusesMelt 1 = .ok (.iload_n 1, 1) := by decide +kernel
theorem dX11_refusesMelt_2 : decode cX11_refusesMelt 2 = .ok (.iload_n 2, 1) := by decide +kernel
theorem dX11_refusesMelt_3 : decode cX11_refusesMelt 3 = .ok (.invokevirtual 123, 3) := by decide +kernel
theorem dX11_refusesMelt_6 : decode cX11_refusesMelt 6 = .ok (.ifCond .ne 5, 3) := by decide +kernel
theorem dX11_refusesMelt_9 : decode cX11_refusesMelt 9 = .ok (.iconst 1, 1) := by decide +kernel
theorem dX11_refusesMelt_10 : decode cX11_refusesMelt 10 = .ok (.ireturn, 1) := by decide +kernel
theorem dX11_refusesMelt_11 : decode cX11_refusesMelt 11 = .ok (.aload_n 0, 1) := by decide +kernel
theorem dX11_refusesMelt_12 : decode cX11_refusesMelt 12 = .ok (.iload_n 2, 1) := by decide +kernel
theorem dX11_refusesMelt_13 : decode cX11_refusesMelt 13 = .ok (.invokevirtual 44, 3) := by decide +kernel
theorem dX11_refusesMelt_16 : decode cX11_refusesMelt 16 = .ok (.ifCond .ne 5, 3) := by decide +kernel
theorem dX11_refusesMelt_19 : decode cX11_refusesMelt 19 = .ok (.iconst 2, 1) := by decide +kernel
theorem dX11_refusesMelt_20 : decode cX11_refusesMelt 20 = .ok (.ireturn, 1) := by decide +kernel
theorem dX11_refusesMelt_21 : decode cX11_refusesMelt 21 = .ok (.aload_n 0, 1) := by decide +kernel
theorem dX11_refusesMelt_22 : decode cX11_refusesMelt 22 = .ok (.iload_n 1, 1) := by decide +kernel
theorem dX11_refusesMelt_23 : decode cX11_refusesMelt 23 = .ok (.invokevirtual 44, 3) := by decide +kernel
theorem dX11_refusesMelt_26 : decode cX11_refusesMelt 26 = .ok (.aload_n 0, 1) := by decide +kernel
theorem dX11_refusesMelt_27 : decode cX11_refusesMelt 27 = .ok (.iload_n 2, 1) := by decide +kernel
theorem dX11_refusesMelt_28 : decode cX11_refusesMelt 28 = .ok (.invokevirtual 44, 3) := by decide +kernel
theorem dX11_refusesMelt_31 : decode cX11_refusesMelt 31 = .ok (.iadd, 1) := by decide +kernel
theorem dX11_refusesMelt_32 : decode cX11_refusesMelt 32 = .ok (.aload_n 0, 1) := by decide +kernel
theorem dX11_refusesMelt_33 : decode cX11_refusesMelt 33 = .ok (.iload_n 1, 1) := by decide +kernel
theorem dX11_refusesMelt_34 : decode cX11_refusesMelt 34 = .ok (.iload_n 2, 1) := by decide +kernel
theorem dX11_refusesMelt_35 : decode cX11_refusesMelt 35 = .ok (.invokevirtual 131, 3) := by decide +kernel
theorem dX11_refusesMelt_38 : decode cX11_refusesMelt 38 = .ok (.isub, 1) := by decide +kernel
theorem dX11_refusesMelt_39 : decode cX11_refusesMelt 39 = .ok (.bipush 60, 2) := by decide +kernel
theorem dX11_refusesMelt_41 : decode cX11_refusesMelt 41 = .ok (.if_icmp .le 7, 3) := by decide +kernel
theorem dX11_refusesMelt_44 : decode cX11_refusesMelt 44 = .ok (.iconst 4, 1) := by decide +kernel
theorem dX11_refusesMelt_45 : decode cX11_refusesMelt 45 = .ok (.goto 4, 3) := by decide +kernel
theorem dX11_refusesMelt_48 : decode cX11_refusesMelt 48 = .ok (.iconst 0, 1) := by decide +kernel
theorem dX11_refusesMelt_49 : decode cX11_refusesMelt 49 = .ok (.ireturn, 1) := by decide +kernel
theorem dX11_refusesShift_0 : decode cX11_refusesShift 0 = .ok (.iload_n 1, 1) := by decide +kernel
theorem dX11_refusesShift_1 : decode cX11_refusesShift 1 = .ok (.invokestatic 112, 3) := by decide +kernel
theorem dX11_refusesShift_4 : decode cX11_refusesShift 4 = .ok (.ifCond .eq 16, 3) := by decide +kernel
theorem dX11_refusesShift_7 : decode cX11_refusesShift 7 = .ok (.iload_n 2, 1) := by decide +kernel
theorem dX11_refusesShift_8 : decode cX11_refusesShift 8 = .ok (.sipush (-9999), 3) := by decide +kernel
theorem dX11_refusesShift_11 : decode cX11_refusesShift 11 = .ok (.sipush 9999, 3) := by decide +kernel
theorem dX11_refusesShift_14 : decode cX11_refusesShift 14 = .ok (.invokestatic 37, 3) := by decide +kernel
theorem dX11_refusesShift_17 : decode cX11_refusesShift 17 = .ok (.ifCond .ne 5, 3) := by decide +kernel
theorem dX11_refusesShift_20 : decode cX11_refusesShift 20 = .ok (.iconst 1, 1) := by decide +kernel
theorem dX11_refusesShift_21 : decode cX11_refusesShift 21 = .ok (.ireturn, 1) := by decide +kernel
theorem dX11_refusesShift_22 : decode cX11_refusesShift 22 = .ok (.iload_n 2, 1) := by decide +kernel
theorem dX11_refusesShift_23 : decode cX11_refusesShift 23 = .ok (.ifCond .eq 11, 3) := by decide +kernel
theorem dX11_refusesShift_26 : decode cX11_refusesShift 26 = .ok (.aload_n 0, 1) := by decide +kernel
theorem dX11_refusesShift_27 : decode cX11_refusesShift 27 = .ok (.iload_n 1, 1) := by decide +kernel
theorem dX11_refusesShift_28 : decode cX11_refusesShift 28 = .ok (.invokevirtual 44, 3) := by decide +kernel
theorem dX11_refusesShift_31 : decode cX11_refusesShift 31 = .ok (.ifCond .ne 5, 3) := by decide +kernel
theorem dX11_refusesShift_34 : decode cX11_refusesShift 34 = .ok (.iconst 2, 1) := by decide +kernel
theorem dX11_refusesShift_35 : decode cX11_refusesShift 35 = .ok (.ireturn, 1) := by decide +kernel
theorem dX11_refusesShift_36 : decode cX11_refusesShift 36 = .ok (.aload_n 0, 1) := by decide +kernel
theorem dX11_refusesShift_37 : decode cX11_refusesShift 37 = .ok (.iload_n 1, 1) := by decide +kernel
theorem dX11_refusesShift_38 : decode cX11_refusesShift 38 = .ok (.iconst 0, 1) := by decide +kernel
theorem dX11_refusesShift_39 : decode cX11_refusesShift 39 = .ok (.invokevirtual 48, 3) := by decide +kernel
theorem dX11_refusesShift_42 : decode cX11_refusesShift 42 = .ok (.iload_n 2, 1) := by decide +kernel
theorem dX11_refusesShift_43 : decode cX11_refusesShift 43 = .ok (.iadd, 1) := by decide +kernel
theorem dX11_refusesShift_44 : decode cX11_refusesShift 44 = .ok (.invokestatic 116, 3) := by decide +kernel
theorem dX11_refusesShift_47 : decode cX11_refusesShift 47 = .ok (.ifCond .eq 27, 3) := by decide +kernel
theorem dX11_refusesShift_50 : decode cX11_refusesShift 50 = .ok (.aload_n 0, 1) := by decide +kernel
theorem dX11_refusesShift_51 : decode cX11_refusesShift 51 = .ok (.iload_n 1, 1) := by decide +kernel
theorem dX11_refusesShift_52 : decode cX11_refusesShift 52 = .ok (.aload_n 0, 1) := by decide +kernel
theorem dX11_refusesShift_53 : decode cX11_refusesShift 53 = .ok (.iload_n 1, 1) := by decide +kernel
theorem dX11_refusesShift_54 : decode cX11_refusesShift 54 = .ok (.invokevirtual 44, 3) := by decide +kernel
theorem dX11_refusesShift_57 : decode cX11_refusesShift 57 = .ok (.iconst 1, 1) := by decide +kernel
theorem dX11_refusesShift_58 : decode cX11_refusesShift 58 = .ok (.isub, 1) := by decide +kernel
theorem dX11_refusesShift_59 : decode cX11_refusesShift 59 = .ok (.invokevirtual 48, 3) := by decide +kernel
theorem dX11_refusesShift_62 : decode cX11_refusesShift 62 = .ok (.iload_n 2, 1) := by decide +kernel
theorem dX11_refusesShift_63 : decode cX11_refusesShift 63 = .ok (.iadd, 1) := by decide +kernel
theorem dX11_refusesShift_64 : decode cX11_refusesShift 64 = .ok (.invokestatic 116, 3) := by decide +kernel
theorem dX11_refusesShift_67 : decode cX11_refusesShift 67 = .ok (.ifCond .eq 7, 3) := by decide +kernel
theorem dX11_refusesShift_70 : decode cX11_refusesShift 70 = .ok (.iconst 0, 1) := by decide +kernel
theorem dX11_refusesShift_71 : decode cX11_refusesShift 71 = .ok (.goto 4, 3) := by decide +kernel
theorem dX11_refusesShift_74 : decode cX11_refusesShift 74 = .ok (.iconst 3, 1) := by decide +kernel
theorem dX11_refusesShift_75 : decode cX11_refusesShift 75 = .ok (.ireturn, 1) := by decide +kernel
theorem dX11_refusesMove_0 : decode cX11_refusesMove 0 = .ok (.aload_n 0, 1) := by decide +kernel
theorem dX11_refusesMove_1 : decode cX11_refusesMove 1 = .ok (.iload_n 1, 1) := by decide +kernel
theorem dX11_refusesMove_2 : decode cX11_refusesMove 2 = .ok (.iload 4, 2) := by decide +kernel
theorem dX11_refusesMove_4 : decode cX11_refusesMove 4 = .ok (.invokevirtual 123, 3) := by decide +kernel
theorem dX11_refusesMove_7 : decode cX11_refusesMove 7 = .ok (.ifCond .eq 17, 3) := by decide +kernel
theorem dX11_refusesMove_10 : decode cX11_refusesMove 10 = .ok (.iload_n 2, 1) := by decide +kernel
theorem dX11_refusesMove_11 : decode cX11_refusesMove 11 = .ok (.invokestatic 116, 3) := by decide +kernel
theorem dX11_refusesMove_14 : decode cX11_refusesMove 14 = .ok (.ifCond .eq 10, 3) := by decide +kernel
theorem dX11_refusesMove_17 : decode cX11_refusesMove 17 = .ok (.iload_n 3, 1) := by decide +kernel
theorem dX11_refusesMove_18 : decode cX11_refusesMove 18 = .ok (.invokestatic 116, 3) := by decide +kernel
theorem dX11_refusesMove_21 : decode cX11_refusesMove 21 = .ok (.ifCond .ne 5, 3) := by decide +kernel
theorem dX11_refusesMove_24 : decode cX11_refusesMove 24 = .ok (.iconst 1, 1) := by decide +kernel
theorem dX11_refusesMove_25 : decode cX11_refusesMove 25 = .ok (.ireturn, 1) := by decide +kernel
theorem dX11_refusesMove_26 : decode cX11_refusesMove 26 = .ok (.aload_n 0, 1) := by decide +kernel
theorem dX11_refusesMove_27 : decode cX11_refusesMove 27 = .ok (.iload_n 1, 1) := by decide +kernel
theorem dX11_refusesMove_28 : decode cX11_refusesMove 28 = .ok (.iload_n 2, 1) := by decide +kernel
theorem dX11_refusesMove_29 : decode cX11_refusesMove 29 = .ok (.iload_n 3, 1) := by decide +kernel
theorem dX11_refusesMove_30 : decode cX11_refusesMove 30 = .ok (.invokevirtual 127, 3) := by decide +kernel
theorem dX11_refusesMove_33 : decode cX11_refusesMove 33 = .ok (.istore 5, 2) := by decide +kernel
theorem dX11_refusesMove_35 : decode cX11_refusesMove 35 = .ok (.iload 5, 2) := by decide +kernel
theorem dX11_refusesMove_37 : decode cX11_refusesMove 37 = .ok (.ifCond .ne 5, 3) := by decide +kernel
theorem dX11_refusesMove_40 : decode cX11_refusesMove 40 = .ok (.iconst 2, 1) := by decide +kernel
theorem dX11_refusesMove_41 : decode cX11_refusesMove 41 = .ok (.ireturn, 1) := by decide +kernel
theorem dX11_refusesMove_42 : decode cX11_refusesMove 42 = .ok (.aload_n 0, 1) := by decide +kernel
theorem dX11_refusesMove_43 : decode cX11_refusesMove 43 = .ok (.iload_n 1, 1) := by decide +kernel
theorem dX11_refusesMove_44 : decode cX11_refusesMove 44 = .ok (.iload_n 2, 1) := by decide +kernel
theorem dX11_refusesMove_45 : decode cX11_refusesMove 45 = .ok (.invokevirtual 52, 3) := by decide +kernel
theorem dX11_refusesMove_48 : decode cX11_refusesMove 48 = .ok (.istore 6, 2) := by decide +kernel
theorem dX11_refusesMove_50 : decode cX11_refusesMove 50 = .ok (.aload_n 0, 1) := by decide +kernel
theorem dX11_refusesMove_51 : decode cX11_refusesMove 51 = .ok (.iload 4, 2) := by decide +kernel
theorem dX11_refusesMove_53 : decode cX11_refusesMove 53 = .ok (.aload_n 0, 1) := by decide +kernel
theorem dX11_refusesMove_54 : decode cX11_refusesMove 54 = .ok (.iload_n 1, 1) := by decide +kernel
theorem dX11_refusesMove_55 : decode cX11_refusesMove 55 = .ok (.iload 6, 2) := by decide +kernel
theorem dX11_refusesMove_57 : decode cX11_refusesMove 57 = .ok (.invokevirtual 48, 3) := by decide +kernel
theorem dX11_refusesMove_60 : decode cX11_refusesMove 60 = .ok (.aload_n 0, 1) := by decide +kernel
theorem dX11_refusesMove_61 : decode cX11_refusesMove 61 = .ok (.iload_n 1, 1) := by decide +kernel
theorem dX11_refusesMove_62 : decode cX11_refusesMove 62 = .ok (.iload 6, 2) := by decide +kernel
theorem dX11_refusesMove_64 : decode cX11_refusesMove 64 = .ok (.iload 5, 2) := by decide +kernel
theorem dX11_refusesMove_66 : decode cX11_refusesMove 66 = .ok (.iadd, 1) := by decide +kernel
theorem dX11_refusesMove_67 : decode cX11_refusesMove 67 = .ok (.iconst 1, 1) := by decide +kernel
theorem dX11_refusesMove_68 : decode cX11_refusesMove 68 = .ok (.isub, 1) := by decide +kernel
theorem dX11_refusesMove_69 : decode cX11_refusesMove 69 = .ok (.invokevirtual 48, 3) := by decide +kernel
theorem dX11_refusesMove_72 : decode cX11_refusesMove 72 = .ok (.invokevirtual 127, 3) := by decide +kernel
theorem dX11_refusesMove_75 : decode cX11_refusesMove 75 = .ok (.ifCond .le 5, 3) := by decide +kernel
theorem dX11_refusesMove_78 : decode cX11_refusesMove 78 = .ok (.iconst 3, 1) := by decide +kernel
theorem dX11_refusesMove_79 : decode cX11_refusesMove 79 = .ok (.ireturn, 1) := by decide +kernel
theorem dX11_refusesMove_80 : decode cX11_refusesMove 80 = .ok (.aload_n 0, 1) := by decide +kernel
theorem dX11_refusesMove_81 : decode cX11_refusesMove 81 = .ok (.iload 4, 2) := by decide +kernel
theorem dX11_refusesMove_83 : decode cX11_refusesMove 83 = .ok (.invokevirtual 44, 3) := by decide +kernel
theorem dX11_refusesMove_86 : decode cX11_refusesMove 86 = .ok (.iload 5, 2) := by decide +kernel
theorem dX11_refusesMove_88 : decode cX11_refusesMove 88 = .ok (.iadd, 1) := by decide +kernel
theorem dX11_refusesMove_89 : decode cX11_refusesMove 89 = .ok (.bipush 60, 2) := by decide +kernel
theorem dX11_refusesMove_91 : decode cX11_refusesMove 91 = .ok (.if_icmp .le 7, 3) := by decide +kernel
theorem dX11_refusesMove_94 : decode cX11_refusesMove 94 = .ok (.iconst 4, 1) := by decide +kernel
theorem dX11_refusesMove_95 : decode cX11_refusesMove 95 = .ok (.goto 4, 3) := by decide +kernel
theorem dX11_refusesMove_98 : decode cX11_refusesMove 98 = .ok (.iconst 0, 1) := by decide +kernel
theorem dX11_refusesMove_99 : decode cX11_refusesMove 99 = .ok (.ireturn, 1) := by decide +kernel
theorem dX11_marked_0 : decode cX11_marked 0 = .ok (.iconst 0, 1) := by decide +kernel
theorem dX11_marked_1 : decode cX11_marked 1 = .ok (.istore 6, 2) := by decide +kernel
theorem dX11_marked_3 : decode cX11_marked 3 = .ok (.iconst 0, 1) := by decide +kernel
theorem dX11_marked_4 : decode cX11_marked 4 = .ok (.istore 7, 2) := by decide +kernel
theorem dX11_marked_6 : decode cX11_marked 6 = .ok (.iload 7, 2) := by decide +kernel
theorem dX11_marked_8 : decode cX11_marked 8 = .ok (.aload_n 0, 1) := by decide +kernel
theorem dX11_marked_9 : decode cX11_marked 9 = .ok (.iload_n 1, 1) := by decide +kernel
theorem dX11_marked_10 : decode cX11_marked 10 = .ok (.invokevirtual 44, 3) := by decide +kernel
theorem dX11_marked_13 : decode cX11_marked 13 = .ok (.if_icmp .ge 69, 3) := by decide +kernel
theorem dX11_marked_16 : decode cX11_marked 16 = .ok (.aload_n 0, 1) := by decide +kernel
theorem dX11_marked_17 : decode cX11_marked 17 = .ok (.iload_n 1, 1) := by decide +kernel
theorem dX11_marked_18 : decode cX11_marked 18 = .ok (.iload 7, 2) := by decide +kernel
theorem dX11_marked_20 : decode cX11_marked 20 = .ok (.invokevirtual 48, 3) := by decide +kernel
theorem dX11_marked_23 : decode cX11_marked 23 = .ok (.iload_n 2, 1) := by decide +kernel
theorem dX11_marked_24 : decode cX11_marked 24 = .ok (.iload_n 3, 1) := by decide +kernel
theorem dX11_marked_25 : decode cX11_marked 25 = .ok (.invokestatic 37, 3) := by decide +kernel
theorem dX11_marked_28 : decode cX11_marked 28 = .ok (.ifCond .eq 48, 3) := by decide +kernel
theorem dX11_marked_31 : decode cX11_marked 31 = .ok (.aload_n 0, 1) := by decide +kernel
theorem dX11_marked_32 : decode cX11_marked 32 = .ok (.iload_n 1, 1) := by decide +kernel
theorem dX11_marked_33 : decode cX11_marked 33 = .ok (.iload 7, 2) := by decide +kernel
theorem dX11_marked_35 : decode cX11_marked 35 = .ok (.invokevirtual 134, 3) := by decide +kernel
theorem dX11_marked_38 : decode cX11_marked 38 = .ok (.iload 4, 2) := by decide +kernel
theorem dX11_marked_40 : decode cX11_marked 40 = .ok (.if_icmp .ne 6, 3) := by decide +kernel
theorem dX11_marked_43 : decode cX11_marked 43 = .ok (.goto 33, 3) := by decide +kernel
theorem dX11_marked_46 : decode cX11_marked 46 = .ok (.iinc 6 1, 3) := by decide +kernel
theorem dX11_marked_49 : decode cX11_marked 49 = .ok (.iload 5, 2) := by decide +kernel
theorem dX11_marked_51 : decode cX11_marked 51 = .ok (.ifCond .eq 25, 3) := by decide +kernel
theorem dX11_marked_54 : decode cX11_marked 54 = .ok (.aload_n 0, 1) := by decide +kernel
theorem dX11_marked_55 : decode cX11_marked 55 = .ok (.getfield 7, 3) := by decide +kernel
theorem dX11_marked_58 : decode cX11_marked 58 = .ok (.aload_n 0, 1) := by decide +kernel
theorem dX11_marked_59 : decode cX11_marked 59 = .ok (.getfield 41, 3) := by decide +kernel
theorem dX11_marked_62 : decode cX11_marked 62 = .ok (.bipush 122, 2) := by decide +kernel
theorem dX11_marked_64 : decode cX11_marked 64 = .ok (.iload_n 1, 1) := by decide +kernel
theorem dX11_marked_65 : decode cX11_marked 65 = .ok (.imul, 1) := by decide +kernel
theorem dX11_marked_66 : decode cX11_marked 66 = .ok (.iadd, 1) := by decide +kernel
theorem dX11_marked_67 : decode cX11_marked 67 = .ok (.bipush 62, 2) := by decide +kernel
theorem dX11_marked_69 : decode cX11_marked 69 = .ok (.iadd, 1) := by decide +kernel
theorem dX11_marked_70 : decode cX11_marked 70 = .ok (.iload 7, 2) := by decide +kernel
theorem dX11_marked_72 : decode cX11_marked 72 = .ok (.iadd, 1) := by decide +kernel
theorem dX11_marked_73 : decode cX11_marked 73 = .ok (.iload 4, 2) := by decide +kernel
theorem dX11_marked_75 : decode cX11_marked 75 = .ok (.iastore, 1) := by decide +kernel
theorem dX11_marked_76 : decode cX11_marked 76 = .ok (.iinc 7 1, 3) := by decide +kernel
theorem dX11_marked_79 : decode cX11_marked 79 = .ok (.goto (-73), 3) := by decide +kernel
theorem dX11_marked_82 : decode cX11_marked 82 = .ok (.iload 6, 2) := by decide +kernel
theorem dX11_marked_84 : decode cX11_marked 84 = .ok (.ireturn, 1) := by decide +kernel
theorem dX11_refusesMark_0 : decode cX11_refusesMark 0 = .ok (.iload_n 1, 1) := by decide +kernel
theorem dX11_refusesMark_1 : decode cX11_refusesMark 1 = .ok (.invokestatic 112, 3) := by decide +kernel
theorem dX11_refusesMark_4 : decode cX11_refusesMark 4 = .ok (.ifCond .eq 17, 3) := by decide +kernel
theorem dX11_refusesMark_7 : decode cX11_refusesMark 7 = .ok (.iload_n 2, 1) := by decide +kernel
theorem dX11_refusesMark_8 : decode cX11_refusesMark 8 = .ok (.invokestatic 116, 3) := by decide +kernel
theorem dX11_refusesMark_11 : decode cX11_refusesMark 11 = .ok (.ifCond .eq 10, 3) := by decide +kernel
theorem dX11_refusesMark_14 : decode cX11_refusesMark 14 = .ok (.iload_n 3, 1) := by decide +kernel
theorem dX11_refusesMark_15 : decode cX11_refusesMark 15 = .ok (.invokestatic 116, 3) := by decide +kernel
theorem dX11_refusesMark_18 : decode cX11_refusesMark 18 = .ok (.ifCond .ne 5, 3) := by decide +kernel
theorem dX11_refusesMark_21 : decode cX11_refusesMark 21 = .ok (.iconst 1, 1) := by decide +kernel
theorem dX11_refusesMark_22 : decode cX11_refusesMark 22 = .ok (.ireturn, 1) := by decide +kernel
theorem dX11_refusesMark_23 : decode cX11_refusesMark 23 = .ok (.aload_n 0, 1) := by decide +kernel
theorem dX11_refusesMark_24 : decode cX11_refusesMark 24 = .ok (.iload_n 1, 1) := by decide +kernel
theorem dX11_refusesMark_25 : decode cX11_refusesMark 25 = .ok (.iload_n 2, 1) := by decide +kernel
theorem dX11_refusesMark_26 : decode cX11_refusesMark 26 = .ok (.iload_n 3, 1) := by decide +kernel
theorem dX11_refusesMark_27 : decode cX11_refusesMark 27 = .ok (.iload 4, 2) := by decide +kernel
theorem dX11_refusesMark_29 : decode cX11_refusesMark 29 = .ok (.iconst 0, 1) := by decide +kernel
theorem dX11_refusesMark_30 : decode cX11_refusesMark 30 = .ok (.invokevirtual 137, 3) := by decide +kernel
theorem dX11_refusesMark_33 : decode cX11_refusesMark 33 = .ok (.ifCond .ne 7, 3) := by decide +kernel
theorem dX11_refusesMark_36 : decode cX11_refusesMark 36 = .ok (.iconst 2, 1) := by decide +kernel
theorem dX11_refusesMark_37 : decode cX11_refusesMark 37 = .ok (.goto 4, 3) := by decide +kernel
theorem dX11_refusesMark_40 : decode cX11_refusesMark 40 = .ok (.iconst 0, 1) := by decide +kernel
theorem dX11_refusesMark_41 : decode cX11_refusesMark 41 = .ok (.ireturn, 1) := by decide +kernel
theorem dX11_goOver_0 : decode cX11_goOver 0 = .ok (.aload_n 0, 1) := by decide +kernel
theorem dX11_goOver_1 : decode cX11_goOver 1 = .ok (.iload_n 1, 1) := by decide +kernel
theorem dX11_goOver_2 : decode cX11_goOver 2 = .ok (.iload_n 2, 1) := by decide +kernel
theorem dX11_goOver_3 : decode cX11_goOver 3 = .ok (.iload_n 3, 1) := by decide +kernel
theorem dX11_goOver_4 : decode cX11_goOver 4 = .ok (.invokevirtual 127, 3) := by decide +kernel
theorem dX11_goOver_7 : decode cX11_goOver 7 = .ok (.istore 5, 2) := by decide +kernel
theorem dX11_goOver_9 : decode cX11_goOver 9 = .ok (.aload_n 0, 1) := by decide +kernel
theorem dX11_goOver_10 : decode cX11_goOver 10 = .ok (.iload_n 1, 1) := by decide +kernel
theorem dX11_goOver_11 : decode cX11_goOver 11 = .ok (.iload_n 2, 1) := by decide +kernel
theorem dX11_goOver_12 : decode cX11_goOver 12 = .ok (.invokevirtual 52, 3) := by decide +kernel
theorem dX11_goOver_15 : decode cX11_goOver 15 = .ok (.istore 6, 2) := by decide +kernel
theorem dX11_goOver_17 : decode cX11_goOver 17 = .ok (.iconst 0, 1) := by decide +kernel
theorem dX11_goOver_18 : decode cX11_goOver 18 = .ok (.istore 7, 2) := by decide +kernel
theorem dX11_goOver_20 : decode cX11_goOver 20 = .ok (.iload 7, 2) := by decide +kernel
theorem dX11_goOver_22 : decode cX11_goOver 22 = .ok (.iload 5, 2) := by decide +kernel
theorem dX11_goOver_24 : decode cX11_goOver 24 = .ok (.if_icmp .ge 91, 3) := by decide +kernel
theorem dX11_goOver_27 : decode cX11_goOver 27 = .ok (.aload_n 0, 1) := by decide +kernel
theorem dX11_goOver_28 : decode cX11_goOver 28 = .ok (.iload_n 1, 1) := by decide +kernel
theorem dX11_goOver_29 : decode cX11_goOver 29 = .ok (.iload 6, 2) := by decide +kernel
theorem dX11_goOver_31 : decode cX11_goOver 31 = .ok (.invokevirtual 48, 3) := by decide +kernel
theorem dX11_goOver_34 : decode cX11_goOver 34 = .ok (.istore 8, 2) := by decide +kernel
theorem dX11_goOver_36 : decode cX11_goOver 36 = .ok (.aload_n 0, 1) := by decide +kernel
theorem dX11_goOver_37 : decode cX11_goOver 37 = .ok (.iload_n 1, 1) := by decide +kernel
theorem dX11_goOver_38 : decode cX11_goOver 38 = .ok (.iload 6, 2) := by decide +kernel
theorem dX11_goOver_40 : decode cX11_goOver 40 = .ok (.invokevirtual 134, 3) := by decide +kernel
theorem dX11_goOver_43 : decode cX11_goOver 43 = .ok (.istore 9, 2) := by decide +kernel
theorem dX11_goOver_45 : decode cX11_goOver 45 = .ok (.aload_n 0, 1) := by decide +kernel
theorem dX11_goOver_46 : decode cX11_goOver 46 = .ok (.iload_n 1, 1) := by decide +kernel
theorem dX11_goOver_47 : decode cX11_goOver 47 = .ok (.iload 6, 2) := by decide +kernel
theorem dX11_goOver_49 : decode cX11_goOver 49 = .ok (.invokevirtual 141, 3) := by decide +kernel
theorem dX11_goOver_52 : decode cX11_goOver 52 = .ok (.aload_n 0, 1) := by decide +kernel
theorem dX11_goOver_53 : decode cX11_goOver 53 = .ok (.iload 4, 2) := by decide +kernel
theorem dX11_goOver_55 : decode cX11_goOver 55 = .ok (.iload 8, 2) := by decide +kernel
theorem dX11_goOver_57 : decode cX11_goOver 57 = .ok (.invokevirtual 59, 3) := by decide +kernel
theorem dX11_goOver_60 : decode cX11_goOver 60 = .ok (.istore 10, 2) := by decide +kernel
theorem dX11_goOver_62 : decode cX11_goOver 62 = .ok (.iload 10, 2) := by decide +kernel
theorem dX11_goOver_64 : decode cX11_goOver 64 = .ok (.iconst (-1), 1) := by decide +kernel
theorem dX11_goOver_65 : decode cX11_goOver 65 = .ok (.if_icmp .ne 16, 3) := by decide +kernel
theorem dX11_goOver_68 : decode cX11_goOver 68 = .ok (.aload_n 0, 1) := by decide +kernel
theorem dX11_goOver_69 : decode cX11_goOver 69 = .ok (.iload 4, 2) := by decide +kernel
theorem dX11_goOver_71 : decode cX11_goOver 71 = .ok (.iload 8, 2) := by decide +kernel
theorem dX11_goOver_73 : decode cX11_goOver 73 = .ok (.iload 9, 2) := by decide +kernel
theorem dX11_goOver_75 : decode cX11_goOver 75 = .ok (.invokevirtual 144, 3) := by decide +kernel
theorem dX11_goOver_78 : decode cX11_goOver 78 = .ok (.goto 31, 3) := by decide +kernel
theorem dX11_goOver_81 : decode cX11_goOver 81 = .ok (.iload 9, 2) := by decide +kernel
theorem dX11_goOver_83 : decode cX11_goOver 83 = .ok (.iconst 1, 1) := by decide +kernel
theorem dX11_goOver_84 : decode cX11_goOver 84 = .ok (.if_icmp .ne 25, 3) := by decide +kernel
theorem dX11_goOver_87 : decode cX11_goOver 87 = .ok (.aload_n 0, 1) := by decide +kernel
theorem dX11_goOver_88 : decode cX11_goOver 88 = .ok (.getfield 7, 3) := by decide +kernel
theorem dX11_goOver_91 : decode cX11_goOver 91 = .ok (.aload_n 0, 1) := by decide +kernel
theorem dX11_goOver_92 : decode cX11_goOver 92 = .ok (.getfield 41, 3) := by decide +kernel
theorem dX11_goOver_95 : decode cX11_goOver 95 = .ok (.bipush 122, 2) := by decide +kernel
theorem dX11_goOver_97 : decode cX11_goOver 97 = .ok (.iload 4, 2) := by decide +kernel
theorem dX11_goOver_99 : decode cX11_goOver 99 = .ok (.imul, 1) := by decide +kernel
theorem dX11_goOver_100 : decode cX11_goOver 100 = .ok (.iadd, 1) := by decide +kernel
theorem dX11_goOver_101 : decode cX11_goOver 101 = .ok (.bipush 62, 2) := by decide +kernel
theorem dX11_goOver_103 : decode cX11_goOver 103 = .ok (.iadd, 1) := by decide +kernel
theorem dX11_goOver_104 : decode cX11_goOver 104 = .ok (.iload 10, 2) := by decide +kernel
theorem dX11_goOver_106 : decode cX11_goOver 106 = .ok (.iadd, 1) := by decide +kernel
theorem dX11_goOver_107 : decode cX11_goOver 107 = .ok (.iconst 1, 1) := by decide +kernel
theorem dX11_goOver_108 : decode cX11_goOver 108 = .ok (.iastore, 1) := by decide +kernel
theorem dX11_goOver_109 : decode cX11_goOver 109 = .ok (.iinc 7 1, 3) := by decide +kernel
theorem dX11_goOver_112 : decode cX11_goOver 112 = .ok (.goto (-92), 3) := by decide +kernel
theorem dX11_goOver_115 : decode cX11_goOver 115 = .ok (.iload 5, 2) := by decide +kernel
theorem dX11_goOver_117 : decode cX11_goOver 117 = .ok (.ireturn, 1) := by decide +kernel
theorem dX11_shifts_0 : decode cX11_shifts 0 = .ok (.iconst 0, 1) := by decide +kernel
theorem dX11_shifts_1 : decode cX11_shifts 1 = .ok (.istore_n 3, 1) := by decide +kernel
theorem dX11_shifts_2 : decode cX11_shifts 2 = .ok (.iload_n 3, 1) := by decide +kernel
theorem dX11_shifts_3 : decode cX11_shifts 3 = .ok (.aload_n 0, 1) := by decide +kernel
theorem dX11_shifts_4 : decode cX11_shifts 4 = .ok (.iload_n 1, 1) := by decide +kernel
theorem dX11_shifts_5 : decode cX11_shifts 5 = .ok (.invokevirtual 44, 3) := by decide +kernel
theorem dX11_shifts_8 : decode cX11_shifts 8 = .ok (.if_icmp .ge 31, 3) := by decide +kernel
theorem dX11_shifts_11 : decode cX11_shifts 11 = .ok (.aload_n 0, 1) := by decide +kernel
theorem dX11_shifts_12 : decode cX11_shifts 12 = .ok (.getfield 7, 3) := by decide +kernel
theorem dX11_shifts_15 : decode cX11_shifts 15 = .ok (.aload_n 0, 1) := by decide +kernel
theorem dX11_shifts_16 : decode cX11_shifts 16 = .ok (.getfield 41, 3) := by decide +kernel
theorem dX11_shifts_19 : decode cX11_shifts 19 = .ok (.bipush 122, 2) := by decide +kernel
theorem dX11_shifts_21 : decode cX11_shifts 21 = .ok (.iload_n 1, 1) := by decide +kernel
theorem dX11_shifts_22 : decode cX11_shifts 22 = .ok (.imul, 1) := by decide +kernel
theorem dX11_shifts_23 : decode cX11_shifts 23 = .ok (.iadd, 1) := by decide +kernel
theorem dX11_shifts_24 : decode cX11_shifts 24 = .ok (.iconst 2, 1) := by decide +kernel
theorem dX11_shifts_25 : decode cX11_shifts 25 = .ok (.iadd, 1) := by decide +kernel
theorem dX11_shifts_26 : decode cX11_shifts 26 = .ok (.iload_n 3, 1) := by decide +kernel
theorem dX11_shifts_27 : decode cX11_shifts 27 = .ok (.iadd, 1) := by decide +kernel
theorem dX11_shifts_28 : decode cX11_shifts 28 = .ok (.dup2, 1) := by decide +kernel
theorem dX11_shifts_29 : decode cX11_shifts 29 = .ok (.iaload, 1) := by decide +kernel
theorem dX11_shifts_30 : decode cX11_shifts 30 = .ok (.iload_n 2, 1) := by decide +kernel
theorem dX11_shifts_31 : decode cX11_shifts 31 = .ok (.iadd, 1) := by decide +kernel
theorem dX11_shifts_32 : decode cX11_shifts 32 = .ok (.iastore, 1) := by decide +kernel
theorem dX11_shifts_33 : decode cX11_shifts 33 = .ok (.iinc 3 1, 3) := by decide +kernel
theorem dX11_shifts_36 : decode cX11_shifts 36 = .ok (.goto (-34), 3) := by decide +kernel
theorem dX11_shifts_39 : decode cX11_shifts 39 = .ok (.aload_n 0, 1) := by decide +kernel
theorem dX11_shifts_40 : decode cX11_shifts 40 = .ok (.iload_n 1, 1) := by decide +kernel
theorem dX11_shifts_41 : decode cX11_shifts 41 = .ok (.invokevirtual 148, 3) := by decide +kernel
theorem dX11_shifts_44 : decode cX11_shifts 44 = .ok (.iconst (-1), 1) := by decide +kernel
theorem dX11_shifts_45 : decode cX11_shifts 45 = .ok (.if_icmp .eq 15, 3) := by decide +kernel
theorem dX11_shifts_48 : decode cX11_shifts 48 = .ok (.aload_n 0, 1) := by decide +kernel
theorem dX11_shifts_49 : decode cX11_shifts 49 = .ok (.iload_n 1, 1) := by decide +kernel
theorem dX11_shifts_50 : decode cX11_shifts 50 = .ok (.aload_n 0, 1) := by decide +kernel
theorem dX11_shifts_51 : decode cX11_shifts 51 = .ok (.iload_n 1, 1) := by decide +kernel
theorem dX11_shifts_52 : decode cX11_shifts 52 = .ok (.invokevirtual 148, 3) := by decide +kernel
theorem dX11_shifts_55 : decode cX11_shifts 55 = .ok (.iload_n 2, 1) := by decide +kernel
theorem dX11_shifts_56 : decode cX11_shifts 56 = .ok (.iadd, 1) := by decide +kernel
theorem dX11_shifts_57 : decode cX11_shifts 57 = .ok (.invokevirtual 55, 3) := by decide +kernel
theorem dX11_shifts_60 : decode cX11_shifts 60 = .ok (.return_, 1) := by decide +kernel
theorem dX11_keeps_0 : decode cX11_keeps 0 = .ok (.aload_n 0, 1) := by decide +kernel
theorem dX11_keeps_1 : decode cX11_keeps 1 = .ok (.getfield 151, 3) := by decide +kernel
theorem dX11_keeps_4 : decode cX11_keeps 4 = .ok (.bipush 12, 2) := by decide +kernel
theorem dX11_keeps_6 : decode cX11_keeps 6 = .ok (.if_icmp .ne 26, 3) := by decide +kernel
theorem dX11_keeps_9 : decode cX11_keeps 9 = .ok (.aload_n 0, 1) := by decide +kernel
theorem dX11_keeps_10 : decode cX11_keeps 10 = .ok (.sipush 2928, 3) := by decide +kernel
theorem dX11_keeps_13 : decode cX11_keeps 13 = .ok (.sipush 1952, 3) := by decide +kernel
theorem dX11_keeps_16 : decode cX11_keeps 16 = .ok (.sipush 10736, 3) := by decide +kernel
theorem dX11_keeps_19 : decode cX11_keeps 19 = .ok (.invokevirtual 154, 3) := by decide +kernel
theorem dX11_keeps_22 : decode cX11_keeps 22 = .ok (.aload_n 0, 1) := by decide +kernel
theorem dX11_keeps_23 : decode cX11_keeps 23 = .ok (.dup, 1) := by decide +kernel
theorem dX11_keeps_24 : decode cX11_keeps 24 = .ok (.getfield 151, 3) := by decide +kernel
theorem dX11_keeps_27 : decode cX11_keeps 27 = .ok (.iconst 1, 1) := by decide +kernel
theorem dX11_keeps_28 : decode cX11_keeps 28 = .ok (.isub, 1) := by decide +kernel
theorem dX11_keeps_29 : decode cX11_keeps 29 = .ok (.putfield 151, 3) := by decide +kernel
theorem dX11_keeps_32 : decode cX11_keeps 32 = .ok (.aload_n 0, 1) := by decide +kernel
theorem dX11_keeps_33 : decode cX11_keeps 33 = .ok (.iconst 0, 1) := by decide +kernel
theorem dX11_keeps_34 : decode cX11_keeps 34 = .ok (.sipush 1952, 3) := by decide +kernel
theorem dX11_keeps_37 : decode cX11_keeps 37 = .ok (.sipush 976, 3) := by decide +kernel
theorem dX11_keeps_40 : decode cX11_keeps 40 = .ok (.aload_n 0, 1) := by decide +kernel
theorem dX11_keeps_41 : decode cX11_keeps 41 = .ok (.getfield 151, 3) := by decide +kernel
theorem dX11_keeps_44 : decode cX11_keeps 44 = .ok (.imul, 1) := by decide +kernel
theorem dX11_keeps_45 : decode cX11_keeps 45 = .ok (.iadd, 1) := by decide +kernel
theorem dX11_keeps_46 : decode cX11_keeps 46 = .ok (.sipush 976, 3) := by decide +kernel
theorem dX11_keeps_49 : decode cX11_keeps 49 = .ok (.invokevirtual 154, 3) := by decide +kernel
theorem dX11_keeps_52 : decode cX11_keeps 52 = .ok (.aload_n 0, 1) := by decide +kernel
theorem dX11_keeps_53 : decode cX11_keeps 53 = .ok (.dup, 1) := by decide +kernel
theorem dX11_keeps_54 : decode cX11_keeps 54 = .ok (.getfield 151, 3) := by decide +kernel
theorem dX11_keeps_57 : decode cX11_keeps 57 = .ok (.iconst 1, 1) := by decide +kernel
theorem dX11_keeps_58 : decode cX11_keeps 58 = .ok (.iadd, 1) := by decide +kernel
theorem dX11_keeps_59 : decode cX11_keeps 59 = .ok (.putfield 151, 3) := by decide +kernel
theorem dX11_keeps_62 : decode cX11_keeps 62 = .ok (.return_, 1) := by decide +kernel
theorem dX11_begins_0 : decode cX11_begins 0 = .ok (.iload_n 1, 1) := by decide +kernel
theorem dX11_begins_1 : decode cX11_begins 1 = .ok (.ifCond .ne 7, 3) := by decide +kernel
theorem dX11_begins_4 : decode cX11_begins 4 = .ok (.aload_n 0, 1) := by decide +kernel
theorem dX11_begins_5 : decode cX11_begins 5 = .ok (.invokevirtual 157, 3) := by decide +kernel
theorem dX11_begins_8 : decode cX11_begins 8 = .ok (.iload_n 1, 1) := by decide +kernel
theorem dX11_begins_9 : decode cX11_begins 9 = .ok (.ireturn, 1) := by decide +kernel
theorem dX11_put_0 : decode cX11_put 0 = .ok (.aload_n 0, 1) := by decide +kernel
theorem dX11_put_1 : decode cX11_put 1 = .ok (.aload_n 0, 1) := by decide +kernel
theorem dX11_put_2 : decode cX11_put 2 = .ok (.iload_n 1, 1) := by decide +kernel
theorem dX11_put_3 : decode cX11_put 3 = .ok (.iload_n 2, 1) := by decide +kernel
theorem dX11_put_4 : decode cX11_put 4 = .ok (.invokevirtual 160, 3) := by decide +kernel
theorem dX11_put_7 : decode cX11_put 7 = .ok (.invokevirtual 163, 3) := by decide +kernel
theorem dX11_put_10 : decode cX11_put 10 = .ok (.istore_n 3, 1) := by decide +kernel
theorem dX11_put_11 : decode cX11_put 11 = .ok (.iload_n 3, 1) := by decide +kernel
theorem dX11_put_12 : decode cX11_put 12 = .ok (.ifCond .le 6, 3) := by decide +kernel
theorem dX11_put_15 : decode cX11_put 15 = .ok (.iload_n 3, 1) := by decide +kernel
theorem dX11_put_16 : decode cX11_put 16 = .ok (.ineg, 1) := by decide +kernel
theorem dX11_put_17 : decode cX11_put 17 = .ok (.ireturn, 1) := by decide +kernel
theorem dX11_put_18 : decode cX11_put 18 = .ok (.aload_n 0, 1) := by decide +kernel
theorem dX11_put_19 : decode cX11_put 19 = .ok (.iload_n 1, 1) := by decide +kernel
theorem dX11_put_20 : decode cX11_put 20 = .ok (.iload_n 2, 1) := by decide +kernel
theorem dX11_put_21 : decode cX11_put 21 = .ok (.iconst 0, 1) := by decide +kernel
theorem dX11_put_22 : decode cX11_put 22 = .ok (.invokevirtual 144, 3) := by decide +kernel
theorem dX11_put_25 : decode cX11_put 25 = .ok (.aload_n 0, 1) := by decide +kernel
theorem dX11_put_26 : decode cX11_put 26 = .ok (.iload_n 1, 1) := by decide +kernel
theorem dX11_put_27 : decode cX11_put 27 = .ok (.iload_n 2, 1) := by decide +kernel
theorem dX11_put_28 : decode cX11_put 28 = .ok (.invokevirtual 52, 3) := by decide +kernel
theorem dX11_put_31 : decode cX11_put 31 = .ok (.ireturn, 1) := by decide +kernel
theorem dX11_drop_0 : decode cX11_drop 0 = .ok (.aload_n 0, 1) := by decide +kernel
theorem dX11_drop_1 : decode cX11_drop 1 = .ok (.iload_n 1, 1) := by decide +kernel
theorem dX11_drop_2 : decode cX11_drop 2 = .ok (.invokestatic 112, 3) := by decide +kernel
theorem dX11_drop_5 : decode cX11_drop 5 = .ok (.ifCond .eq 10, 3) := by decide +kernel
theorem dX11_drop_8 : decode cX11_drop 8 = .ok (.iload_n 2, 1) := by decide +kernel
theorem dX11_drop_9 : decode cX11_drop 9 = .ok (.invokestatic 116, 3) := by decide +kernel
theorem dX11_drop_12 : decode cX11_drop 12 = .ok (.ifCond .ne 7, 3) := by decide +kernel
theorem dX11_drop_15 : decode cX11_drop 15 = .ok (.iconst 1, 1) := by decide +kernel
theorem dX11_drop_16 : decode cX11_drop 16 = .ok (.goto 18, 3) := by decide +kernel
theorem dX11_drop_19 : decode cX11_drop 19 = .ok (.aload_n 0, 1) := by decide +kernel
theorem dX11_drop_20 : decode cX11_drop 20 = .ok (.iload_n 1, 1) := by decide +kernel
theorem dX11_drop_21 : decode cX11_drop 21 = .ok (.iload_n 2, 1) := by decide +kernel
theorem dX11_drop_22 : decode cX11_drop 22 = .ok (.invokevirtual 59, 3) := by decide +kernel
theorem dX11_drop_25 : decode cX11_drop 25 = .ok (.iconst (-1), 1) := by decide +kernel
theorem dX11_drop_26 : decode cX11_drop 26 = .ok (.if_icmp .ne 7, 3) := by decide +kernel
theorem dX11_drop_29 : decode cX11_drop 29 = .ok (.iconst 2, 1) := by decide +kernel
theorem dX11_drop_30 : decode cX11_drop 30 = .ok (.goto 4, 3) := by decide +kernel
theorem dX11_drop_33 : decode cX11_drop 33 = .ok (.iconst 0, 1) := by decide +kernel
theorem dX11_drop_34 : decode cX11_drop 34 = .ok (.invokevirtual 163, 3) := by decide +kernel
theorem dX11_drop_37 : decode cX11_drop 37 = .ok (.istore_n 3, 1) := by decide +kernel
theorem dX11_drop_38 : decode cX11_drop 38 = .ok (.iload_n 3, 1) := by decide +kernel
theorem dX11_drop_39 : decode cX11_drop 39 = .ok (.ifCond .le 6, 3) := by decide +kernel
theorem dX11_drop_42 : decode cX11_drop 42 = .ok (.iload_n 3, 1) := by decide +kernel
theorem dX11_drop_43 : decode cX11_drop 43 = .ok (.ineg, 1) := by decide +kernel
theorem dX11_drop_44 : decode cX11_drop 44 = .ok (.ireturn, 1) := by decide +kernel
theorem dX11_drop_45 : decode cX11_drop 45 = .ok (.aload_n 0, 1) := by decide +kernel
theorem dX11_drop_46 : decode cX11_drop 46 = .ok (.iload_n 1, 1) := by decide +kernel
theorem dX11_drop_47 : decode cX11_drop 47 = .ok (.aload_n 0, 1) := by decide +kernel
theorem dX11_drop_48 : decode cX11_drop 48 = .ok (.iload_n 1, 1) := by decide +kernel
theorem dX11_drop_49 : decode cX11_drop 49 = .ok (.iload_n 2, 1) := by decide +kernel
theorem dX11_drop_50 : decode cX11_drop 50 = .ok (.invokevirtual 59, 3) := by decide +kernel
theorem dX11_drop_53 : decode cX11_drop 53 = .ok (.invokevirtual 141, 3) := by decide +kernel
theorem dX11_drop_56 : decode cX11_drop 56 = .ok (.aload_n 0, 1) := by decide +kernel
theorem dX11_drop_57 : decode cX11_drop 57 = .ok (.iload_n 1, 1) := by decide +kernel
theorem dX11_drop_58 : decode cX11_drop 58 = .ok (.invokevirtual 44, 3) := by decide +kernel
theorem dX11_drop_61 : decode cX11_drop 61 = .ok (.ireturn, 1) := by decide +kernel
theorem dX11_cut_0 : decode cX11_cut 0 = .ok (.aload_n 0, 1) := by decide +kernel
theorem dX11_cut_1 : decode cX11_cut 1 = .ok (.aload_n 0, 1) := by decide +kernel
theorem dX11_cut_2 : decode cX11_cut 2 = .ok (.iload_n 1, 1) := by decide +kernel
theorem dX11_cut_3 : decode cX11_cut 3 = .ok (.iload_n 2, 1) := by decide +kernel
theorem dX11_cut_4 : decode cX11_cut 4 = .ok (.iload_n 3, 1) := by decide +kernel
theorem dX11_cut_5 : decode cX11_cut 5 = .ok (.invokevirtual 166, 3) := by decide +kernel
theorem dX11_cut_8 : decode cX11_cut 8 = .ok (.invokevirtual 163, 3) := by decide +kernel
theorem dX11_cut_11 : decode cX11_cut 11 = .ok (.istore 4, 2) := by decide +kernel
theorem dX11_cut_13 : decode cX11_cut 13 = .ok (.iload 4, 2) := by decide +kernel
theorem dX11_cut_15 : decode cX11_cut 15 = .ok (.ifCond .le 9, 3) := by decide +kernel
theorem dX11_cut_18 : decode cX11_cut 18 = .ok (.iload 4, 2) := by decide +kernel
theorem dX11_cut_20 : decode cX11_cut 20 = .ok (.ineg, 1) := by decide +kernel
theorem dX11_cut_21 : decode cX11_cut 21 = .ok (.goto 15, 3) := by decide +kernel
theorem dX11_cut_24 : decode cX11_cut 24 = .ok (.aload_n 0, 1) := by decide +kernel
theorem dX11_cut_25 : decode cX11_cut 25 = .ok (.iload_n 1, 1) := by decide +kernel
theorem dX11_cut_26 : decode cX11_cut 26 = .ok (.iload_n 2, 1) := by decide +kernel
theorem dX11_cut_27 : decode cX11_cut 27 = .ok (.iconst 1, 1) := by decide +kernel
theorem dX11_cut_28 : decode cX11_cut 28 = .ok (.iadd, 1) := by decide +kernel
theorem dX11_cut_29 : decode cX11_cut 29 = .ok (.sipush 9999, 3) := by decide +kernel
theorem dX11_cut_32 : decode cX11_cut 32 = .ok (.iload_n 3, 1) := by decide +kernel
theorem dX11_cut_33 : decode cX11_cut 33 = .ok (.invokevirtual 169, 3) := by decide +kernel
theorem dX11_cut_36 : decode cX11_cut 36 = .ok (.ireturn, 1) := by decide +kernel
theorem dX11_join_0 : decode cX11_join 0 = .ok (.aload_n 0, 1) := by decide +kernel
theorem dX11_join_1 : decode cX11_join 1 = .ok (.aload_n 0, 1) := by decide +kernel
theorem dX11_join_2 : decode cX11_join 2 = .ok (.iload_n 1, 1) := by decide +kernel
theorem dX11_join_3 : decode cX11_join 3 = .ok (.iload_n 2, 1) := by decide +kernel
theorem dX11_join_4 : decode cX11_join 4 = .ok (.invokevirtual 173, 3) := by decide +kernel
theorem dX11_join_7 : decode cX11_join 7 = .ok (.invokevirtual 163, 3) := by decide +kernel
theorem dX11_join_10 : decode cX11_join 10 = .ok (.istore_n 3, 1) := by decide +kernel
theorem dX11_join_11 : decode cX11_join 11 = .ok (.iload_n 3, 1) := by decide +kernel
theorem dX11_join_12 : decode cX11_join 12 = .ok (.ifCond .le 8, 3) := by decide +kernel
theorem dX11_join_15 : decode cX11_join 15 = .ok (.iload_n 3, 1) := by decide +kernel
theorem dX11_join_16 : decode cX11_join 16 = .ok (.ineg, 1) := by decide +kernel
theorem dX11_join_17 : decode cX11_join 17 = .ok (.goto 19, 3) := by decide +kernel
theorem dX11_join_20 : decode cX11_join 20 = .ok (.aload_n 0, 1) := by decide +kernel
theorem dX11_join_21 : decode cX11_join 21 = .ok (.iload_n 1, 1) := by decide +kernel
theorem dX11_join_22 : decode cX11_join 22 = .ok (.invokevirtual 44, 3) := by decide +kernel
theorem dX11_join_25 : decode cX11_join 25 = .ok (.aload_n 0, 1) := by decide +kernel
theorem dX11_join_26 : decode cX11_join 26 = .ok (.iload_n 2, 1) := by decide +kernel
theorem dX11_join_27 : decode cX11_join 27 = .ok (.iconst 0, 1) := by decide +kernel
theorem dX11_join_28 : decode cX11_join 28 = .ok (.sipush 9999, 3) := by decide +kernel
theorem dX11_join_31 : decode cX11_join 31 = .ok (.iload_n 1, 1) := by decide +kernel
theorem dX11_join_32 : decode cX11_join 32 = .ok (.invokevirtual 169, 3) := by decide +kernel
theorem dX11_join_35 : decode cX11_join 35 = .ok (.iadd, 1) := by decide +kernel
theorem dX11_join_36 : decode cX11_join 36 = .ok (.ireturn, 1) := by decide +kernel
theorem dX11_melt_0 : decode cX11_melt 0 = .ok (.aload_n 0, 1) := by decide +kernel
theorem dX11_melt_1 : decode cX11_melt 1 = .ok (.aload_n 0, 1) := by decide +kernel
theorem dX11_melt_2 : decode cX11_melt 2 = .ok (.iload_n 1, 1) := by decide +kernel
theorem dX11_melt_3 : decode cX11_melt 3 = .ok (.iload_n 2, 1) := by decide +kernel
theorem dX11_melt_4 : decode cX11_melt 4 = .ok (.invokevirtual 176, 3) := by decide +kernel
theorem dX11_melt_7 : decode cX11_melt 7 = .ok (.invokevirtual 163, 3) := by decide +kernel
theorem dX11_melt_10 : decode cX11_melt 10 = .ok (.istore_n 3, 1) := by decide +kernel
theorem dX11_melt_11 : decode cX11_melt 11 = .ok (.iload_n 3, 1) := by decide +kernel
theorem dX11_melt_12 : decode cX11_melt 12 = .ok (.ifCond .le 6, 3) := by decide +kernel
theorem dX11_melt_15 : decode cX11_melt 15 = .ok (.iload_n 3, 1) := by decide +kernel
theorem dX11_melt_16 : decode cX11_melt 16 = .ok (.ineg, 1) := by decide +kernel
theorem dX11_melt_17 : decode cX11_melt 17 = .ok (.ireturn, 1) := by decide +kernel
theorem dX11_melt_18 : decode cX11_melt 18 = .ok (.aload_n 0, 1) := by decide +kernel
theorem dX11_melt_19 : decode cX11_melt 19 = .ok (.iload_n 1, 1) := by decide +kernel
theorem dX11_melt_20 : decode cX11_melt 20 = .ok (.iload_n 2, 1) := by decide +kernel
theorem dX11_melt_21 : decode cX11_melt 21 = .ok (.invokevirtual 179, 3) := by decide +kernel
theorem dX11_melt_24 : decode cX11_melt 24 = .ok (.aload_n 0, 1) := by decide +kernel
theorem dX11_melt_25 : decode cX11_melt 25 = .ok (.getfield 100, 3) := by decide +kernel
theorem dX11_melt_28 : decode cX11_melt 28 = .ok (.istore 4, 2) := by decide +kernel
theorem dX11_melt_30 : decode cX11_melt 30 = .ok (.aload_n 0, 1) := by decide +kernel
theorem dX11_melt_31 : decode cX11_melt 31 = .ok (.iload_n 2, 1) := by decide +kernel
theorem dX11_melt_32 : decode cX11_melt 32 = .ok (.iconst 0, 1) := by decide +kernel
theorem dX11_melt_33 : decode cX11_melt 33 = .ok (.sipush 9999, 3) := by decide +kernel
theorem dX11_melt_36 : decode cX11_melt 36 = .ok (.iload_n 1, 1) := by decide +kernel
theorem dX11_melt_37 : decode cX11_melt 37 = .ok (.invokevirtual 169, 3) := by decide +kernel
theorem dX11_melt_40 : decode cX11_melt 40 = .ok (.istore 5, 2) := by decide +kernel
theorem dX11_melt_42 : decode cX11_melt 42 = .ok (.iload 5, 2) := by decide +kernel
theorem dX11_melt_44 : decode cX11_melt 44 = .ok (.ifCond .le 8, 3) := by decide +kernel
theorem dX11_melt_47 : decode cX11_melt 47 = .ok (.iload 4, 2) := by decide +kernel
theorem dX11_melt_49 : decode cX11_melt 49 = .ok (.goto 4, 3) := by decide +kernel
theorem dX11_melt_52 : decode cX11_melt 52 = .ok (.iconst 0, 1) := by decide +kernel
theorem dX11_melt_53 : decode cX11_melt 53 = .ok (.ireturn, 1) := by decide +kernel
theorem dX11_shift_0 : decode cX11_shift 0 = .ok (.aload_n 0, 1) := by decide +kernel
theorem dX11_shift_1 : decode cX11_shift 1 = .ok (.aload_n 0, 1) := by decide +kernel
theorem dX11_shift_2 : decode cX11_shift 2 = .ok (.iload_n 1, 1) := by decide +kernel
theorem dX11_shift_3 : decode cX11_shift 3 = .ok (.iload_n 2, 1) := by decide +kernel
theorem dX11_shift_4 : decode cX11_shift 4 = .ok (.invokevirtual 182, 3) := by decide +kernel
theorem dX11_shift_7 : decode cX11_shift 7 = .ok (.invokevirtual 163, 3) := by decide +kernel
theorem dX11_shift_10 : decode cX11_shift 10 = .ok (.istore_n 3, 1) := by decide +kernel
theorem dX11_shift_11 : decode cX11_shift 11 = .ok (.iload_n 3, 1) := by decide +kernel
theorem dX11_shift_12 : decode cX11_shift 12 = .ok (.ifCond .le 6, 3) := by decide +kernel
theorem dX11_shift_15 : decode cX11_shift 15 = .ok (.iload_n 3, 1) := by decide +kernel
theorem dX11_shift_16 : decode cX11_shift 16 = .ok (.ineg, 1) := by decide +kernel
theorem dX11_shift_17 : decode cX11_shift 17 = .ok (.ireturn, 1) := by decide +kernel
theorem dX11_shift_18 : decode cX11_shift 18 = .ok (.aload_n 0, 1) := by decide +kernel
theorem dX11_shift_19 : decode cX11_shift 19 = .ok (.iload_n 1, 1) := by decide +kernel
theorem dX11_shift_20 : decode cX11_shift 20 = .ok (.iload_n 2, 1) := by decide +kernel
theorem dX11_shift_21 : decode cX11_shift 21 = .ok (.invokevirtual 185, 3) := by decide +kernel
theorem dX11_shift_24 : decode cX11_shift 24 = .ok (.aload_n 0, 1) := by decide +kernel
theorem dX11_shift_25 : decode cX11_shift 25 = .ok (.iload_n 1, 1) := by decide +kernel
theorem dX11_shift_26 : decode cX11_shift 26 = .ok (.invokevirtual 44, 3) := by decide +kernel
theorem dX11_shift_29 : decode cX11_shift 29 = .ok (.ireturn, 1) := by decide +kernel
theorem dX11_move_0 : decode cX11_move 0 = .ok (.aload_n 0, 1) := by decide +kernel
theorem dX11_move_1 : decode cX11_move 1 = .ok (.aload_n 0, 1) := by decide +kernel
theorem dX11_move_2 : decode cX11_move 2 = .ok (.iload_n 1, 1) := by decide +kernel
theorem dX11_move_3 : decode cX11_move 3 = .ok (.iload_n 2, 1) := by decide +kernel
theorem dX11_move_4 : decode cX11_move 4 = .ok (.iload_n 3, 1) := by decide +kernel
theorem dX11_move_5 : decode cX11_move 5 = .ok (.iload 4, 2) := by decide +kernel
theorem dX11_move_7 : decode cX11_move 7 = .ok (.invokevirtual 188, 3) := by decide +kernel
theorem dX11_move_10 : decode cX11_move 10 = .ok (.invokevirtual 163, 3) := by decide +kernel
theorem dX11_move_13 : decode cX11_move 13 = .ok (.istore 5, 2) := by decide +kernel
theorem dX11_move_15 : decode cX11_move 15 = .ok (.iload 5, 2) := by decide +kernel
theorem dX11_move_17 : decode cX11_move 17 = .ok (.ifCond .le 9, 3) := by decide +kernel
theorem dX11_move_20 : decode cX11_move 20 = .ok (.iload 5, 2) := by decide +kernel
theorem dX11_move_22 : decode cX11_move 22 = .ok (.ineg, 1) := by decide +kernel
theorem dX11_move_23 : decode cX11_move 23 = .ok (.goto 12, 3) := by decide +kernel
theorem dX11_move_26 : decode cX11_move 26 = .ok (.aload_n 0, 1) := by decide +kernel
theorem dX11_move_27 : decode cX11_move 27 = .ok (.iload_n 1, 1) := by decide +kernel
theorem dX11_move_28 : decode cX11_move 28 = .ok (.iload_n 2, 1) := by decide +kernel
theorem dX11_move_29 : decode cX11_move 29 = .ok (.iload_n 3, 1) := by decide +kernel
theorem dX11_move_30 : decode cX11_move 30 = .ok (.iload 4, 2) := by decide +kernel
theorem dX11_move_32 : decode cX11_move 32 = .ok (.invokevirtual 169, 3) := by decide +kernel
theorem dX11_move_35 : decode cX11_move 35 = .ok (.ireturn, 1) := by decide +kernel
theorem dX11_mark_0 : decode cX11_mark 0 = .ok (.aload_n 0, 1) := by decide +kernel
theorem dX11_mark_1 : decode cX11_mark 1 = .ok (.aload_n 0, 1) := by decide +kernel
theorem dX11_mark_2 : decode cX11_mark 2 = .ok (.iload_n 1, 1) := by decide +kernel
theorem dX11_mark_3 : decode cX11_mark 3 = .ok (.iload_n 2, 1) := by decide +kernel
theorem dX11_mark_4 : decode cX11_mark 4 = .ok (.iload_n 3, 1) := by decide +kernel
theorem dX11_mark_5 : decode cX11_mark 5 = .ok (.iload 4, 2) := by decide +kernel
theorem dX11_mark_7 : decode cX11_mark 7 = .ok (.ifCond .eq 7, 3) := by decide +kernel
theorem dX11_mark_10 : decode cX11_mark 10 = .ok (.iconst 0, 1) := by decide +kernel
theorem dX11_mark_11 : decode cX11_mark 11 = .ok (.goto 4, 3) := by decide +kernel
theorem dX11_mark_14 : decode cX11_mark 14 = .ok (.iconst 1, 1) := by decide +kernel
theorem dX11_mark_15 : decode cX11_mark 15 = .ok (.invokevirtual 191, 3) := by decide +kernel
theorem dX11_mark_18 : decode cX11_mark 18 = .ok (.invokevirtual 163, 3) := by decide +kernel
theorem dX11_mark_21 : decode cX11_mark 21 = .ok (.istore 5, 2) := by decide +kernel
theorem dX11_mark_23 : decode cX11_mark 23 = .ok (.iload 5, 2) := by decide +kernel
theorem dX11_mark_25 : decode cX11_mark 25 = .ok (.ifCond .le 9, 3) := by decide +kernel
theorem dX11_mark_28 : decode cX11_mark 28 = .ok (.iload 5, 2) := by decide +kernel
theorem dX11_mark_30 : decode cX11_mark 30 = .ok (.ineg, 1) := by decide +kernel
theorem dX11_mark_31 : decode cX11_mark 31 = .ok (.goto 21, 3) := by decide +kernel
theorem dX11_mark_34 : decode cX11_mark 34 = .ok (.aload_n 0, 1) := by decide +kernel
theorem dX11_mark_35 : decode cX11_mark 35 = .ok (.iload_n 1, 1) := by decide +kernel
theorem dX11_mark_36 : decode cX11_mark 36 = .ok (.iload_n 2, 1) := by decide +kernel
theorem dX11_mark_37 : decode cX11_mark 37 = .ok (.iload_n 3, 1) := by decide +kernel
theorem dX11_mark_38 : decode cX11_mark 38 = .ok (.iload 4, 2) := by decide +kernel
theorem dX11_mark_40 : decode cX11_mark 40 = .ok (.ifCond .eq 7, 3) := by decide +kernel
theorem dX11_mark_43 : decode cX11_mark 43 = .ok (.iconst 0, 1) := by decide +kernel
theorem dX11_mark_44 : decode cX11_mark 44 = .ok (.goto 4, 3) := by decide +kernel
theorem dX11_mark_47 : decode cX11_mark 47 = .ok (.iconst 1, 1) := by decide +kernel
theorem dX11_mark_48 : decode cX11_mark 48 = .ok (.iconst 1, 1) := by decide +kernel
theorem dX11_mark_49 : decode cX11_mark 49 = .ok (.invokevirtual 137, 3) := by decide +kernel
theorem dX11_mark_52 : decode cX11_mark 52 = .ok (.ireturn, 1) := by decide +kernel
theorem dX11_seek_0 : decode cX11_seek 0 = .ok (.aload_n 0, 1) := by decide +kernel
theorem dX11_seek_1 : decode cX11_seek 1 = .ok (.iload_n 1, 1) := by decide +kernel
theorem dX11_seek_2 : decode cX11_seek 2 = .ok (.invokestatic 112, 3) := by decide +kernel
theorem dX11_seek_5 : decode cX11_seek 5 = .ok (.ifCond .eq 10, 3) := by decide +kernel
theorem dX11_seek_8 : decode cX11_seek 8 = .ok (.iload_n 2, 1) := by decide +kernel
theorem dX11_seek_9 : decode cX11_seek 9 = .ok (.invokestatic 116, 3) := by decide +kernel
theorem dX11_seek_12 : decode cX11_seek 12 = .ok (.ifCond .ne 7, 3) := by decide +kernel
theorem dX11_seek_15 : decode cX11_seek 15 = .ok (.iconst 1, 1) := by decide +kernel
theorem dX11_seek_16 : decode cX11_seek 16 = .ok (.goto 16, 3) := by decide +kernel
theorem dX11_seek_19 : decode cX11_seek 19 = .ok (.aload_n 0, 1) := by decide +kernel
theorem dX11_seek_20 : decode cX11_seek 20 = .ok (.iload_n 1, 1) := by decide +kernel
theorem dX11_seek_21 : decode cX11_seek 21 = .ok (.invokevirtual 44, 3) := by decide +kernel
theorem dX11_seek_24 : decode cX11_seek 24 = .ok (.ifCond .ne 7, 3) := by decide +kernel
theorem dX11_seek_27 : decode cX11_seek 27 = .ok (.iconst 2, 1) := by decide +kernel
theorem dX11_seek_28 : decode cX11_seek 28 = .ok (.goto 4, 3) := by decide +kernel
theorem dX11_seek_31 : decode cX11_seek 31 = .ok (.iconst 0, 1) := by decide +kernel
theorem dX11_seek_32 : decode cX11_seek 32 = .ok (.invokevirtual 163, 3) := by decide +kernel
theorem dX11_seek_35 : decode cX11_seek 35 = .ok (.istore_n 3, 1) := by decide +kernel
theorem dX11_seek_36 : decode cX11_seek 36 = .ok (.iload_n 3, 1) := by decide +kernel
theorem dX11_seek_37 : decode cX11_seek 37 = .ok (.ifCond .le 6, 3) := by decide +kernel
theorem dX11_seek_40 : decode cX11_seek 40 = .ok (.iload_n 3, 1) := by decide +kernel
theorem dX11_seek_41 : decode cX11_seek 41 = .ok (.ineg, 1) := by decide +kernel
theorem dX11_seek_42 : decode cX11_seek 42 = .ok (.ireturn, 1) := by decide +kernel
theorem dX11_seek_43 : decode cX11_seek 43 = .ok (.aload_n 0, 1) := by decide +kernel
theorem dX11_seek_44 : decode cX11_seek 44 = .ok (.iload_n 1, 1) := by decide +kernel
theorem dX11_seek_45 : decode cX11_seek 45 = .ok (.iload_n 2, 1) := by decide +kernel
theorem dX11_seek_46 : decode cX11_seek 46 = .ok (.iconst 1, 1) := by decide +kernel
theorem dX11_seek_47 : decode cX11_seek 47 = .ok (.iadd, 1) := by decide +kernel
theorem dX11_seek_48 : decode cX11_seek 48 = .ok (.invokevirtual 52, 3) := by decide +kernel
theorem dX11_seek_51 : decode cX11_seek 51 = .ok (.iconst 1, 1) := by decide +kernel
theorem dX11_seek_52 : decode cX11_seek 52 = .ok (.isub, 1) := by decide +kernel
theorem dX11_seek_53 : decode cX11_seek 53 = .ok (.istore 4, 2) := by decide +kernel
theorem dX11_seek_55 : decode cX11_seek 55 = .ok (.iload 4, 2) := by decide +kernel
theorem dX11_seek_57 : decode cX11_seek 57 = .ok (.ifCond .ge 7, 3) := by decide +kernel
theorem dX11_seek_60 : decode cX11_seek 60 = .ok (.iconst 0, 1) := by decide +kernel
theorem dX11_seek_61 : decode cX11_seek 61 = .ok (.goto 5, 3) := by decide +kernel
theorem dX11_seek_64 : decode cX11_seek 64 = .ok (.iload 4, 2) := by decide +kernel
theorem dX11_seek_66 : decode cX11_seek 66 = .ok (.istore 4, 2) := by decide +kernel
theorem dX11_seek_68 : decode cX11_seek 68 = .ok (.aload_n 0, 1) := by decide +kernel
theorem dX11_seek_69 : decode cX11_seek 69 = .ok (.iload_n 1, 1) := by decide +kernel
theorem dX11_seek_70 : decode cX11_seek 70 = .ok (.invokevirtual 148, 3) := by decide +kernel
theorem dX11_seek_73 : decode cX11_seek 73 = .ok (.iconst (-1), 1) := by decide +kernel
theorem dX11_seek_74 : decode cX11_seek 74 = .ok (.if_icmp .ne 8, 3) := by decide +kernel
theorem dX11_seek_77 : decode cX11_seek 77 = .ok (.iload 4, 2) := by decide +kernel
theorem dX11_seek_79 : decode cX11_seek 79 = .ok (.goto 13, 3) := by decide +kernel
theorem dX11_seek_82 : decode cX11_seek 82 = .ok (.aload_n 0, 1) := by decide +kernel
theorem dX11_seek_83 : decode cX11_seek 83 = .ok (.iload_n 1, 1) := by decide +kernel
theorem dX11_seek_84 : decode cX11_seek 84 = .ok (.aload_n 0, 1) := by decide +kernel
theorem dX11_seek_85 : decode cX11_seek 85 = .ok (.iload_n 1, 1) := by decide +kernel
theorem dX11_seek_86 : decode cX11_seek 86 = .ok (.invokevirtual 148, 3) := by decide +kernel
theorem dX11_seek_89 : decode cX11_seek 89 = .ok (.invokevirtual 59, 3) := by decide +kernel
theorem dX11_seek_92 : decode cX11_seek 92 = .ok (.istore 5, 2) := by decide +kernel
theorem dX11_seek_94 : decode cX11_seek 94 = .ok (.aload_n 0, 1) := by decide +kernel
theorem dX11_seek_95 : decode cX11_seek 95 = .ok (.iload_n 1, 1) := by decide +kernel
theorem dX11_seek_96 : decode cX11_seek 96 = .ok (.aload_n 0, 1) := by decide +kernel
theorem dX11_seek_97 : decode cX11_seek 97 = .ok (.iload_n 1, 1) := by decide +kernel
theorem dX11_seek_98 : decode cX11_seek 98 = .ok (.iload 4, 2) := by decide +kernel
theorem dX11_seek_100 : decode cX11_seek 100 = .ok (.invokevirtual 48, 3) := by decide +kernel
theorem dX11_seek_103 : decode cX11_seek 103 = .ok (.invokevirtual 55, 3) := by decide +kernel
theorem dX11_seek_106 : decode cX11_seek 106 = .ok (.aload_n 0, 1) := by decide +kernel
theorem dX11_seek_107 : decode cX11_seek 107 = .ok (.iload_n 1, 1) := by decide +kernel
theorem dX11_seek_108 : decode cX11_seek 108 = .ok (.invokevirtual 194, 3) := by decide +kernel
theorem dX11_seek_111 : decode cX11_seek 111 = .ok (.aload_n 0, 1) := by decide +kernel
theorem dX11_seek_112 : decode cX11_seek 112 = .ok (.iload 5, 2) := by decide +kernel
theorem dX11_seek_114 : decode cX11_seek 114 = .ok (.iload 4, 2) := by decide +kernel
theorem dX11_seek_116 : decode cX11_seek 116 = .ok (.invokevirtual 197, 3) := by decide +kernel
theorem dX11_seek_119 : decode cX11_seek 119 = .ok (.ireturn, 1) := by decide +kernel
theorem dX11_undo_0 : decode cX11_undo 0 = .ok (.aload_n 0, 1) := by decide +kernel
theorem dX11_undo_1 : decode cX11_undo 1 = .ok (.getfield 151, 3) := by decide +kernel
theorem dX11_undo_4 : decode cX11_undo 4 = .ok (.ifCond .ne 5, 3) := by decide +kernel
theorem dX11_undo_7 : decode cX11_undo 7 = .ok (.iconst (-1), 1) := by decide +kernel
theorem dX11_undo_8 : decode cX11_undo 8 = .ok (.ireturn, 1) := by decide +kernel
theorem dX11_undo_9 : decode cX11_undo 9 = .ok (.aload_n 0, 1) := by decide +kernel
theorem dX11_undo_10 : decode cX11_undo 10 = .ok (.dup, 1) := by decide +kernel
theorem dX11_undo_11 : decode cX11_undo 11 = .ok (.getfield 151, 3) := by decide +kernel
theorem dX11_undo_14 : decode cX11_undo 14 = .ok (.iconst 1, 1) := by decide +kernel
theorem dX11_undo_15 : decode cX11_undo 15 = .ok (.isub, 1) := by decide +kernel
theorem dX11_undo_16 : decode cX11_undo 16 = .ok (.putfield 151, 3) := by decide +kernel
theorem dX11_undo_19 : decode cX11_undo 19 = .ok (.aload_n 0, 1) := by decide +kernel
theorem dX11_undo_20 : decode cX11_undo 20 = .ok (.sipush 1952, 3) := by decide +kernel
theorem dX11_undo_23 : decode cX11_undo 23 = .ok (.sipush 976, 3) := by decide +kernel
theorem dX11_undo_26 : decode cX11_undo 26 = .ok (.aload_n 0, 1) := by decide +kernel
theorem dX11_undo_27 : decode cX11_undo 27 = .ok (.getfield 151, 3) := by decide +kernel
theorem dX11_undo_30 : decode cX11_undo 30 = .ok (.imul, 1) := by decide +kernel
theorem dX11_undo_31 : decode cX11_undo 31 = .ok (.iadd, 1) := by decide +kernel
theorem dX11_undo_32 : decode cX11_undo 32 = .ok (.iconst 0, 1) := by decide +kernel
theorem dX11_undo_33 : decode cX11_undo 33 = .ok (.sipush 976, 3) := by decide +kernel
theorem dX11_undo_36 : decode cX11_undo 36 = .ok (.invokevirtual 154, 3) := by decide +kernel
theorem dX11_undo_39 : decode cX11_undo 39 = .ok (.aload_n 0, 1) := by decide +kernel
theorem dX11_undo_40 : decode cX11_undo 40 = .ok (.getfield 151, 3) := by decide +kernel
theorem dX11_undo_43 : decode cX11_undo 43 = .ok (.ireturn, 1) := by decide +kernel
theorem dX11_summed_0 : decode cX11_summed 0 = .ok (.aload_n 0, 1) := by decide +kernel
theorem dX11_summed_1 : decode cX11_summed 1 = .ok (.iload_n 1, 1) := by decide +kernel
theorem dX11_summed_2 : decode cX11_summed 2 = .ok (.invokevirtual 194, 3) := by decide +kernel
theorem dX11_summed_5 : decode cX11_summed 5 = .ok (.iconst 0, 1) := by decide +kernel
theorem dX11_summed_6 : decode cX11_summed 6 = .ok (.istore_n 3, 1) := by decide +kernel
theorem dX11_summed_7 : decode cX11_summed 7 = .ok (.iconst (-1), 1) := by decide +kernel
theorem dX11_summed_8 : decode cX11_summed 8 = .ok (.istore 4, 2) := by decide +kernel
theorem dX11_summed_10 : decode cX11_summed 10 = .ok (.iconst 0, 1) := by decide +kernel
theorem dX11_summed_11 : decode cX11_summed 11 = .ok (.istore 5, 2) := by decide +kernel
theorem dX11_summed_13 : decode cX11_summed 13 = .ok (.iload 5, 2) := by decide +kernel
theorem dX11_summed_15 : decode cX11_summed 15 = .ok (.aload_n 0, 1) := by decide +kernel
theorem dX11_summed_16 : decode cX11_summed 16 = .ok (.getfield 62, 3) := by decide +kernel
theorem dX11_summed_19 : decode cX11_summed 19 = .ok (.if_icmp .ge 129, 3) := by decide +kernel
theorem dX11_summed_22 : decode cX11_summed 22 = .ok (.iload 5, 2) := by decide +kernel
theorem dX11_summed_24 : decode cX11_summed 24 = .ok (.ifCond .le 23, 3) := by decide +kernel
theorem dX11_summed_27 : decode cX11_summed 27 = .ok (.aload_n 0, 1) := by decide +kernel
theorem dX11_summed_28 : decode cX11_summed 28 = .ok (.getfield 27, 3) := by decide +kernel
theorem dX11_summed_31 : decode cX11_summed 31 = .ok (.iload 5, 2) := by decide +kernel
theorem dX11_summed_33 : decode cX11_summed 33 = .ok (.iaload, 1) := by decide +kernel
theorem dX11_summed_34 : decode cX11_summed 34 = .ok (.aload_n 0, 1) := by decide +kernel
theorem dX11_summed_35 : decode cX11_summed 35 = .ok (.getfield 27, 3) := by decide +kernel
theorem dX11_summed_38 : decode cX11_summed 38 = .ok (.iload 5, 2) := by decide +kernel
theorem dX11_summed_40 : decode cX11_summed 40 = .ok (.iconst 1, 1) := by decide +kernel
theorem dX11_summed_41 : decode cX11_summed 41 = .ok (.isub, 1) := by decide +kernel
theorem dX11_summed_42 : decode cX11_summed 42 = .ok (.iaload, 1) := by decide +kernel
theorem dX11_summed_43 : decode cX11_summed 43 = .ok (.isub, 1) := by decide +kernel
theorem dX11_summed_44 : decode cX11_summed 44 = .ok (.goto 4, 3) := by decide +kernel
theorem dX11_summed_47 : decode cX11_summed 47 = .ok (.iconst 0, 1) := by decide +kernel
theorem dX11_summed_48 : decode cX11_summed 48 = .ok (.istore 6, 2) := by decide +kernel
theorem dX11_summed_50 : decode cX11_summed 50 = .ok (.iload 5, 2) := by decide +kernel
theorem dX11_summed_52 : decode cX11_summed 52 = .ok (.ifCond .le 21, 3) := by decide +kernel
theorem dX11_summed_55 : decode cX11_summed 55 = .ok (.iload 4, 2) := by decide +kernel
theorem dX11_summed_57 : decode cX11_summed 57 = .ok (.iconst (-1), 1) := by decide +kernel
theorem dX11_summed_58 : decode cX11_summed 58 = .ok (.if_icmp .eq 10, 3) := by decide +kernel
theorem dX11_summed_61 : decode cX11_summed 61 = .ok (.iload 6, 2) := by decide +kernel
theorem dX11_summed_63 : decode cX11_summed 63 = .ok (.iload 4, 2) := by decide +kernel
theorem dX11_summed_65 : decode cX11_summed 65 = .ok (.if_icmp .ge 8, 3) := by decide +kernel
theorem dX11_summed_68 : decode cX11_summed 68 = .ok (.iload 6, 2) := by decide +kernel
theorem dX11_summed_70 : decode cX11_summed 70 = .ok (.goto 5, 3) := by decide +kernel
theorem dX11_summed_73 : decode cX11_summed 73 = .ok (.iload 4, 2) := by decide +kernel
theorem dX11_summed_75 : decode cX11_summed 75 = .ok (.istore 4, 2) := by decide +kernel
theorem dX11_summed_77 : decode cX11_summed 77 = .ok (.iload_n 3, 1) := by decide +kernel
theorem dX11_summed_78 : decode cX11_summed 78 = .ok (.iload_n 2, 1) := by decide +kernel
theorem dX11_summed_79 : decode cX11_summed 79 = .ok (.iconst 3, 1) := by decide +kernel
theorem dX11_summed_80 : decode cX11_summed 80 = .ok (.if_icmp .ne 13, 3) := by decide +kernel
theorem dX11_summed_83 : decode cX11_summed 83 = .ok (.aload_n 0, 1) := by decide +kernel
theorem dX11_summed_84 : decode cX11_summed 84 = .ok (.iload_n 1, 1) := by decide +kernel
theorem dX11_summed_85 : decode cX11_summed 85 = .ok (.iload 5, 2) := by decide +kernel
theorem dX11_summed_87 : decode cX11_summed 87 = .ok (.invokevirtual 134, 3) := by decide +kernel
theorem dX11_summed_90 : decode cX11_summed 90 = .ok (.goto 50, 3) := by decide +kernel
theorem dX11_summed_93 : decode cX11_summed 93 = .ok (.iload_n 2, 1) := by decide +kernel
theorem dX11_summed_94 : decode cX11_summed 94 = .ok (.bipush 8, 2) := by decide +kernel
theorem dX11_summed_96 : decode cX11_summed 96 = .ok (.if_icmp .ne 12, 3) := by decide +kernel
theorem dX11_summed_99 : decode cX11_summed 99 = .ok (.aload_n 0, 1) := by decide +kernel
theorem dX11_summed_100 : decode cX11_summed 100 = .ok (.iload 5, 2) := by decide +kernel
theorem dX11_summed_102 : decode cX11_summed 102 = .ok (.invokevirtual 88, 3) := by decide +kernel
theorem dX11_summed_105 : decode cX11_summed 105 = .ok (.goto 35, 3) := by decide +kernel
theorem dX11_summed_108 : decode cX11_summed 108 = .ok (.iload_n 2, 1) := by decide +kernel
theorem dX11_summed_109 : decode cX11_summed 109 = .ok (.bipush 9, 2) := by decide +kernel
theorem dX11_summed_111 : decode cX11_summed 111 = .ok (.if_icmp .ne 22, 3) := by decide +kernel
theorem dX11_summed_114 : decode cX11_summed 114 = .ok (.iload 5, 2) := by decide +kernel
theorem dX11_summed_116 : decode cX11_summed 116 = .ok (.ifCond .le 13, 3) := by decide +kernel
theorem dX11_summed_119 : decode cX11_summed 119 = .ok (.iload 6, 2) := by decide +kernel
theorem dX11_summed_121 : decode cX11_summed 121 = .ok (.iconst 1, 1) := by decide +kernel
theorem dX11_summed_122 : decode cX11_summed 122 = .ok (.if_icmp .ne 7, 3) := by decide +kernel
theorem dX11_summed_125 : decode cX11_summed 125 = .ok (.iconst 0, 1) := by decide +kernel
theorem dX11_summed_126 : decode cX11_summed 126 = .ok (.goto 14, 3) := by decide +kernel
theorem dX11_summed_129 : decode cX11_summed 129 = .ok (.iconst 1, 1) := by decide +kernel
theorem dX11_summed_130 : decode cX11_summed 130 = .ok (.goto 10, 3) := by decide +kernel
theorem dX11_summed_133 : decode cX11_summed 133 = .ok (.aload_n 0, 1) := by decide +kernel
theorem dX11_summed_134 : decode cX11_summed 134 = .ok (.getfield 27, 3) := by decide +kernel
theorem dX11_summed_137 : decode cX11_summed 137 = .ok (.iload 5, 2) := by decide +kernel
theorem dX11_summed_139 : decode cX11_summed 139 = .ok (.iaload, 1) := by decide +kernel
theorem dX11_summed_140 : decode cX11_summed 140 = .ok (.iadd, 1) := by decide +kernel
theorem dX11_summed_141 : decode cX11_summed 141 = .ok (.istore_n 3, 1) := by decide +kernel
theorem dX11_summed_142 : decode cX11_summed 142 = .ok (.iinc 5 1, 3) := by decide +kernel
theorem dX11_summed_145 : decode cX11_summed 145 = .ok (.goto (-132), 3) := by decide +kernel
theorem dX11_summed_148 : decode cX11_summed 148 = .ok (.iload_n 2, 1) := by decide +kernel
theorem dX11_summed_149 : decode cX11_summed 149 = .ok (.bipush 7, 2) := by decide +kernel
theorem dX11_summed_151 : decode cX11_summed 151 = .ok (.if_icmp .ne 8, 3) := by decide +kernel
theorem dX11_summed_154 : decode cX11_summed 154 = .ok (.iload 4, 2) := by decide +kernel
theorem dX11_summed_156 : decode cX11_summed 156 = .ok (.goto 4, 3) := by decide +kernel
theorem dX11_summed_159 : decode cX11_summed 159 = .ok (.iload_n 3, 1) := by decide +kernel
theorem dX11_summed_160 : decode cX11_summed 160 = .ok (.ireturn, 1) := by decide +kernel
theorem dX11_set_0 : decode cX11_set 0 = .ok (.iload_n 1, 1) := by decide +kernel
theorem dX11_set_1 : decode cX11_set 1 = .ok (.invokestatic 112, 3) := by decide +kernel
theorem dX11_set_4 : decode cX11_set 4 = .ok (.ifCond .ne 5, 3) := by decide +kernel
theorem dX11_set_7 : decode cX11_set 7 = .ok (.iconst (-1), 1) := by decide +kernel
theorem dX11_set_8 : decode cX11_set 8 = .ok (.ireturn, 1) := by decide +kernel
theorem dX11_set_9 : decode cX11_set 9 = .ok (.aload_n 0, 1) := by decide +kernel
theorem dX11_set_10 : decode cX11_set 10 = .ok (.iload_n 1, 1) := by decide +kernel
theorem dX11_set_11 : decode cX11_set 11 = .ok (.invokevirtual 194, 3) := by decide +kernel
theorem dX11_set_14 : decode cX11_set 14 = .ok (.iload_n 2, 1) := by decide +kernel
theorem dX11_set_15 : decode cX11_set 15 = .ok (.tableswitch 149 0 10 #[57, 62, 80, 142, 103, 131, 136, 142, 142, 142, 142], 57) := by decide +kernel
theorem dX11_set_72 : decode cX11_set 72 = .ok (.aload_n 0, 1) := by decide +kernel
theorem dX11_set_73 : decode cX11_set 73 = .ok (.getfield 62, 3) := by decide +kernel
theorem dX11_set_76 : decode cX11_set 76 = .ok (.ireturn, 1) := by decide +kernel
theorem dX11_set_77 : decode cX11_set 77 = .ok (.aload_n 0, 1) := by decide +kernel
theorem dX11_set_78 : decode cX11_set 78 = .ok (.getfield 62, 3) := by decide +kernel
theorem dX11_set_81 : decode cX11_set 81 = .ok (.ifCond .ne 7, 3) := by decide +kernel
theorem dX11_set_84 : decode cX11_set 84 = .ok (.iconst (-1), 1) := by decide +kernel
theorem dX11_set_85 : decode cX11_set 85 = .ok (.goto 9, 3) := by decide +kernel
theorem dX11_set_88 : decode cX11_set 88 = .ok (.aload_n 0, 1) := by decide +kernel
theorem dX11_set_89 : decode cX11_set 89 = .ok (.getfield 27, 3) := by decide +kernel
theorem dX11_set_92 : decode cX11_set 92 = .ok (.iconst 0, 1) := by decide +kernel
theorem dX11_set_93 : decode cX11_set 93 = .ok (.iaload, 1) := by decide +kernel
theorem dX11_set_94 : decode cX11_set 94 = .ok (.ireturn, 1) := by decide +kernel
theorem dX11_set_95 : decode cX11_set 95 = .ok (.aload_n 0, 1) := by decide +kernel
theorem dX11_set_96 : decode cX11_set 96 = .ok (.getfield 62, 3) := by decide +kernel
theorem dX11_set_99 : decode cX11_set 99 = .ok (.ifCond .ne 7, 3) := by decide +kernel
theorem dX11_set_102 : decode cX11_set 102 = .ok (.iconst (-1), 1) := by decide +kernel
theorem dX11_set_103 : decode cX11_set 103 = .ok (.goto 14, 3) := by decide +kernel
theorem dX11_set_106 : decode cX11_set 106 = .ok (.aload_n 0, 1) := by decide +kernel
theorem dX11_set_107 : decode cX11_set 107 = .ok (.getfield 27, 3) := by decide +kernel
theorem dX11_set_110 : decode cX11_set 110 = .ok (.aload_n 0, 1) := by decide +kernel
theorem dX11_set_111 : decode cX11_set 111 = .ok (.getfield 62, 3) := by decide +kernel
theorem dX11_set_114 : decode cX11_set 114 = .ok (.iconst 1, 1) := by decide +kernel
theorem dX11_set_115 : decode cX11_set 115 = .ok (.isub, 1) := by decide +kernel
theorem dX11_set_116 : decode cX11_set 116 = .ok (.iaload, 1) := by decide +kernel
theorem dX11_set_117 : decode cX11_set 117 = .ok (.ireturn, 1) := by decide +kernel
theorem dX11_set_118 : decode cX11_set 118 = .ok (.aload_n 0, 1) := by decide +kernel
theorem dX11_set_119 : decode cX11_set 119 = .ok (.getfield 62, 3) := by decide +kernel
theorem dX11_set_122 : decode cX11_set 122 = .ok (.ifCond .ne 7, 3) := by decide +kernel
theorem dX11_set_125 : decode cX11_set 125 = .ok (.iconst (-1), 1) := by decide +kernel
theorem dX11_set_126 : decode cX11_set 126 = .ok (.goto 19, 3) := by decide +kernel
theorem dX11_set_129 : decode cX11_set 129 = .ok (.aload_n 0, 1) := by decide +kernel
theorem dX11_set_130 : decode cX11_set 130 = .ok (.getfield 27, 3) := by decide +kernel
theorem dX11_set_133 : decode cX11_set 133 = .ok (.aload_n 0, 1) := by decide +kernel
theorem dX11_set_134 : decode cX11_set 134 = .ok (.iconst 0, 1) := by decide +kernel
theorem dX11_set_135 : decode cX11_set 135 = .ok (.aload_n 0, 1) := by decide +kernel
theorem dX11_set_136 : decode cX11_set 136 = .ok (.getfield 62, 3) := by decide +kernel
theorem dX11_set_139 : decode cX11_set 139 = .ok (.iconst 1, 1) := by decide +kernel
theorem dX11_set_140 : decode cX11_set 140 = .ok (.isub, 1) := by decide +kernel
theorem dX11_set_141 : decode cX11_set 141 = .ok (.invokevirtual 82, 3) := by decide +kernel
theorem dX11_set_144 : decode cX11_set 144 = .ok (.iaload, 1) := by decide +kernel
theorem dX11_set_145 : decode cX11_set 145 = .ok (.ireturn, 1) := by decide +kernel
theorem dX11_set_146 : decode cX11_set 146 = .ok (.aload_n 0, 1) := by decide +kernel
theorem dX11_set_147 : decode cX11_set 147 = .ok (.invokevirtual 200, 3) := by decide +kernel
theorem dX11_set_150 : decode cX11_set 150 = .ok (.ireturn, 1) := by decide +kernel
theorem dX11_set_151 : decode cX11_set 151 = .ok (.aload_n 0, 1) := by decide +kernel
theorem dX11_set_152 : decode cX11_set 152 = .ok (.iload_n 1, 1) := by decide +kernel
theorem dX11_set_153 : decode cX11_set 153 = .ok (.invokevirtual 148, 3) := by decide +kernel
theorem dX11_set_156 : decode cX11_set 156 = .ok (.ireturn, 1) := by decide +kernel
theorem dX11_set_157 : decode cX11_set 157 = .ok (.aload_n 0, 1) := by decide +kernel
theorem dX11_set_158 : decode cX11_set 158 = .ok (.iload_n 1, 1) := by decide +kernel
theorem dX11_set_159 : decode cX11_set 159 = .ok (.iload_n 2, 1) := by decide +kernel
theorem dX11_set_160 : decode cX11_set 160 = .ok (.invokevirtual 203, 3) := by decide +kernel
theorem dX11_set_163 : decode cX11_set 163 = .ok (.ireturn, 1) := by decide +kernel
theorem dX11_set_164 : decode cX11_set 164 = .ok (.iconst (-1), 1) := by decide +kernel
theorem dX11_set_165 : decode cX11_set 165 = .ok (.ireturn, 1) := by decide +kernel
theorem dX11_key_0 : decode cX11_key 0 = .ok (.iload_n 1, 1) := by decide +kernel
theorem dX11_key_1 : decode cX11_key 1 = .ok (.invokestatic 112, 3) := by decide +kernel
theorem dX11_key_4 : decode cX11_key 4 = .ok (.ifCond .eq 27, 3) := by decide +kernel
theorem dX11_key_7 : decode cX11_key 7 = .ok (.iload_n 2, 1) := by decide +kernel
theorem dX11_key_8 : decode cX11_key 8 = .ok (.iconst 0, 1) := by decide +kernel
theorem dX11_key_9 : decode cX11_key 9 = .ok (.aload_n 0, 1) := by decide +kernel
theorem dX11_key_10 : decode cX11_key 10 = .ok (.iload_n 1, 1) := by decide +kernel
theorem dX11_key_11 : decode cX11_key 11 = .ok (.invokevirtual 44, 3) := by decide +kernel
theorem dX11_key_14 : decode cX11_key 14 = .ok (.iconst 1, 1) := by decide +kernel
theorem dX11_key_15 : decode cX11_key 15 = .ok (.isub, 1) := by decide +kernel
theorem dX11_key_16 : decode cX11_key 16 = .ok (.invokestatic 37, 3) := by decide +kernel
theorem dX11_key_19 : decode cX11_key 19 = .ok (.ifCond .eq 12, 3) := by decide +kernel
theorem dX11_key_22 : decode cX11_key 22 = .ok (.aload_n 0, 1) := by decide +kernel
theorem dX11_key_23 : decode cX11_key 23 = .ok (.iload_n 1, 1) := by decide +kernel
theorem dX11_key_24 : decode cX11_key 24 = .ok (.iload_n 2, 1) := by decide +kernel
theorem dX11_key_25 : decode cX11_key 25 = .ok (.invokevirtual 48, 3) := by decide +kernel
theorem dX11_key_28 : decode cX11_key 28 = .ok (.goto 4, 3) := by decide +kernel
theorem dX11_key_31 : decode cX11_key 31 = .ok (.iconst (-1), 1) := by decide +kernel
theorem dX11_key_32 : decode cX11_key 32 = .ok (.ireturn, 1) := by decide +kernel
theorem dX11_keyOf_0 : decode cX11_keyOf 0 = .ok (.iload_n 1, 1) := by decide +kernel
theorem dX11_keyOf_1 : decode cX11_keyOf 1 = .ok (.iconst (-1), 1) := by decide +kernel
theorem dX11_keyOf_2 : decode cX11_keyOf 2 = .ok (.if_icmp .ne 7, 3) := by decide +kernel
theorem dX11_keyOf_5 : decode cX11_keyOf 5 = .ok (.iconst (-1), 1) := by decide +kernel
theorem dX11_keyOf_6 : decode cX11_keyOf 6 = .ok (.goto 9, 3) := by decide +kernel
theorem dX11_keyOf_9 : decode cX11_keyOf 9 = .ok (.aload_n 0, 1) := by decide +kernel
theorem dX11_keyOf_10 : decode cX11_keyOf 10 = .ok (.getfield 27, 3) := by decide +kernel
theorem dX11_keyOf_13 : decode cX11_keyOf 13 = .ok (.iload_n 1, 1) := by decide +kernel
theorem dX11_keyOf_14 : decode cX11_keyOf 14 = .ok (.iaload, 1) := by decide +kernel
theorem dX11_keyOf_15 : decode cX11_keyOf 15 = .ok (.ireturn, 1) := by decide +kernel
theorem dX11_of_0 : decode cX11_of 0 = .ok (.iload_n 1, 1) := by decide +kernel
theorem dX11_of_1 : decode cX11_of 1 = .ok (.invokestatic 112, 3) := by decide +kernel
theorem dX11_of_4 : decode cX11_of 4 = .ok (.ifCond .eq 13, 3) := by decide +kernel
theorem dX11_of_7 : decode cX11_of 7 = .ok (.aload_n 0, 1) := by decide +kernel
theorem dX11_of_8 : decode cX11_of 8 = .ok (.iload_n 1, 1) := by decide +kernel
theorem dX11_of_9 : decode cX11_of 9 = .ok (.iload_n 2, 1) := by decide +kernel
theorem dX11_of_10 : decode cX11_of 10 = .ok (.invokevirtual 59, 3) := by decide +kernel
theorem dX11_of_13 : decode cX11_of 13 = .ok (.iconst (-1), 1) := by decide +kernel
theorem dX11_of_14 : decode cX11_of 14 = .ok (.if_icmp .ne 5, 3) := by decide +kernel
theorem dX11_of_17 : decode cX11_of 17 = .ok (.iconst (-1), 1) := by decide +kernel
theorem dX11_of_18 : decode cX11_of 18 = .ok (.ireturn, 1) := by decide +kernel
theorem dX11_of_19 : decode cX11_of 19 = .ok (.aload_n 0, 1) := by decide +kernel
theorem dX11_of_20 : decode cX11_of 20 = .ok (.iload_n 1, 1) := by decide +kernel
theorem dX11_of_21 : decode cX11_of 21 = .ok (.invokevirtual 194, 3) := by decide +kernel
theorem dX11_of_24 : decode cX11_of 24 = .ok (.aload_n 0, 1) := by decide +kernel
theorem dX11_of_25 : decode cX11_of 25 = .ok (.iload_n 1, 1) := by decide +kernel
theorem dX11_of_26 : decode cX11_of 26 = .ok (.iload_n 2, 1) := by decide +kernel
theorem dX11_of_27 : decode cX11_of 27 = .ok (.invokevirtual 59, 3) := by decide +kernel
theorem dX11_of_30 : decode cX11_of 30 = .ok (.istore 4, 2) := by decide +kernel
theorem dX11_of_32 : decode cX11_of 32 = .ok (.aload_n 0, 1) := by decide +kernel
theorem dX11_of_33 : decode cX11_of 33 = .ok (.iload 4, 2) := by decide +kernel
theorem dX11_of_35 : decode cX11_of 35 = .ok (.invokevirtual 85, 3) := by decide +kernel
theorem dX11_of_38 : decode cX11_of 38 = .ok (.iload_n 3, 1) := by decide +kernel
theorem dX11_of_39 : decode cX11_of 39 = .ok (.tableswitch 119 0 7 #[45, 48, 56, 61, 70, 87, 104, 109], 45) := by decide +kernel
theorem dX11_of_84 : decode cX11_of 84 = .ok (.iload 4, 2) := by decide +kernel
theorem dX11_of_86 : decode cX11_of 86 = .ok (.ireturn, 1) := by decide +kernel
theorem dX11_of_87 : decode cX11_of 87 = .ok (.aload_n 0, 1) := by decide +kernel
theorem dX11_of_88 : decode cX11_of 88 = .ok (.iload_n 1, 1) := by decide +kernel
theorem dX11_of_89 : decode cX11_of 89 = .ok (.iload 4, 2) := by decide +kernel
theorem dX11_of_91 : decode cX11_of 91 = .ok (.invokevirtual 134, 3) := by decide +kernel
theorem dX11_of_94 : decode cX11_of 94 = .ok (.ireturn, 1) := by decide +kernel
theorem dX11_of_95 : decode cX11_of 95 = .ok (.aload_n 0, 1) := by decide +kernel
theorem dX11_of_96 : decode cX11_of 96 = .ok (.getfield 79, 3) := by decide +kernel
theorem dX11_of_99 : decode cX11_of 99 = .ok (.ireturn, 1) := by decide +kernel
theorem dX11_of_100 : decode cX11_of 100 = .ok (.aload_n 0, 1) := by decide +kernel
theorem dX11_of_101 : decode cX11_of 101 = .ok (.aload_n 0, 1) := by decide +kernel
theorem dX11_of_102 : decode cX11_of 102 = .ok (.getfield 76, 3) := by decide +kernel
theorem dX11_of_105 : decode cX11_of 105 = .ok (.invokevirtual 206, 3) := by decide +kernel
theorem dX11_of_108 : decode cX11_of 108 = .ok (.ireturn, 1) := by decide +kernel
theorem dX11_of_109 : decode cX11_of 109 = .ok (.aload_n 0, 1) := by decide +kernel
theorem dX11_of_110 : decode cX11_of 110 = .ok (.aload_n 0, 1) := by decide +kernel
theorem dX11_of_111 : decode cX11_of 111 = .ok (.aload_n 0, 1) := by decide +kernel
theorem dX11_of_112 : decode cX11_of 112 = .ok (.getfield 70, 3) := by decide +kernel
theorem dX11_of_115 : decode cX11_of 115 = .ok (.iload 4, 2) := by decide +kernel
theorem dX11_of_117 : decode cX11_of 117 = .ok (.iconst 1, 1) := by decide +kernel
theorem dX11_of_118 : decode cX11_of 118 = .ok (.isub, 1) := by decide +kernel
theorem dX11_of_119 : decode cX11_of 119 = .ok (.invokevirtual 82, 3) := by decide +kernel
theorem dX11_of_122 : decode cX11_of 122 = .ok (.invokevirtual 206, 3) := by decide +kernel
theorem dX11_of_125 : decode cX11_of 125 = .ok (.ireturn, 1) := by decide +kernel
theorem dX11_of_126 : decode cX11_of 126 = .ok (.aload_n 0, 1) := by decide +kernel
theorem dX11_of_127 : decode cX11_of 127 = .ok (.aload_n 0, 1) := by decide +kernel
theorem dX11_of_128 : decode cX11_of 128 = .ok (.iload 4, 2) := by decide +kernel
theorem dX11_of_130 : decode cX11_of 130 = .ok (.iconst 1, 1) := by decide +kernel
theorem dX11_of_131 : decode cX11_of 131 = .ok (.iadd, 1) := by decide +kernel
theorem dX11_of_132 : decode cX11_of 132 = .ok (.aload_n 0, 1) := by decide +kernel
theorem dX11_of_133 : decode cX11_of 133 = .ok (.getfield 73, 3) := by decide +kernel
theorem dX11_of_136 : decode cX11_of 136 = .ok (.invokevirtual 82, 3) := by decide +kernel
theorem dX11_of_139 : decode cX11_of 139 = .ok (.invokevirtual 206, 3) := by decide +kernel
theorem dX11_of_142 : decode cX11_of 142 = .ok (.ireturn, 1) := by decide +kernel
theorem dX11_of_143 : decode cX11_of 143 = .ok (.iload_n 2, 1) := by decide +kernel
theorem dX11_of_144 : decode cX11_of 144 = .ok (.invokestatic 67, 3) := by decide +kernel
theorem dX11_of_147 : decode cX11_of 147 = .ok (.ireturn, 1) := by decide +kernel
theorem dX11_of_148 : decode cX11_of 148 = .ok (.aload_n 0, 1) := by decide +kernel
theorem dX11_of_149 : decode cX11_of 149 = .ok (.getfield 73, 3) := by decide +kernel
theorem dX11_of_152 : decode cX11_of 152 = .ok (.aload_n 0, 1) := by decide +kernel
theorem dX11_of_153 : decode cX11_of 153 = .ok (.getfield 70, 3) := by decide +kernel
theorem dX11_of_156 : decode cX11_of 156 = .ok (.isub, 1) := by decide +kernel
theorem dX11_of_157 : decode cX11_of 157 = .ok (.ireturn, 1) := by decide +kernel
theorem dX11_of_158 : decode cX11_of 158 = .ok (.iconst (-1), 1) := by decide +kernel
theorem dX11_of_159 : decode cX11_of 159 = .ok (.ireturn, 1) := by decide +kernel
theorem dX11_within_0 : decode cX11_within 0 = .ok (.iload_n 1, 1) := by decide +kernel
theorem dX11_within_1 : decode cX11_within 1 = .ok (.invokestatic 112, 3) := by decide +kernel
theorem dX11_within_4 : decode cX11_within 4 = .ok (.ifCond .ne 5, 3) := by decide +kernel
theorem dX11_within_7 : decode cX11_within 7 = .ok (.iconst (-1), 1) := by decide +kernel
theorem dX11_within_8 : decode cX11_within 8 = .ok (.ireturn, 1) := by decide +kernel
theorem dX11_within_9 : decode cX11_within 9 = .ok (.iconst 0, 1) := by decide +kernel
theorem dX11_within_10 : decode cX11_within 10 = .ok (.istore 5, 2) := by decide +kernel
theorem dX11_within_12 : decode cX11_within 12 = .ok (.iconst 0, 1) := by decide +kernel
theorem dX11_within_13 : decode cX11_within 13 = .ok (.istore 6, 2) := by decide +kernel
theorem dX11_within_15 : decode cX11_within 15 = .ok (.iload 6, 2) := by decide +kernel
theorem dX11_within_17 : decode cX11_within 17 = .ok (.aload_n 0, 1) := by decide +kernel
theorem dX11_within_18 : decode cX11_within 18 = .ok (.iload_n 1, 1) := by decide +kernel
theorem dX11_within_19 : decode cX11_within 19 = .ok (.invokevirtual 44, 3) := by decide +kernel
theorem dX11_within_22 : decode cX11_within 22 = .ok (.if_icmp .ge 50, 3) := by decide +kernel
theorem dX11_within_25 : decode cX11_within 25 = .ok (.iload 5, 2) := by decide +kernel
theorem dX11_within_27 : decode cX11_within 27 = .ok (.aload_n 0, 1) := by decide +kernel
theorem dX11_within_28 : decode cX11_within 28 = .ok (.iload_n 1, 1) := by decide +kernel
theorem dX11_within_29 : decode cX11_within 29 = .ok (.iload 6, 2) := by decide +kernel
theorem dX11_within_31 : decode cX11_within 31 = .ok (.invokevirtual 48, 3) := by decide +kernel
theorem dX11_within_34 : decode cX11_within 34 = .ok (.iload_n 2, 1) := by decide +kernel
theorem dX11_within_35 : decode cX11_within 35 = .ok (.iload_n 3, 1) := by decide +kernel
theorem dX11_within_36 : decode cX11_within 36 = .ok (.invokestatic 37, 3) := by decide +kernel
theorem dX11_within_39 : decode cX11_within 39 = .ok (.ifCond .eq 23, 3) := by decide +kernel
theorem dX11_within_42 : decode cX11_within 42 = .ok (.iload 4, 2) := by decide +kernel
theorem dX11_within_44 : decode cX11_within 44 = .ok (.ifCond .eq 14, 3) := by decide +kernel
theorem dX11_within_47 : decode cX11_within 47 = .ok (.aload_n 0, 1) := by decide +kernel
theorem dX11_within_48 : decode cX11_within 48 = .ok (.iload_n 1, 1) := by decide +kernel
theorem dX11_within_49 : decode cX11_within 49 = .ok (.iload 6, 2) := by decide +kernel
theorem dX11_within_51 : decode cX11_within 51 = .ok (.invokevirtual 134, 3) := by decide +kernel
theorem dX11_within_54 : decode cX11_within 54 = .ok (.iconst 1, 1) := by decide +kernel
theorem dX11_within_55 : decode cX11_within 55 = .ok (.if_icmp .ne 7, 3) := by decide +kernel
theorem dX11_within_58 : decode cX11_within 58 = .ok (.iconst 1, 1) := by decide +kernel
theorem dX11_within_59 : decode cX11_within 59 = .ok (.goto 4, 3) := by decide +kernel
theorem dX11_within_62 : decode cX11_within 62 = .ok (.iconst 0, 1) := by decide +kernel
theorem dX11_within_63 : decode cX11_within 63 = .ok (.iadd, 1) := by decide +kernel
theorem dX11_within_64 : decode cX11_within 64 = .ok (.istore 5, 2) := by decide +kernel
theorem dX11_within_66 : decode cX11_within 66 = .ok (.iinc 6 1, 3) := by decide +kernel
theorem dX11_within_69 : decode cX11_within 69 = .ok (.goto (-54), 3) := by decide +kernel
theorem dX11_within_72 : decode cX11_within 72 = .ok (.iload 5, 2) := by decide +kernel
theorem dX11_within_74 : decode cX11_within 74 = .ok (.ireturn, 1) := by decide +kernel
theorem dX11_far_0 : decode cX11_far 0 = .ok (.iload_n 1, 1) := by decide +kernel
theorem dX11_far_1 : decode cX11_far 1 = .ok (.invokestatic 112, 3) := by decide +kernel
theorem dX11_far_4 : decode cX11_far 4 = .ok (.ifCond .eq 23, 3) := by decide +kernel
theorem dX11_far_7 : decode cX11_far 7 = .ok (.aload_n 0, 1) := by decide +kernel
theorem dX11_far_8 : decode cX11_far 8 = .ok (.iload_n 1, 1) := by decide +kernel
theorem dX11_far_9 : decode cX11_far 9 = .ok (.iload_n 2, 1) := by decide +kernel
theorem dX11_far_10 : decode cX11_far 10 = .ok (.invokevirtual 59, 3) := by decide +kernel
theorem dX11_far_13 : decode cX11_far 13 = .ok (.iconst (-1), 1) := by decide +kernel
theorem dX11_far_14 : decode cX11_far 14 = .ok (.if_icmp .eq 13, 3) := by decide +kernel
theorem dX11_far_17 : decode cX11_far 17 = .ok (.aload_n 0, 1) := by decide +kernel
theorem dX11_far_18 : decode cX11_far 18 = .ok (.iload_n 1, 1) := by decide +kernel
theorem dX11_far_19 : decode cX11_far 19 = .ok (.iload_n 3, 1) := by decide +kernel
theorem dX11_far_20 : decode cX11_far 20 = .ok (.invokevirtual 59, 3) := by decide +kernel
theorem dX11_far_23 : decode cX11_far 23 = .ok (.iconst (-1), 1) := by decide +kernel
theorem dX11_far_24 : decode cX11_far 24 = .ok (.if_icmp .ne 5, 3) := by decide +kernel
theorem dX11_far_27 : decode cX11_far 27 = .ok (.iconst (-1), 1) := by decide +kernel
theorem dX11_far_28 : decode cX11_far 28 = .ok (.ireturn, 1) := by decide +kernel
theorem dX11_far_29 : decode cX11_far 29 = .ok (.aload_n 0, 1) := by decide +kernel
theorem dX11_far_30 : decode cX11_far 30 = .ok (.iload_n 1, 1) := by decide +kernel
theorem dX11_far_31 : decode cX11_far 31 = .ok (.invokevirtual 194, 3) := by decide +kernel
theorem dX11_far_34 : decode cX11_far 34 = .ok (.aload_n 0, 1) := by decide +kernel
theorem dX11_far_35 : decode cX11_far 35 = .ok (.aload_n 0, 1) := by decide +kernel
theorem dX11_far_36 : decode cX11_far 36 = .ok (.iload_n 1, 1) := by decide +kernel
theorem dX11_far_37 : decode cX11_far 37 = .ok (.iload_n 2, 1) := by decide +kernel
theorem dX11_far_38 : decode cX11_far 38 = .ok (.invokevirtual 59, 3) := by decide +kernel
theorem dX11_far_41 : decode cX11_far 41 = .ok (.aload_n 0, 1) := by decide +kernel
theorem dX11_far_42 : decode cX11_far 42 = .ok (.iload_n 1, 1) := by decide +kernel
theorem dX11_far_43 : decode cX11_far 43 = .ok (.iload_n 3, 1) := by decide +kernel
theorem dX11_far_44 : decode cX11_far 44 = .ok (.invokevirtual 59, 3) := by decide +kernel
theorem dX11_far_47 : decode cX11_far 47 = .ok (.invokevirtual 197, 3) := by decide +kernel
theorem dX11_far_50 : decode cX11_far 50 = .ok (.ireturn, 1) := by decide +kernel
theorem dX11_where_0 : decode cX11_where 0 = .ok (.iconst 0, 1) := by decide +kernel
theorem dX11_where_1 : decode cX11_where 1 = .ok (.istore_n 2, 1) := by decide +kernel
theorem dX11_where_2 : decode cX11_where 2 = .ok (.iconst 0, 1) := by decide +kernel
theorem dX11_where_3 : decode cX11_where 3 = .ok (.istore_n 3, 1) := by decide +kernel
theorem dX11_where_4 : decode cX11_where 4 = .ok (.iload_n 3, 1) := by decide +kernel
theorem dX11_where_5 : decode cX11_where 5 = .ok (.bipush 8, 2) := by decide +kernel
theorem dX11_where_7 : decode cX11_where 7 = .ok (.if_icmp .ge 29, 3) := by decide +kernel
theorem dX11_where_10 : decode cX11_where 10 = .ok (.iload_n 2, 1) := by decide +kernel
theorem dX11_where_11 : decode cX11_where 11 = .ok (.aload_n 0, 1) := by decide +kernel
theorem dX11_where_12 : decode cX11_where 12 = .ok (.iload_n 3, 1) := by decide +kernel
theorem dX11_where_13 : decode cX11_where 13 = .ok (.iload_n 1, 1) := by decide +kernel
theorem dX11_where_14 : decode cX11_where 14 = .ok (.invokevirtual 59, 3) := by decide +kernel
theorem dX11_where_17 : decode cX11_where 17 = .ok (.iconst (-1), 1) := by decide +kernel
theorem dX11_where_18 : decode cX11_where 18 = .ok (.if_icmp .eq 9, 3) := by decide +kernel
theorem dX11_where_21 : decode cX11_where 21 = .ok (.iconst 1, 1) := by decide +kernel
theorem dX11_where_22 : decode cX11_where 22 = .ok (.iload_n 3, 1) := by decide +kernel
theorem dX11_where_23 : decode cX11_where 23 = .ok (.ishl, 1) := by decide +kernel
theorem dX11_where_24 : decode cX11_where 24 = .ok (.goto 4, 3) := by decide +kernel
theorem dX11_where_27 : decode cX11_where 27 = .ok (.iconst 0, 1) := by decide +kernel
theorem dX11_where_28 : decode cX11_where 28 = .ok (.ior, 1) := by decide +kernel
theorem dX11_where_29 : decode cX11_where 29 = .ok (.istore_n 2, 1) := by decide +kernel
theorem dX11_where_30 : decode cX11_where 30 = .ok (.iinc 3 1, 3) := by decide +kernel
theorem dX11_where_33 : decode cX11_where 33 = .ok (.goto (-29), 3) := by decide +kernel
theorem dX11_where_36 : decode cX11_where 36 = .ok (.iload_n 2, 1) := by decide +kernel
theorem dX11_where_37 : decode cX11_where 37 = .ok (.ireturn, 1) := by decide +kernel
theorem dX11_unlike_0 : decode cX11_unlike 0 = .ok (.iconst 0, 1) := by decide +kernel
theorem dX11_unlike_1 : decode cX11_unlike 1 = .ok (.istore_n 1, 1) := by decide +kernel
theorem dX11_unlike_2 : decode cX11_unlike 2 = .ok (.iconst 0, 1) := by decide +kernel
theorem dX11_unlike_3 : decode cX11_unlike 3 = .ok (.istore_n 2, 1) := by decide +kernel
theorem dX11_unlike_4 : decode cX11_unlike 4 = .ok (.iload_n 2, 1) := by decide +kernel
theorem dX11_unlike_5 : decode cX11_unlike 5 = .ok (.bipush 8, 2) := by decide +kernel
theorem dX11_unlike_7 : decode cX11_unlike 7 = .ok (.if_icmp .ge 53, 3) := by decide +kernel
theorem dX11_unlike_10 : decode cX11_unlike 10 = .ok (.iconst 0, 1) := by decide +kernel
theorem dX11_unlike_11 : decode cX11_unlike 11 = .ok (.istore_n 3, 1) := by decide +kernel
theorem dX11_unlike_12 : decode cX11_unlike 12 = .ok (.iload_n 3, 1) := by decide +kernel
theorem dX11_unlike_13 : decode cX11_unlike 13 = .ok (.aload_n 0, 1) := by decide +kernel
theorem dX11_unlike_14 : decode cX11_unlike 14 = .ok (.iload_n 2, 1) := by decide +kernel
theorem dX11_unlike_15 : decode cX11_unlike 15 = .ok (.invokevirtual 44, 3) := by decide +kernel
theorem dX11_unlike_18 : decode cX11_unlike 18 = .ok (.if_icmp .ge 36, 3) := by decide +kernel
theorem dX11_unlike_21 : decode cX11_unlike 21 = .ok (.iload_n 1, 1) := by decide +kernel
theorem dX11_unlike_22 : decode cX11_unlike 22 = .ok (.aload_n 0, 1) := by decide +kernel
theorem dX11_unlike_23 : decode cX11_unlike 23 = .ok (.aload_n 0, 1) := by decide +kernel
theorem dX11_unlike_24 : decode cX11_unlike 24 = .ok (.iload_n 2, 1) := by decide +kernel
theorem dX11_unlike_25 : decode cX11_unlike 25 = .ok (.iload_n 3, 1) := by decide +kernel
theorem dX11_unlike_26 : decode cX11_unlike 26 = .ok (.invokevirtual 48, 3) := by decide +kernel
theorem dX11_unlike_29 : decode cX11_unlike 29 = .ok (.invokevirtual 209, 3) := by decide +kernel
theorem dX11_unlike_32 : decode cX11_unlike 32 = .ok (.iconst 1, 1) := by decide +kernel
theorem dX11_unlike_33 : decode cX11_unlike 33 = .ok (.iload_n 2, 1) := by decide +kernel
theorem dX11_unlike_34 : decode cX11_unlike 34 = .ok (.ishl, 1) := by decide +kernel
theorem dX11_unlike_35 : decode cX11_unlike 35 = .ok (.iconst 1, 1) := by decide +kernel
theorem dX11_unlike_36 : decode cX11_unlike 36 = .ok (.isub, 1) := by decide +kernel
theorem dX11_unlike_37 : decode cX11_unlike 37 = .ok (.iand, 1) := by decide +kernel
theorem dX11_unlike_38 : decode cX11_unlike 38 = .ok (.ifCond .ne 7, 3) := by decide +kernel
theorem dX11_unlike_41 : decode cX11_unlike 41 = .ok (.iconst 1, 1) := by decide +kernel
theorem dX11_unlike_42 : decode cX11_unlike 42 = .ok (.goto 4, 3) := by decide +kernel
theorem dX11_unlike_45 : decode cX11_unlike 45 = .ok (.iconst 0, 1) := by decide +kernel
theorem dX11_unlike_46 : decode cX11_unlike 46 = .ok (.iadd, 1) := by decide +kernel
theorem dX11_unlike_47 : decode cX11_unlike 47 = .ok (.istore_n 1, 1) := by decide +kernel
theorem dX11_unlike_48 : decode cX11_unlike 48 = .ok (.iinc 3 1, 3) := by decide +kernel
theorem dX11_unlike_51 : decode cX11_unlike 51 = .ok (.goto (-39), 3) := by decide +kernel
theorem dX11_unlike_54 : decode cX11_unlike 54 = .ok (.iinc 2 1, 3) := by decide +kernel
theorem dX11_unlike_57 : decode cX11_unlike 57 = .ok (.goto (-53), 3) := by decide +kernel
theorem dX11_unlike_60 : decode cX11_unlike 60 = .ok (.iload_n 1, 1) := by decide +kernel
theorem dX11_unlike_61 : decode cX11_unlike 61 = .ok (.ireturn, 1) := by decide +kernel
theorem dX11_fewest_0 : decode cX11_fewest 0 = .ok (.iconst (-1), 1) := by decide +kernel
theorem dX11_fewest_1 : decode cX11_fewest 1 = .ok (.istore_n 2, 1) := by decide +kernel
theorem dX11_fewest_2 : decode cX11_fewest 2 = .ok (.iconst 0, 1) := by decide +kernel
theorem dX11_fewest_3 : decode cX11_fewest 3 = .ok (.istore_n 3, 1) := by decide +kernel
theorem dX11_fewest_4 : decode cX11_fewest 4 = .ok (.iload_n 3, 1) := by decide +kernel
theorem dX11_fewest_5 : decode cX11_fewest 5 = .ok (.bipush 8, 2) := by decide +kernel
theorem dX11_fewest_7 : decode cX11_fewest 7 = .ok (.if_icmp .ge 45, 3) := by decide +kernel
theorem dX11_fewest_10 : decode cX11_fewest 10 = .ok (.iload_n 3, 1) := by decide +kernel
theorem dX11_fewest_11 : decode cX11_fewest 11 = .ok (.iload_n 1, 1) := by decide +kernel
theorem dX11_fewest_12 : decode cX11_fewest 12 = .ok (.if_icmp .eq 34, 3) := by decide +kernel
theorem dX11_fewest_15 : decode cX11_fewest 15 = .ok (.aload_n 0, 1) := by decide +kernel
theorem dX11_fewest_16 : decode cX11_fewest 16 = .ok (.getfield 30, 3) := by decide +kernel
theorem dX11_fewest_19 : decode cX11_fewest 19 = .ok (.iload_n 3, 1) := by decide +kernel
theorem dX11_fewest_20 : decode cX11_fewest 20 = .ok (.iaload, 1) := by decide +kernel
theorem dX11_fewest_21 : decode cX11_fewest 21 = .ok (.ifCond .le 25, 3) := by decide +kernel
theorem dX11_fewest_24 : decode cX11_fewest 24 = .ok (.iload_n 2, 1) := by decide +kernel
theorem dX11_fewest_25 : decode cX11_fewest 25 = .ok (.iconst (-1), 1) := by decide +kernel
theorem dX11_fewest_26 : decode cX11_fewest 26 = .ok (.if_icmp .eq 18, 3) := by decide +kernel
theorem dX11_fewest_29 : decode cX11_fewest 29 = .ok (.aload_n 0, 1) := by decide +kernel
theorem dX11_fewest_30 : decode cX11_fewest 30 = .ok (.getfield 30, 3) := by decide +kernel
theorem dX11_fewest_33 : decode cX11_fewest 33 = .ok (.iload_n 3, 1) := by decide +kernel
theorem dX11_fewest_34 : decode cX11_fewest 34 = .ok (.iaload, 1) := by decide +kernel
theorem dX11_fewest_35 : decode cX11_fewest 35 = .ok (.aload_n 0, 1) := by decide +kernel
theorem dX11_fewest_36 : decode cX11_fewest 36 = .ok (.getfield 30, 3) := by decide +kernel
theorem dX11_fewest_39 : decode cX11_fewest 39 = .ok (.iload_n 2, 1) := by decide +kernel
theorem dX11_fewest_40 : decode cX11_fewest 40 = .ok (.iaload, 1) := by decide +kernel
theorem dX11_fewest_41 : decode cX11_fewest 41 = .ok (.if_icmp .ge 5, 3) := by decide +kernel
theorem dX11_fewest_44 : decode cX11_fewest 44 = .ok (.iload_n 3, 1) := by decide +kernel
theorem dX11_fewest_45 : decode cX11_fewest 45 = .ok (.istore_n 2, 1) := by decide +kernel
theorem dX11_fewest_46 : decode cX11_fewest 46 = .ok (.iinc 3 1, 3) := by decide +kernel
theorem dX11_fewest_49 : decode cX11_fewest 49 = .ok (.goto (-45), 3) := by decide +kernel
theorem dX11_fewest_52 : decode cX11_fewest 52 = .ok (.iload_n 2, 1) := by decide +kernel
theorem dX11_fewest_53 : decode cX11_fewest 53 = .ok (.ireturn, 1) := by decide +kernel
theorem dX11_huffman_0 : decode cX11_huffman 0 = .ok (.iconst 0, 1) := by decide +kernel
theorem dX11_huffman_1 : decode cX11_huffman 1 = .ok (.istore_n 1, 1) := by decide +kernel
theorem dX11_huffman_2 : decode cX11_huffman 2 = .ok (.iload_n 1, 1) := by decide +kernel
theorem dX11_huffman_3 : decode cX11_huffman 3 = .ok (.bipush 8, 2) := by decide +kernel
theorem dX11_huffman_5 : decode cX11_huffman 5 = .ok (.if_icmp .ge 20, 3) := by decide +kernel
theorem dX11_huffman_8 : decode cX11_huffman 8 = .ok (.aload_n 0, 1) := by decide +kernel
theorem dX11_huffman_9 : decode cX11_huffman 9 = .ok (.getfield 30, 3) := by decide +kernel
theorem dX11_huffman_12 : decode cX11_huffman 12 = .ok (.iload_n 1, 1) := by decide +kernel
theorem dX11_huffman_13 : decode cX11_huffman 13 = .ok (.aload_n 0, 1) := by decide +kernel
theorem dX11_huffman_14 : decode cX11_huffman 14 = .ok (.iload_n 1, 1) := by decide +kernel
theorem dX11_huffman_15 : decode cX11_huffman 15 = .ok (.invokevirtual 44, 3) := by decide +kernel
theorem dX11_huffman_18 : decode cX11_huffman 18 = .ok (.iastore, 1) := by decide +kernel
theorem dX11_huffman_19 : decode cX11_huffman 19 = .ok (.iinc 1 1, 3) := by decide +kernel
theorem dX11_huffman_22 : decode cX11_huffman 22 = .ok (.goto (-20), 3) := by decide +kernel
theorem dX11_huffman_25 : decode cX11_huffman 25 = .ok (.iconst 0, 1) := by decide +kernel
theorem dX11_huffman_26 : decode cX11_huffman 26 = .ok (.istore_n 1, 1) := by decide +kernel
theorem dX11_huffman_27 : decode cX11_huffman 27 = .ok (.aload_n 0, 1) := by decide +kernel
theorem dX11_huffman_28 : decode cX11_huffman 28 = .ok (.iconst (-1), 1) := by decide +kernel
theorem dX11_huffman_29 : decode cX11_huffman 29 = .ok (.invokevirtual 212, 3) := by decide +kernel
theorem dX11_huffman_32 : decode cX11_huffman 32 = .ok (.istore_n 2, 1) := by decide +kernel
theorem dX11_huffman_33 : decode cX11_huffman 33 = .ok (.aload_n 0, 1) := by decide +kernel
theorem dX11_huffman_34 : decode cX11_huffman 34 = .ok (.iload_n 2, 1) := by decide +kernel
theorem dX11_huffman_35 : decode cX11_huffman 35 = .ok (.invokevirtual 212, 3) := by decide +kernel
theorem dX11_huffman_38 : decode cX11_huffman 38 = .ok (.istore_n 3, 1) := by decide +kernel
theorem dX11_huffman_39 : decode cX11_huffman 39 = .ok (.iload_n 2, 1) := by decide +kernel
theorem dX11_huffman_40 : decode cX11_huffman 40 = .ok (.iconst (-1), 1) := by decide +kernel
theorem dX11_huffman_41 : decode cX11_huffman 41 = .ok (.if_icmp .eq 74, 3) := by decide +kernel
theorem dX11_huffman_44 : decode cX11_huffman 44 = .ok (.iload_n 3, 1) := by decide +kernel
theorem dX11_huffman_45 : decode cX11_huffman 45 = .ok (.iconst (-1), 1) := by decide +kernel
theorem dX11_huffman_46 : decode cX11_huffman 46 = .ok (.if_icmp .eq 69, 3) := by decide +kernel
theorem dX11_huffman_49 : decode cX11_huffman 49 = .ok (.aload_n 0, 1) := by decide +kernel
theorem dX11_huffman_50 : decode cX11_huffman 50 = .ok (.getfield 30, 3) := by decide +kernel
theorem dX11_huffman_53 : decode cX11_huffman 53 = .ok (.iload_n 2, 1) := by decide +kernel
theorem dX11_huffman_54 : decode cX11_huffman 54 = .ok (.iaload, 1) := by decide +kernel
theorem dX11_huffman_55 : decode cX11_huffman 55 = .ok (.aload_n 0, 1) := by decide +kernel
theorem dX11_huffman_56 : decode cX11_huffman 56 = .ok (.getfield 30, 3) := by decide +kernel
theorem dX11_huffman_59 : decode cX11_huffman 59 = .ok (.iload_n 3, 1) := by decide +kernel
theorem dX11_huffman_60 : decode cX11_huffman 60 = .ok (.iaload, 1) := by decide +kernel
theorem dX11_huffman_61 : decode cX11_huffman 61 = .ok (.iadd, 1) := by decide +kernel
theorem dX11_huffman_62 : decode cX11_huffman 62 = .ok (.istore 4, 2) := by decide +kernel
theorem dX11_huffman_64 : decode cX11_huffman 64 = .ok (.aload_n 0, 1) := by decide +kernel
theorem dX11_huffman_65 : decode cX11_huffman 65 = .ok (.getfield 30, 3) := by decide +kernel
theorem dX11_huffman_68 : decode cX11_huffman 68 = .ok (.iload_n 2, 1) := by decide +kernel
theorem dX11_huffman_69 : decode cX11_huffman 69 = .ok (.iconst 0, 1) := by decide +kernel
theorem dX11_huffman_70 : decode cX11_huffman 70 = .ok (.iastore, 1) := by decide +kernel
theorem dX11_huffman_71 : decode cX11_huffman 71 = .ok (.aload_n 0, 1) := by decide +kernel
theorem dX11_huffman_72 : decode cX11_huffman 72 = .ok (.getfield 30, 3) := by decide +kernel
theorem dX11_huffman_75 : decode cX11_huffman 75 = .ok (.iload_n 3, 1) := by decide +kernel
theorem dX11_huffman_76 : decode cX11_huffman 76 = .ok (.iconst 0, 1) := by decide +kernel
theorem dX11_huffman_77 : decode cX11_huffman 77 = .ok (.iastore, 1) := by decide +kernel
theorem dX11_huffman_78 : decode cX11_huffman 78 = .ok (.aload_n 0, 1) := by decide +kernel
theorem dX11_huffman_79 : decode cX11_huffman 79 = .ok (.getfield 30, 3) := by decide +kernel
theorem dX11_huffman_82 : decode cX11_huffman 82 = .ok (.iload_n 2, 1) := by decide +kernel
theorem dX11_huffman_83 : decode cX11_huffman 83 = .ok (.iload_n 3, 1) := by decide +kernel
theorem dX11_huffman_84 : decode cX11_huffman 84 = .ok (.if_icmp .ge 7, 3) := by decide +kernel
theorem dX11_huffman_87 : decode cX11_huffman 87 = .ok (.iload_n 2, 1) := by decide +kernel
theorem dX11_huffman_88 : decode cX11_huffman 88 = .ok (.goto 4, 3) := by decide +kernel
theorem dX11_huffman_91 : decode cX11_huffman 91 = .ok (.iload_n 3, 1) := by decide +kernel
theorem dX11_huffman_92 : decode cX11_huffman 92 = .ok (.iload 4, 2) := by decide +kernel
theorem dX11_huffman_94 : decode cX11_huffman 94 = .ok (.iastore, 1) := by decide +kernel
theorem dX11_huffman_95 : decode cX11_huffman 95 = .ok (.iload_n 1, 1) := by decide +kernel
theorem dX11_huffman_96 : decode cX11_huffman 96 = .ok (.iload 4, 2) := by decide +kernel
theorem dX11_huffman_98 : decode cX11_huffman 98 = .ok (.iadd, 1) := by decide +kernel
theorem dX11_huffman_99 : decode cX11_huffman 99 = .ok (.istore_n 1, 1) := by decide +kernel
theorem dX11_huffman_100 : decode cX11_huffman 100 = .ok (.aload_n 0, 1) := by decide +kernel
theorem dX11_huffman_101 : decode cX11_huffman 101 = .ok (.iconst (-1), 1) := by decide +kernel
theorem dX11_huffman_102 : decode cX11_huffman 102 = .ok (.invokevirtual 212, 3) := by decide +kernel
theorem dX11_huffman_105 : decode cX11_huffman 105 = .ok (.istore_n 2, 1) := by decide +kernel
theorem dX11_huffman_106 : decode cX11_huffman 106 = .ok (.aload_n 0, 1) := by decide +kernel
theorem dX11_huffman_107 : decode cX11_huffman 107 = .ok (.iload_n 2, 1) := by decide +kernel
theorem dX11_huffman_108 : decode cX11_huffman 108 = .ok (.invokevirtual 212, 3) := by decide +kernel
theorem dX11_huffman_111 : decode cX11_huffman 111 = .ok (.istore_n 3, 1) := by decide +kernel
theorem dX11_huffman_112 : decode cX11_huffman 112 = .ok (.goto (-73), 3) := by decide +kernel
theorem dX11_huffman_115 : decode cX11_huffman 115 = .ok (.iload_n 1, 1) := by decide +kernel
theorem dX11_huffman_116 : decode cX11_huffman 116 = .ok (.ireturn, 1) := by decide +kernel
theorem dX11_count_0 : decode cX11_count 0 = .ok (.iconst 0, 1) := by decide +kernel
theorem dX11_count_1 : decode cX11_count 1 = .ok (.istore_n 2, 1) := by decide +kernel
theorem dX11_count_2 : decode cX11_count 2 = .ok (.iconst 0, 1) := by decide +kernel
theorem dX11_count_3 : decode cX11_count 3 = .ok (.istore_n 3, 1) := by decide +kernel
theorem dX11_count_4 : decode cX11_count 4 = .ok (.iconst 0, 1) := by decide +kernel
theorem dX11_count_5 : decode cX11_count 5 = .ok (.istore 4, 2) := by decide +kernel
theorem dX11_count_7 : decode cX11_count 7 = .ok (.iload 4, 2) := by decide +kernel
theorem dX11_count_9 : decode cX11_count 9 = .ok (.bipush 8, 2) := by decide +kernel
theorem dX11_count_11 : decode cX11_count 11 = .ok (.if_icmp .ge 36, 3) := by decide +kernel
theorem dX11_count_14 : decode cX11_count 14 = .ok (.iload_n 2, 1) := by decide +kernel
theorem dX11_count_15 : decode cX11_count 15 = .ok (.aload_n 0, 1) := by decide +kernel
theorem dX11_count_16 : decode cX11_count 16 = .ok (.iload 4, 2) := by decide +kernel
theorem dX11_count_18 : decode cX11_count 18 = .ok (.invokevirtual 44, 3) := by decide +kernel
theorem dX11_count_21 : decode cX11_count 21 = .ok (.ifCond .le 7, 3) := by decide +kernel
theorem dX11_count_24 : decode cX11_count 24 = .ok (.iconst 1, 1) := by decide +kernel
theorem dX11_count_25 : decode cX11_count 25 = .ok (.goto 4, 3) := by decide +kernel
theorem dX11_count_28 : decode cX11_count 28 = .ok (.iconst 0, 1) := by decide +kernel
theorem dX11_count_29 : decode cX11_count 29 = .ok (.iadd, 1) := by decide +kernel
theorem dX11_count_30 : decode cX11_count 30 = .ok (.istore_n 2, 1) := by decide +kernel
theorem dX11_count_31 : decode cX11_count 31 = .ok (.iload_n 3, 1) := by decide +kernel
theorem dX11_count_32 : decode cX11_count 32 = .ok (.aload_n 0, 1) := by decide +kernel
theorem dX11_count_33 : decode cX11_count 33 = .ok (.iload 4, 2) := by decide +kernel
theorem dX11_count_35 : decode cX11_count 35 = .ok (.iconst 3, 1) := by decide +kernel
theorem dX11_count_36 : decode cX11_count 36 = .ok (.invokevirtual 203, 3) := by decide +kernel
theorem dX11_count_39 : decode cX11_count 39 = .ok (.iadd, 1) := by decide +kernel
theorem dX11_count_40 : decode cX11_count 40 = .ok (.istore_n 3, 1) := by decide +kernel
theorem dX11_count_41 : decode cX11_count 41 = .ok (.iinc 4 1, 3) := by decide +kernel
theorem dX11_count_44 : decode cX11_count 44 = .ok (.goto (-37), 3) := by decide +kernel
theorem dX11_count_47 : decode cX11_count 47 = .ok (.iload_n 1, 1) := by decide +kernel
theorem dX11_count_48 : decode cX11_count 48 = .ok (.tableswitch 82 0 7 #[48, 53, 55, 60, 62, 67, 72, 77], 48) := by decide +kernel
theorem dX11_count_96 : decode cX11_count 96 = .ok (.aload_n 0, 1) := by decide +kernel
theorem dX11_count_97 : decode cX11_count 97 = .ok (.invokevirtual 119, 3) := by decide +kernel
theorem dX11_count_100 : decode cX11_count 100 = .ok (.ireturn, 1) := by decide +kernel
theorem dX11_count_101 : decode cX11_count 101 = .ok (.iload_n 2, 1) := by decide +kernel
theorem dX11_count_102 : decode cX11_count 102 = .ok (.ireturn, 1) := by decide +kernel
theorem dX11_count_103 : decode cX11_count 103 = .ok (.aload_n 0, 1) := by decide +kernel
theorem dX11_count_104 : decode cX11_count 104 = .ok (.invokevirtual 215, 3) := by decide +kernel
theorem dX11_count_107 : decode cX11_count 107 = .ok (.ireturn, 1) := by decide +kernel
theorem dX11_count_108 : decode cX11_count 108 = .ok (.iload_n 3, 1) := by decide +kernel
theorem dX11_count_109 : decode cX11_count 109 = .ok (.ireturn, 1) := by decide +kernel
theorem dX11_count_110 : decode cX11_count 110 = .ok (.aload_n 0, 1) := by decide +kernel
theorem dX11_count_111 : decode cX11_count 111 = .ok (.getfield 151, 3) := by decide +kernel
theorem dX11_count_114 : decode cX11_count 114 = .ok (.ireturn, 1) := by decide +kernel
theorem dX11_count_115 : decode cX11_count 115 = .ok (.aload_n 0, 1) := by decide +kernel
theorem dX11_count_116 : decode cX11_count 116 = .ok (.getfield 218, 3) := by decide +kernel
theorem dX11_count_119 : decode cX11_count 119 = .ok (.ireturn, 1) := by decide +kernel
theorem dX11_count_120 : decode cX11_count 120 = .ok (.aload_n 0, 1) := by decide +kernel
theorem dX11_count_121 : decode cX11_count 121 = .ok (.invokevirtual 221, 3) := by decide +kernel
theorem dX11_count_124 : decode cX11_count 124 = .ok (.ireturn, 1) := by decide +kernel
theorem dX11_count_125 : decode cX11_count 125 = .ok (.aload_n 0, 1) := by decide +kernel
theorem dX11_count_126 : decode cX11_count 126 = .ok (.getfield 224, 3) := by decide +kernel
theorem dX11_count_129 : decode cX11_count 129 = .ok (.ireturn, 1) := by decide +kernel
theorem dX11_count_130 : decode cX11_count 130 = .ok (.iconst (-1), 1) := by decide +kernel
theorem dX11_count_131 : decode cX11_count 131 = .ok (.ireturn, 1) := by decide +kernel
theorem dX11_pair_0 : decode cX11_pair 0 = .ok (.aload_n 0, 1) := by decide +kernel
theorem dX11_pair_1 : decode cX11_pair 1 = .ok (.iload_n 1, 1) := by decide +kernel
theorem dX11_pair_2 : decode cX11_pair 2 = .ok (.iload_n 2, 1) := by decide +kernel
theorem dX11_pair_3 : decode cX11_pair 3 = .ok (.invokevirtual 123, 3) := by decide +kernel
theorem dX11_pair_6 : decode cX11_pair 6 = .ok (.ifCond .ne 5, 3) := by decide +kernel
theorem dX11_pair_9 : decode cX11_pair 9 = .ok (.iconst (-1), 1) := by decide +kernel
theorem dX11_pair_10 : decode cX11_pair 10 = .ok (.ireturn, 1) := by decide +kernel
theorem dX11_pair_11 : decode cX11_pair 11 = .ok (.aload_n 0, 1) := by decide +kernel
theorem dX11_pair_12 : decode cX11_pair 12 = .ok (.iload_n 1, 1) := by decide +kernel
theorem dX11_pair_13 : decode cX11_pair 13 = .ok (.iload_n 2, 1) := by decide +kernel
theorem dX11_pair_14 : decode cX11_pair 14 = .ok (.invokevirtual 179, 3) := by decide +kernel
theorem dX11_pair_17 : decode cX11_pair 17 = .ok (.iload_n 3, 1) := by decide +kernel
theorem dX11_pair_18 : decode cX11_pair 18 = .ok (.tableswitch 115 0 6 #[42, 47, 54, 59, 80, 85, 100], 42) := by decide +kernel
theorem dX11_pair_60 : decode cX11_pair 60 = .ok (.aload_n 0, 1) := by decide +kernel
theorem dX11_pair_61 : decode cX11_pair 61 = .ok (.getfield 94, 3) := by decide +kernel
theorem dX11_pair_64 : decode cX11_pair 64 = .ok (.ireturn, 1) := by decide +kernel
theorem dX11_pair_65 : decode cX11_pair 65 = .ok (.aload_n 0, 1) := by decide +kernel
theorem dX11_pair_66 : decode cX11_pair 66 = .ok (.iload_n 1, 1) := by decide +kernel
theorem dX11_pair_67 : decode cX11_pair 67 = .ok (.iload_n 2, 1) := by decide +kernel
theorem dX11_pair_68 : decode cX11_pair 68 = .ok (.invokevirtual 131, 3) := by decide +kernel
theorem dX11_pair_71 : decode cX11_pair 71 = .ok (.ireturn, 1) := by decide +kernel
theorem dX11_pair_72 : decode cX11_pair 72 = .ok (.aload_n 0, 1) := by decide +kernel
theorem dX11_pair_73 : decode cX11_pair 73 = .ok (.getfield 100, 3) := by decide +kernel
theorem dX11_pair_76 : decode cX11_pair 76 = .ok (.ireturn, 1) := by decide +kernel
theorem dX11_pair_77 : decode cX11_pair 77 = .ok (.aload_n 0, 1) := by decide +kernel
theorem dX11_pair_78 : decode cX11_pair 78 = .ok (.iload_n 1, 1) := by decide +kernel
theorem dX11_pair_79 : decode cX11_pair 79 = .ok (.invokevirtual 44, 3) := by decide +kernel
theorem dX11_pair_82 : decode cX11_pair 82 = .ok (.aload_n 0, 1) := by decide +kernel
theorem dX11_pair_83 : decode cX11_pair 83 = .ok (.iload_n 2, 1) := by decide +kernel
theorem dX11_pair_84 : decode cX11_pair 84 = .ok (.invokevirtual 44, 3) := by decide +kernel
theorem dX11_pair_87 : decode cX11_pair 87 = .ok (.iadd, 1) := by decide +kernel
theorem dX11_pair_88 : decode cX11_pair 88 = .ok (.iconst 2, 1) := by decide +kernel
theorem dX11_pair_89 : decode cX11_pair 89 = .ok (.aload_n 0, 1) := by decide +kernel
theorem dX11_pair_90 : decode cX11_pair 90 = .ok (.iload_n 1, 1) := by decide +kernel
theorem dX11_pair_91 : decode cX11_pair 91 = .ok (.iload_n 2, 1) := by decide +kernel
theorem dX11_pair_92 : decode cX11_pair 92 = .ok (.invokevirtual 131, 3) := by decide +kernel
theorem dX11_pair_95 : decode cX11_pair 95 = .ok (.imul, 1) := by decide +kernel
theorem dX11_pair_96 : decode cX11_pair 96 = .ok (.isub, 1) := by decide +kernel
theorem dX11_pair_97 : decode cX11_pair 97 = .ok (.ireturn, 1) := by decide +kernel
theorem dX11_pair_98 : decode cX11_pair 98 = .ok (.aload_n 0, 1) := by decide +kernel
theorem dX11_pair_99 : decode cX11_pair 99 = .ok (.getfield 97, 3) := by decide +kernel
theorem dX11_pair_102 : decode cX11_pair 102 = .ok (.ireturn, 1) := by decide +kernel
theorem dX11_pair_103 : decode cX11_pair 103 = .ok (.aload_n 0, 1) := by decide +kernel
theorem dX11_pair_104 : decode cX11_pair 104 = .ok (.iload_n 1, 1) := by decide +kernel
theorem dX11_pair_105 : decode cX11_pair 105 = .ok (.iload_n 2, 1) := by decide +kernel
theorem dX11_pair_106 : decode cX11_pair 106 = .ok (.invokevirtual 173, 3) := by decide +kernel
theorem dX11_pair_109 : decode cX11_pair 109 = .ok (.ifCond .ne 7, 3) := by decide +kernel
theorem dX11_pair_112 : decode cX11_pair 112 = .ok (.iconst 1, 1) := by decide +kernel
theorem dX11_pair_113 : decode cX11_pair 113 = .ok (.goto 4, 3) := by decide +kernel
theorem dX11_pair_116 : decode cX11_pair 116 = .ok (.iconst 0, 1) := by decide +kernel
theorem dX11_pair_117 : decode cX11_pair 117 = .ok (.ireturn, 1) := by decide +kernel
theorem dX11_pair_118 : decode cX11_pair 118 = .ok (.aload_n 0, 1) := by decide +kernel
theorem dX11_pair_119 : decode cX11_pair 119 = .ok (.iload_n 1, 1) := by decide +kernel
theorem dX11_pair_120 : decode cX11_pair 120 = .ok (.iload_n 2, 1) := by decide +kernel
theorem dX11_pair_121 : decode cX11_pair 121 = .ok (.invokevirtual 176, 3) := by decide +kernel
theorem dX11_pair_124 : decode cX11_pair 124 = .ok (.ifCond .ne 7, 3) := by decide +kernel
theorem dX11_pair_127 : decode cX11_pair 127 = .ok (.iconst 1, 1) := by decide +kernel
theorem dX11_pair_128 : decode cX11_pair 128 = .ok (.goto 4, 3) := by decide +kernel
theorem dX11_pair_131 : decode cX11_pair 131 = .ok (.iconst 0, 1) := by decide +kernel
theorem dX11_pair_132 : decode cX11_pair 132 = .ok (.ireturn, 1) := by decide +kernel
theorem dX11_pair_133 : decode cX11_pair 133 = .ok (.iconst (-1), 1) := by decide +kernel
theorem dX11_pair_134 : decode cX11_pair 134 = .ok (.ireturn, 1) := by decide +kernel
theorem dX11_cheapest_0 : decode cX11_cheapest 0 = .ok (.iconst (-1), 1) := by decide +kernel
theorem dX11_cheapest_1 : decode cX11_cheapest 1 = .ok (.istore_n 2, 1) := by decide +kernel
theorem dX11_cheapest_2 : decode cX11_cheapest 2 = .ok (.iconst (-1), 1) := by decide +kernel
theorem dX11_cheapest_3 : decode cX11_cheapest 3 = .ok (.istore_n 3, 1) := by decide +kernel
theorem dX11_cheapest_4 : decode cX11_cheapest 4 = .ok (.iconst 0, 1) := by decide +kernel
theorem dX11_cheapest_5 : decode cX11_cheapest 5 = .ok (.istore 4, 2) := by decide +kernel
theorem dX11_cheapest_7 : decode cX11_cheapest 7 = .ok (.iconst 0, 1) := by decide +kernel
theorem dX11_cheapest_8 : decode cX11_cheapest 8 = .ok (.istore 5, 2) := by decide +kernel
theorem dX11_cheapest_10 : decode cX11_cheapest 10 = .ok (.iload 5, 2) := by decide +kernel
theorem dX11_cheapest_12 : decode cX11_cheapest 12 = .ok (.bipush 8, 2) := by decide +kernel
theorem dX11_cheapest_14 : decode cX11_cheapest 14 = .ok (.if_icmp .ge 88, 3) := by decide +kernel
theorem dX11_cheapest_17 : decode cX11_cheapest 17 = .ok (.iload 5, 2) := by decide +kernel
theorem dX11_cheapest_19 : decode cX11_cheapest 19 = .ok (.iconst 1, 1) := by decide +kernel
theorem dX11_cheapest_20 : decode cX11_cheapest 20 = .ok (.iadd, 1) := by decide +kernel
theorem dX11_cheapest_21 : decode cX11_cheapest 21 = .ok (.istore 6, 2) := by decide +kernel
theorem dX11_cheapest_23 : decode cX11_cheapest 23 = .ok (.iload 6, 2) := by decide +kernel
theorem dX11_cheapest_25 : decode cX11_cheapest 25 = .ok (.bipush 8, 2) := by decide +kernel
theorem dX11_cheapest_27 : decode cX11_cheapest 27 = .ok (.if_icmp .ge 69, 3) := by decide +kernel
theorem dX11_cheapest_30 : decode cX11_cheapest 30 = .ok (.aload_n 0, 1) := by decide +kernel
theorem dX11_cheapest_31 : decode cX11_cheapest 31 = .ok (.iload 5, 2) := by decide +kernel
theorem dX11_cheapest_33 : decode cX11_cheapest 33 = .ok (.invokevirtual 44, 3) := by decide +kernel
theorem dX11_cheapest_36 : decode cX11_cheapest 36 = .ok (.ifCond .eq 54, 3) := by decide +kernel
theorem dX11_cheapest_39 : decode cX11_cheapest 39 = .ok (.aload_n 0, 1) := by decide +kernel
theorem dX11_cheapest_40 : decode cX11_cheapest 40 = .ok (.iload 5, 2) := by decide +kernel
theorem dX11_cheapest_42 : decode cX11_cheapest 42 = .ok (.iload 6, 2) := by decide +kernel
theorem dX11_cheapest_44 : decode cX11_cheapest 44 = .ok (.invokevirtual 176, 3) := by decide +kernel
theorem dX11_cheapest_47 : decode cX11_cheapest 47 = .ok (.ifCond .le 6, 3) := by decide +kernel
theorem dX11_cheapest_50 : decode cX11_cheapest 50 = .ok (.goto 40, 3) := by decide +kernel
theorem dX11_cheapest_53 : decode cX11_cheapest 53 = .ok (.aload_n 0, 1) := by decide +kernel
theorem dX11_cheapest_54 : decode cX11_cheapest 54 = .ok (.iload 5, 2) := by decide +kernel
theorem dX11_cheapest_56 : decode cX11_cheapest 56 = .ok (.iload 6, 2) := by decide +kernel
theorem dX11_cheapest_58 : decode cX11_cheapest 58 = .ok (.invokevirtual 179, 3) := by decide +kernel
theorem dX11_cheapest_61 : decode cX11_cheapest 61 = .ok (.iload_n 2, 1) := by decide +kernel
theorem dX11_cheapest_62 : decode cX11_cheapest 62 = .ok (.iconst (-1), 1) := by decide +kernel
theorem dX11_cheapest_63 : decode cX11_cheapest 63 = .ok (.if_icmp .eq 15, 3) := by decide +kernel
theorem dX11_cheapest_66 : decode cX11_cheapest 66 = .ok (.aload_n 0, 1) := by decide +kernel
theorem dX11_cheapest_67 : decode cX11_cheapest 67 = .ok (.getfield 100, 3) := by decide +kernel
theorem dX11_cheapest_70 : decode cX11_cheapest 70 = .ok (.iload 4, 2) := by decide +kernel
theorem dX11_cheapest_72 : decode cX11_cheapest 72 = .ok (.if_icmp .lt 6, 3) := by decide +kernel
theorem dX11_cheapest_75 : decode cX11_cheapest 75 = .ok (.goto 15, 3) := by decide +kernel
theorem dX11_cheapest_78 : decode cX11_cheapest 78 = .ok (.iload 5, 2) := by decide +kernel
theorem dX11_cheapest_80 : decode cX11_cheapest 80 = .ok (.istore_n 2, 1) := by decide +kernel
theorem dX11_cheapest_81 : decode cX11_cheapest 81 = .ok (.iload 6, 2) := by decide +kernel
theorem dX11_cheapest_83 : decode cX11_cheapest 83 = .ok (.istore_n 3, 1) := by decide +kernel
theorem dX11_cheapest_84 : decode cX11_cheapest 84 = .ok (.aload_n 0, 1) := by decide +kernel
theorem dX11_cheapest_85 : decode cX11_cheapest 85 = .ok (.getfield 100, 3) := by decide +kernel
theorem dX11_cheapest_88 : decode cX11_cheapest 88 = .ok (.istore 4, 2) := by decide +kernel
theorem dX11_cheapest_90 : decode cX11_cheapest 90 = .ok (.iinc 6 1, 3) := by decide +kernel
theorem dX11_cheapest_93 : decode cX11_cheapest 93 = .ok (.goto (-70), 3) := by decide +kernel
theorem dX11_cheapest_96 : decode cX11_cheapest 96 = .ok (.iinc 5 1, 3) := by decide +kernel
theorem dX11_cheapest_99 : decode cX11_cheapest 99 = .ok (.goto (-89), 3) := by decide +kernel
theorem dX11_cheapest_102 : decode cX11_cheapest 102 = .ok (.iload_n 2, 1) := by decide +kernel
theorem dX11_cheapest_103 : decode cX11_cheapest 103 = .ok (.iconst (-1), 1) := by decide +kernel
theorem dX11_cheapest_104 : decode cX11_cheapest 104 = .ok (.if_icmp .ne 5, 3) := by decide +kernel
theorem dX11_cheapest_107 : decode cX11_cheapest 107 = .ok (.iconst (-1), 1) := by decide +kernel
theorem dX11_cheapest_108 : decode cX11_cheapest 108 = .ok (.ireturn, 1) := by decide +kernel
theorem dX11_cheapest_109 : decode cX11_cheapest 109 = .ok (.iload_n 1, 1) := by decide +kernel
theorem dX11_cheapest_110 : decode cX11_cheapest 110 = .ok (.ifCond .ne 7, 3) := by decide +kernel
theorem dX11_cheapest_113 : decode cX11_cheapest 113 = .ok (.iload_n 2, 1) := by decide +kernel
theorem dX11_cheapest_114 : decode cX11_cheapest 114 = .ok (.goto 23, 3) := by decide +kernel
theorem dX11_cheapest_117 : decode cX11_cheapest 117 = .ok (.iload_n 1, 1) := by decide +kernel
theorem dX11_cheapest_118 : decode cX11_cheapest 118 = .ok (.iconst 1, 1) := by decide +kernel
theorem dX11_cheapest_119 : decode cX11_cheapest 119 = .ok (.if_icmp .ne 7, 3) := by decide +kernel
theorem dX11_cheapest_122 : decode cX11_cheapest 122 = .ok (.iload_n 3, 1) := by decide +kernel
theorem dX11_cheapest_123 : decode cX11_cheapest 123 = .ok (.goto 14, 3) := by decide +kernel
theorem dX11_cheapest_126 : decode cX11_cheapest 126 = .ok (.iload_n 1, 1) := by decide +kernel
theorem dX11_cheapest_127 : decode cX11_cheapest 127 = .ok (.iconst 2, 1) := by decide +kernel
theorem dX11_cheapest_128 : decode cX11_cheapest 128 = .ok (.if_icmp .ne 8, 3) := by decide +kernel
theorem dX11_cheapest_131 : decode cX11_cheapest 131 = .ok (.iload 4, 2) := by decide +kernel
theorem dX11_cheapest_133 : decode cX11_cheapest 133 = .ok (.goto 4, 3) := by decide +kernel
theorem dX11_cheapest_136 : decode cX11_cheapest 136 = .ok (.iconst (-1), 1) := by decide +kernel
theorem dX11_cheapest_137 : decode cX11_cheapest 137 = .ok (.ireturn, 1) := by decide +kernel
theorem dX11_merged_0 : decode cX11_merged 0 = .ok (.iload_n 1, 1) := by decide +kernel
theorem dX11_merged_1 : decode cX11_merged 1 = .ok (.ifCond .ge 5, 3) := by decide +kernel
theorem dX11_merged_4 : decode cX11_merged 4 = .ok (.iconst (-1), 1) := by decide +kernel
theorem dX11_merged_5 : decode cX11_merged 5 = .ok (.ireturn, 1) := by decide +kernel
theorem dX11_merged_6 : decode cX11_merged 6 = .ok (.iconst 0, 1) := by decide +kernel
theorem dX11_merged_7 : decode cX11_merged 7 = .ok (.istore_n 2, 1) := by decide +kernel
theorem dX11_merged_8 : decode cX11_merged 8 = .ok (.iload_n 2, 1) := by decide +kernel
theorem dX11_merged_9 : decode cX11_merged 9 = .ok (.bipush 8, 2) := by decide +kernel
theorem dX11_merged_11 : decode cX11_merged 11 = .ok (.if_icmp .ge 103, 3) := by decide +kernel
theorem dX11_merged_14 : decode cX11_merged 14 = .ok (.iconst 0, 1) := by decide +kernel
theorem dX11_merged_15 : decode cX11_merged 15 = .ok (.istore_n 3, 1) := by decide +kernel
theorem dX11_merged_16 : decode cX11_merged 16 = .ok (.iload_n 3, 1) := by decide +kernel
theorem dX11_merged_17 : decode cX11_merged 17 = .ok (.aload_n 0, 1) := by decide +kernel
theorem dX11_merged_18 : decode cX11_merged 18 = .ok (.iload_n 2, 1) := by decide +kernel
theorem dX11_merged_19 : decode cX11_merged 19 = .ok (.invokevirtual 44, 3) := by decide +kernel
theorem dX11_merged_22 : decode cX11_merged 22 = .ok (.if_icmp .ge 86, 3) := by decide +kernel
theorem dX11_merged_25 : decode cX11_merged 25 = .ok (.iconst 0, 1) := by decide +kernel
theorem dX11_merged_26 : decode cX11_merged 26 = .ok (.istore 4, 2) := by decide +kernel
theorem dX11_merged_28 : decode cX11_merged 28 = .ok (.iconst 0, 1) := by decide +kernel
theorem dX11_merged_29 : decode cX11_merged 29 = .ok (.istore 5, 2) := by decide +kernel
theorem dX11_merged_31 : decode cX11_merged 31 = .ok (.iload 5, 2) := by decide +kernel
theorem dX11_merged_33 : decode cX11_merged 33 = .ok (.bipush 8, 2) := by decide +kernel
theorem dX11_merged_35 : decode cX11_merged 35 = .ok (.if_icmp .ge 54, 3) := by decide +kernel
theorem dX11_merged_38 : decode cX11_merged 38 = .ok (.iload 4, 2) := by decide +kernel
theorem dX11_merged_40 : decode cX11_merged 40 = .ok (.aload_n 0, 1) := by decide +kernel
theorem dX11_merged_41 : decode cX11_merged 41 = .ok (.iload 5, 2) := by decide +kernel
theorem dX11_merged_43 : decode cX11_merged 43 = .ok (.aload_n 0, 1) := by decide +kernel
theorem dX11_merged_44 : decode cX11_merged 44 = .ok (.iload_n 2, 1) := by decide +kernel
theorem dX11_merged_45 : decode cX11_merged 45 = .ok (.iload_n 3, 1) := by decide +kernel
theorem dX11_merged_46 : decode cX11_merged 46 = .ok (.invokevirtual 48, 3) := by decide +kernel
theorem dX11_merged_49 : decode cX11_merged 49 = .ok (.invokevirtual 52, 3) := by decide +kernel
theorem dX11_merged_52 : decode cX11_merged 52 = .ok (.iload 5, 2) := by decide +kernel
theorem dX11_merged_54 : decode cX11_merged 54 = .ok (.iload_n 2, 1) := by decide +kernel
theorem dX11_merged_55 : decode cX11_merged 55 = .ok (.if_icmp .ge 23, 3) := by decide +kernel
theorem dX11_merged_58 : decode cX11_merged 58 = .ok (.aload_n 0, 1) := by decide +kernel
theorem dX11_merged_59 : decode cX11_merged 59 = .ok (.iload 5, 2) := by decide +kernel
theorem dX11_merged_61 : decode cX11_merged 61 = .ok (.aload_n 0, 1) := by decide +kernel
theorem dX11_merged_62 : decode cX11_merged 62 = .ok (.iload_n 2, 1) := by decide +kernel
theorem dX11_merged_63 : decode cX11_merged 63 = .ok (.iload_n 3, 1) := by decide +kernel
theorem dX11_merged_64 : decode cX11_merged 64 = .ok (.invokevirtual 48, 3) := by decide +kernel
theorem dX11_merged_67 : decode cX11_merged 67 = .ok (.invokevirtual 59, 3) := by decide +kernel
theorem dX11_merged_70 : decode cX11_merged 70 = .ok (.iconst (-1), 1) := by decide +kernel
theorem dX11_merged_71 : decode cX11_merged 71 = .ok (.if_icmp .eq 7, 3) := by decide +kernel
theorem dX11_merged_74 : decode cX11_merged 74 = .ok (.iconst 1, 1) := by decide +kernel
theorem dX11_merged_75 : decode cX11_merged 75 = .ok (.goto 4, 3) := by decide +kernel
theorem dX11_merged_78 : decode cX11_merged 78 = .ok (.iconst 0, 1) := by decide +kernel
theorem dX11_merged_79 : decode cX11_merged 79 = .ok (.iadd, 1) := by decide +kernel
theorem dX11_merged_80 : decode cX11_merged 80 = .ok (.iadd, 1) := by decide +kernel
theorem dX11_merged_81 : decode cX11_merged 81 = .ok (.istore 4, 2) := by decide +kernel
theorem dX11_merged_83 : decode cX11_merged 83 = .ok (.iinc 5 1, 3) := by decide +kernel
theorem dX11_merged_86 : decode cX11_merged 86 = .ok (.goto (-55), 3) := by decide +kernel
theorem dX11_merged_89 : decode cX11_merged 89 = .ok (.iload 4, 2) := by decide +kernel
theorem dX11_merged_91 : decode cX11_merged 91 = .ok (.iload_n 1, 1) := by decide +kernel
theorem dX11_merged_92 : decode cX11_merged 92 = .ok (.if_icmp .ne 10, 3) := by decide +kernel
theorem dX11_merged_95 : decode cX11_merged 95 = .ok (.aload_n 0, 1) := by decide +kernel
theorem dX11_merged_96 : decode cX11_merged 96 = .ok (.iload_n 2, 1) := by decide +kernel
theorem dX11_merged_97 : decode cX11_merged 97 = .ok (.iload_n 3, 1) := by decide +kernel
theorem dX11_merged_98 : decode cX11_merged 98 = .ok (.invokevirtual 48, 3) := by decide +kernel
theorem dX11_merged_101 : decode cX11_merged 101 = .ok (.ireturn, 1) := by decide +kernel
theorem dX11_merged_102 : decode cX11_merged 102 = .ok (.iinc 3 1, 3) := by decide +kernel
theorem dX11_merged_105 : decode cX11_merged 105 = .ok (.goto (-89), 3) := by decide +kernel
theorem dX11_merged_108 : decode cX11_merged 108 = .ok (.iinc 2 1, 3) := by decide +kernel
theorem dX11_merged_111 : decode cX11_merged 111 = .ok (.goto (-103), 3) := by decide +kernel
theorem dX11_merged_114 : decode cX11_merged 114 = .ok (.iconst (-1), 1) := by decide +kernel
theorem dX11_merged_115 : decode cX11_merged 115 = .ok (.ireturn, 1) := by decide +kernel
theorem dX11_would_0 : decode cX11_would 0 = .ok (.iload_n 1, 1) := by decide +kernel
theorem dX11_would_1 : decode cX11_would 1 = .ok (.invokestatic 112, 3) := by decide +kernel
theorem dX11_would_4 : decode cX11_would 4 = .ok (.ifCond .eq 29, 3) := by decide +kernel
theorem dX11_would_7 : decode cX11_would 7 = .ok (.iload_n 2, 1) := by decide +kernel
theorem dX11_would_8 : decode cX11_would 8 = .ok (.invokestatic 116, 3) := by decide +kernel
theorem dX11_would_11 : decode cX11_would 11 = .ok (.ifCond .eq 22, 3) := by decide +kernel
theorem dX11_would_14 : decode cX11_would 14 = .ok (.aload_n 0, 1) := by decide +kernel
theorem dX11_would_15 : decode cX11_would 15 = .ok (.iload_n 1, 1) := by decide +kernel
theorem dX11_would_16 : decode cX11_would 16 = .ok (.iload_n 2, 1) := by decide +kernel
theorem dX11_would_17 : decode cX11_would 17 = .ok (.invokevirtual 59, 3) := by decide +kernel
theorem dX11_would_20 : decode cX11_would 20 = .ok (.iconst (-1), 1) := by decide +kernel
theorem dX11_would_21 : decode cX11_would 21 = .ok (.if_icmp .eq 7, 3) := by decide +kernel
theorem dX11_would_24 : decode cX11_would 24 = .ok (.iconst 1, 1) := by decide +kernel
theorem dX11_would_25 : decode cX11_would 25 = .ok (.goto 4, 3) := by decide +kernel
theorem dX11_would_28 : decode cX11_would 28 = .ok (.iconst 0, 1) := by decide +kernel
theorem dX11_would_29 : decode cX11_would 29 = .ok (.iload_n 3, 1) := by decide +kernel
theorem dX11_would_30 : decode cX11_would 30 = .ok (.if_icmp .eq 5, 3) := by decide +kernel
theorem dX11_would_33 : decode cX11_would 33 = .ok (.iconst (-1), 1) := by decide +kernel
theorem dX11_would_34 : decode cX11_would 34 = .ok (.ireturn, 1) := by decide +kernel
theorem dX11_would_35 : decode cX11_would 35 = .ok (.aload_n 0, 1) := by decide +kernel
theorem dX11_would_36 : decode cX11_would 36 = .ok (.iload_n 1, 1) := by decide +kernel
theorem dX11_would_37 : decode cX11_would 37 = .ok (.invokevirtual 194, 3) := by decide +kernel
theorem dX11_would_40 : decode cX11_would 40 = .ok (.aload_n 0, 1) := by decide +kernel
theorem dX11_would_41 : decode cX11_would 41 = .ok (.iload_n 1, 1) := by decide +kernel
theorem dX11_would_42 : decode cX11_would 42 = .ok (.iload_n 2, 1) := by decide +kernel
theorem dX11_would_43 : decode cX11_would 43 = .ok (.invokevirtual 52, 3) := by decide +kernel
theorem dX11_would_46 : decode cX11_would 46 = .ok (.istore 4, 2) := by decide +kernel
theorem dX11_would_48 : decode cX11_would 48 = .ok (.iload_n 3, 1) := by decide +kernel
theorem dX11_would_49 : decode cX11_would 49 = .ok (.ifCond .eq 43, 3) := by decide +kernel
theorem dX11_would_52 : decode cX11_would 52 = .ok (.iload 4, 2) := by decide +kernel
theorem dX11_would_54 : decode cX11_would 54 = .ok (.istore 5, 2) := by decide +kernel
theorem dX11_would_56 : decode cX11_would 56 = .ok (.iload 5, 2) := by decide +kernel
theorem dX11_would_58 : decode cX11_would 58 = .ok (.iconst 1, 1) := by decide +kernel
theorem dX11_would_59 : decode cX11_would 59 = .ok (.iadd, 1) := by decide +kernel
theorem dX11_would_60 : decode cX11_would 60 = .ok (.aload_n 0, 1) := by decide +kernel
theorem dX11_would_61 : decode cX11_would 61 = .ok (.getfield 62, 3) := by decide +kernel
theorem dX11_would_64 : decode cX11_would 64 = .ok (.if_icmp .ge 25, 3) := by decide +kernel
theorem dX11_would_67 : decode cX11_would 67 = .ok (.aload_n 0, 1) := by decide +kernel
theorem dX11_would_68 : decode cX11_would 68 = .ok (.getfield 27, 3) := by decide +kernel
theorem dX11_would_71 : decode cX11_would 71 = .ok (.iload 5, 2) := by decide +kernel
theorem dX11_would_73 : decode cX11_would 73 = .ok (.aload_n 0, 1) := by decide +kernel
theorem dX11_would_74 : decode cX11_would 74 = .ok (.getfield 27, 3) := by decide +kernel
theorem dX11_would_77 : decode cX11_would 77 = .ok (.iload 5, 2) := by decide +kernel
theorem dX11_would_79 : decode cX11_would 79 = .ok (.iconst 1, 1) := by decide +kernel
theorem dX11_would_80 : decode cX11_would 80 = .ok (.iadd, 1) := by decide +kernel
theorem dX11_would_81 : decode cX11_would 81 = .ok (.iaload, 1) := by decide +kernel
theorem dX11_would_82 : decode cX11_would 82 = .ok (.iastore, 1) := by decide +kernel
theorem dX11_would_83 : decode cX11_would 83 = .ok (.iinc 5 1, 3) := by decide +kernel
theorem dX11_would_86 : decode cX11_would 86 = .ok (.goto (-30), 3) := by decide +kernel
theorem dX11_would_89 : decode cX11_would 89 = .ok (.goto 38, 3) := by decide +kernel
theorem dX11_would_92 : decode cX11_would 92 = .ok (.aload_n 0, 1) := by decide +kernel
theorem dX11_would_93 : decode cX11_would 93 = .ok (.getfield 62, 3) := by decide +kernel
theorem dX11_would_96 : decode cX11_would 96 = .ok (.istore 5, 2) := by decide +kernel
theorem dX11_would_98 : decode cX11_would 98 = .ok (.iload 5, 2) := by decide +kernel
theorem dX11_would_100 : decode cX11_would 100 = .ok (.iload 4, 2) := by decide +kernel
theorem dX11_would_102 : decode cX11_would 102 = .ok (.if_icmp .le 25, 3) := by decide +kernel
theorem dX11_would_105 : decode cX11_would 105 = .ok (.aload_n 0, 1) := by decide +kernel
theorem dX11_would_106 : decode cX11_would 106 = .ok (.getfield 27, 3) := by decide +kernel
theorem dX11_would_109 : decode cX11_would 109 = .ok (.iload 5, 2) := by decide +kernel
theorem dX11_would_111 : decode cX11_would 111 = .ok (.aload_n 0, 1) := by decide +kernel
theorem dX11_would_112 : decode cX11_would 112 = .ok (.getfield 27, 3) := by decide +kernel
theorem dX11_would_115 : decode cX11_would 115 = .ok (.iload 5, 2) := by decide +kernel
theorem dX11_would_117 : decode cX11_would 117 = .ok (.iconst 1, 1) := by decide +kernel
theorem dX11_would_118 : decode cX11_would 118 = .ok (.isub, 1) := by decide +kernel
theorem dX11_would_119 : decode cX11_would 119 = .ok (.iaload, 1) := by decide +kernel
theorem dX11_would_120 : decode cX11_would 120 = .ok (.iastore, 1) := by decide +kernel
theorem dX11_would_121 : decode cX11_would 121 = .ok (.iinc 5 (-1), 3) := by decide +kernel
theorem dX11_would_124 : decode cX11_would 124 = .ok (.goto (-26), 3) := by decide +kernel
theorem dX11_would_127 : decode cX11_would 127 = .ok (.iload_n 3, 1) := by decide +kernel
theorem dX11_would_128 : decode cX11_would 128 = .ok (.ifCond .ne 11, 3) := by decide +kernel
theorem dX11_would_131 : decode cX11_would 131 = .ok (.aload_n 0, 1) := by decide +kernel
theorem dX11_would_132 : decode cX11_would 132 = .ok (.getfield 27, 3) := by decide +kernel
theorem dX11_would_135 : decode cX11_would 135 = .ok (.iload 4, 2) := by decide +kernel
theorem dX11_would_137 : decode cX11_would 137 = .ok (.iload_n 2, 1) := by decide +kernel
theorem dX11_would_138 : decode cX11_would 138 = .ok (.iastore, 1) := by decide +kernel
theorem dX11_would_139 : decode cX11_would 139 = .ok (.aload_n 0, 1) := by decide +kernel
theorem dX11_would_140 : decode cX11_would 140 = .ok (.dup, 1) := by decide +kernel
theorem dX11_would_141 : decode cX11_would 141 = .ok (.getfield 62, 3) := by decide +kernel
theorem dX11_would_144 : decode cX11_would 144 = .ok (.iload_n 3, 1) := by decide +kernel
theorem dX11_would_145 : decode cX11_would 145 = .ok (.ifCond .eq 7, 3) := by decide +kernel
theorem dX11_would_148 : decode cX11_would 148 = .ok (.iconst (-1), 1) := by decide +kernel
theorem dX11_would_149 : decode cX11_would 149 = .ok (.goto 4, 3) := by decide +kernel
theorem dX11_would_152 : decode cX11_would 152 = .ok (.iconst 1, 1) := by decide +kernel
theorem dX11_would_153 : decode cX11_would 153 = .ok (.iadd, 1) := by decide +kernel
theorem dX11_would_154 : decode cX11_would 154 = .ok (.putfield 62, 3) := by decide +kernel
theorem dX11_would_157 : decode cX11_would 157 = .ok (.aload_n 0, 1) := by decide +kernel
theorem dX11_would_158 : decode cX11_would 158 = .ok (.invokevirtual 200, 3) := by decide +kernel
theorem dX11_would_161 : decode cX11_would 161 = .ok (.ireturn, 1) := by decide +kernel
theorem dX11_halves_0 : decode cX11_halves 0 = .ok (.iload_n 1, 1) := by decide +kernel
theorem dX11_halves_1 : decode cX11_halves 1 = .ok (.invokestatic 112, 3) := by decide +kernel
theorem dX11_halves_4 : decode cX11_halves 4 = .ok (.ifCond .eq 31, 3) := by decide +kernel
theorem dX11_halves_7 : decode cX11_halves 7 = .ok (.aload_n 0, 1) := by decide +kernel
theorem dX11_halves_8 : decode cX11_halves 8 = .ok (.iload_n 1, 1) := by decide +kernel
theorem dX11_halves_9 : decode cX11_halves 9 = .ok (.invokevirtual 44, 3) := by decide +kernel
theorem dX11_halves_12 : decode cX11_halves 12 = .ok (.iconst 1, 1) := by decide +kernel
theorem dX11_halves_13 : decode cX11_halves 13 = .ok (.if_icmp .le 22, 3) := by decide +kernel
theorem dX11_halves_16 : decode cX11_halves 16 = .ok (.aload_n 0, 1) := by decide +kernel
theorem dX11_halves_17 : decode cX11_halves 17 = .ok (.iload_n 1, 1) := by decide +kernel
theorem dX11_halves_18 : decode cX11_halves 18 = .ok (.aload_n 0, 1) := by decide +kernel
theorem dX11_halves_19 : decode cX11_halves 19 = .ok (.iload_n 1, 1) := by decide +kernel
theorem dX11_halves_20 : decode cX11_halves 20 = .ok (.invokevirtual 44, 3) := by decide +kernel
theorem dX11_halves_23 : decode cX11_halves 23 = .ok (.iconst 1, 1) := by decide +kernel
theorem dX11_halves_24 : decode cX11_halves 24 = .ok (.iadd, 1) := by decide +kernel
theorem dX11_halves_25 : decode cX11_halves 25 = .ok (.iconst 2, 1) := by decide +kernel
theorem dX11_halves_26 : decode cX11_halves 26 = .ok (.idiv, 1) := by decide +kernel
theorem dX11_halves_27 : decode cX11_halves 27 = .ok (.iconst 1, 1) := by decide +kernel
theorem dX11_halves_28 : decode cX11_halves 28 = .ok (.isub, 1) := by decide +kernel
theorem dX11_halves_29 : decode cX11_halves 29 = .ok (.invokevirtual 48, 3) := by decide +kernel
theorem dX11_halves_32 : decode cX11_halves 32 = .ok (.goto 4, 3) := by decide +kernel
theorem dX11_halves_35 : decode cX11_halves 35 = .ok (.iconst (-1), 1) := by decide +kernel
theorem dX11_halves_36 : decode cX11_halves 36 = .ok (.ireturn, 1) := by decide +kernel
theorem dX11_tells_0 : decode cX11_tells 0 = .ok (.aload_n 0, 1) := by decide +kernel
theorem dX11_tells_1 : decode cX11_tells 1 = .ok (.getfield 16, 3) := by decide +kernel
theorem dX11_tells_4 : decode cX11_tells 4 = .ok (.aload_n 0, 1) := by decide +kernel
theorem dX11_tells_5 : decode cX11_tells 5 = .ok (.getfield 224, 3) := by decide +kernel
theorem dX11_tells_8 : decode cX11_tells 8 = .ok (.iload_n 1, 1) := by decide +kernel
theorem dX11_tells_9 : decode cX11_tells 9 = .ok (.iastore, 1) := by decide +kernel
theorem dX11_tells_10 : decode cX11_tells 10 = .ok (.aload_n 0, 1) := by decide +kernel
theorem dX11_tells_11 : decode cX11_tells 11 = .ok (.dup, 1) := by decide +kernel
theorem dX11_tells_12 : decode cX11_tells 12 = .ok (.getfield 224, 3) := by decide +kernel
theorem dX11_tells_15 : decode cX11_tells 15 = .ok (.iconst 1, 1) := by decide +kernel
theorem dX11_tells_16 : decode cX11_tells 16 = .ok (.iadd, 1) := by decide +kernel
theorem dX11_tells_17 : decode cX11_tells 17 = .ok (.putfield 224, 3) := by decide +kernel
theorem dX11_tells_20 : decode cX11_tells 20 = .ok (.return_, 1) := by decide +kernel
theorem dX11_number_0 : decode cX11_number 0 = .ok (.iconst 1, 1) := by decide +kernel
theorem dX11_number_1 : decode cX11_number 1 = .ok (.istore_n 2, 1) := by decide +kernel
theorem dX11_number_2 : decode cX11_number 2 = .ok (.iload_n 1, 1) := by decide +kernel
theorem dX11_number_3 : decode cX11_number 3 = .ok (.iload_n 2, 1) := by decide +kernel
theorem dX11_number_4 : decode cX11_number 4 = .ok (.idiv, 1) := by decide +kernel
theorem dX11_number_5 : decode cX11_number 5 = .ok (.bipush 9, 2) := by decide +kernel
theorem dX11_number_7 : decode cX11_number 7 = .ok (.if_icmp .le 11, 3) := by decide +kernel
theorem dX11_number_10 : decode cX11_number 10 = .ok (.iload_n 2, 1) := by decide +kernel
theorem dX11_number_11 : decode cX11_number 11 = .ok (.bipush 10, 2) := by decide +kernel
theorem dX11_number_13 : decode cX11_number 13 = .ok (.imul, 1) := by decide +kernel
theorem dX11_number_14 : decode cX11_number 14 = .ok (.istore_n 2, 1) := by decide +kernel
theorem dX11_number_15 : decode cX11_number 15 = .ok (.goto (-13), 3) := by decide +kernel
theorem dX11_number_18 : decode cX11_number 18 = .ok (.iload_n 2, 1) := by decide +kernel
theorem dX11_number_19 : decode cX11_number 19 = .ok (.ifCond .le 24, 3) := by decide +kernel
theorem dX11_number_22 : decode cX11_number 22 = .ok (.aload_n 0, 1) := by decide +kernel
theorem dX11_number_23 : decode cX11_number 23 = .ok (.bipush 48, 2) := by decide +kernel
theorem dX11_number_25 : decode cX11_number 25 = .ok (.iload_n 1, 1) := by decide +kernel
theorem dX11_number_26 : decode cX11_number 26 = .ok (.iload_n 2, 1) := by decide +kernel
theorem dX11_number_27 : decode cX11_number 27 = .ok (.idiv, 1) := by decide +kernel
theorem dX11_number_28 : decode cX11_number 28 = .ok (.bipush 10, 2) := by decide +kernel
theorem dX11_number_30 : decode cX11_number 30 = .ok (.irem, 1) := by decide +kernel
theorem dX11_number_31 : decode cX11_number 31 = .ok (.iadd, 1) := by decide +kernel
theorem dX11_number_32 : decode cX11_number 32 = .ok (.invokevirtual 227, 3) := by decide +kernel
theorem dX11_number_35 : decode cX11_number 35 = .ok (.iload_n 2, 1) := by decide +kernel
theorem dX11_number_36 : decode cX11_number 36 = .ok (.bipush 10, 2) := by decide +kernel
theorem dX11_number_38 : decode cX11_number 38 = .ok (.idiv, 1) := by decide +kernel
theorem dX11_number_39 : decode cX11_number 39 = .ok (.istore_n 2, 1) := by decide +kernel
theorem dX11_number_40 : decode cX11_number 40 = .ok (.goto (-22), 3) := by decide +kernel
theorem dX11_number_43 : decode cX11_number 43 = .ok (.return_, 1) := by decide +kernel
theorem dX11_tell_0 : decode cX11_tell 0 = .ok (.iload_n 1, 1) := by decide +kernel
theorem dX11_tell_1 : decode cX11_tell 1 = .ok (.invokestatic 112, 3) := by decide +kernel
theorem dX11_tell_4 : decode cX11_tell 4 = .ok (.ifCond .ne 5, 3) := by decide +kernel
theorem dX11_tell_7 : decode cX11_tell 7 = .ok (.iconst (-1), 1) := by decide +kernel
theorem dX11_tell_8 : decode cX11_tell 8 = .ok (.ireturn, 1) := by decide +kernel
theorem dX11_tell_9 : decode cX11_tell 9 = .ok (.aload_n 0, 1) := by decide +kernel
theorem dX11_tell_10 : decode cX11_tell 10 = .ok (.iconst 0, 1) := by decide +kernel
theorem dX11_tell_11 : decode cX11_tell 11 = .ok (.putfield 224, 3) := by decide +kernel
theorem dX11_tell_14 : decode cX11_tell 14 = .ok (.iconst 0, 1) := by decide +kernel
theorem dX11_tell_15 : decode cX11_tell 15 = .ok (.istore_n 2, 1) := by decide +kernel
theorem dX11_tell_16 : decode cX11_tell 16 = .ok (.iload_n 2, 1) := by decide +kernel
theorem dX11_tell_17 : decode cX11_tell 17 = .ok (.aload_n 0, 1) := by decide +kernel
theorem dX11_tell_18 : decode cX11_tell 18 = .ok (.iload_n 1, 1) := by decide +kernel
theorem dX11_tell_19 : decode cX11_tell 19 = .ok (.invokevirtual 44, 3) := by decide +kernel
theorem dX11_tell_22 : decode cX11_tell 22 = .ok (.if_icmp .ge 132, 3) := by decide +kernel
theorem dX11_tell_25 : decode cX11_tell 25 = .ok (.iload_n 2, 1) := by decide +kernel
theorem dX11_tell_26 : decode cX11_tell 26 = .ok (.istore_n 3, 1) := by decide +kernel
theorem dX11_tell_27 : decode cX11_tell 27 = .ok (.iload_n 3, 1) := by decide +kernel
theorem dX11_tell_28 : decode cX11_tell 28 = .ok (.iconst 1, 1) := by decide +kernel
theorem dX11_tell_29 : decode cX11_tell 29 = .ok (.iadd, 1) := by decide +kernel
theorem dX11_tell_30 : decode cX11_tell 30 = .ok (.aload_n 0, 1) := by decide +kernel
theorem dX11_tell_31 : decode cX11_tell 31 = .ok (.iload_n 1, 1) := by decide +kernel
theorem dX11_tell_32 : decode cX11_tell 32 = .ok (.invokevirtual 44, 3) := by decide +kernel
theorem dX11_tell_35 : decode cX11_tell 35 = .ok (.if_icmp .ge 45, 3) := by decide +kernel
theorem dX11_tell_38 : decode cX11_tell 38 = .ok (.aload_n 0, 1) := by decide +kernel
theorem dX11_tell_39 : decode cX11_tell 39 = .ok (.iload_n 1, 1) := by decide +kernel
theorem dX11_tell_40 : decode cX11_tell 40 = .ok (.iload_n 3, 1) := by decide +kernel
theorem dX11_tell_41 : decode cX11_tell 41 = .ok (.iconst 1, 1) := by decide +kernel
theorem dX11_tell_42 : decode cX11_tell 42 = .ok (.iadd, 1) := by decide +kernel
theorem dX11_tell_43 : decode cX11_tell 43 = .ok (.invokevirtual 48, 3) := by decide +kernel
theorem dX11_tell_46 : decode cX11_tell 46 = .ok (.aload_n 0, 1) := by decide +kernel
theorem dX11_tell_47 : decode cX11_tell 47 = .ok (.iload_n 1, 1) := by decide +kernel
theorem dX11_tell_48 : decode cX11_tell 48 = .ok (.iload_n 3, 1) := by decide +kernel
theorem dX11_tell_49 : decode cX11_tell 49 = .ok (.invokevirtual 48, 3) := by decide +kernel
theorem dX11_tell_52 : decode cX11_tell 52 = .ok (.iconst 1, 1) := by decide +kernel
theorem dX11_tell_53 : decode cX11_tell 53 = .ok (.iadd, 1) := by decide +kernel
theorem dX11_tell_54 : decode cX11_tell 54 = .ok (.if_icmp .ne 26, 3) := by decide +kernel
theorem dX11_tell_57 : decode cX11_tell 57 = .ok (.aload_n 0, 1) := by decide +kernel
theorem dX11_tell_58 : decode cX11_tell 58 = .ok (.iload_n 1, 1) := by decide +kernel
theorem dX11_tell_59 : decode cX11_tell 59 = .ok (.iload_n 3, 1) := by decide +kernel
theorem dX11_tell_60 : decode cX11_tell 60 = .ok (.iconst 1, 1) := by decide +kernel
theorem dX11_tell_61 : decode cX11_tell 61 = .ok (.iadd, 1) := by decide +kernel
theorem dX11_tell_62 : decode cX11_tell 62 = .ok (.invokevirtual 134, 3) := by decide +kernel
theorem dX11_tell_65 : decode cX11_tell 65 = .ok (.aload_n 0, 1) := by decide +kernel
theorem dX11_tell_66 : decode cX11_tell 66 = .ok (.iload_n 1, 1) := by decide +kernel
theorem dX11_tell_67 : decode cX11_tell 67 = .ok (.iload_n 2, 1) := by decide +kernel
theorem dX11_tell_68 : decode cX11_tell 68 = .ok (.invokevirtual 134, 3) := by decide +kernel
theorem dX11_tell_71 : decode cX11_tell 71 = .ok (.if_icmp .ne 9, 3) := by decide +kernel
theorem dX11_tell_74 : decode cX11_tell 74 = .ok (.iinc 3 1, 3) := by decide +kernel
theorem dX11_tell_77 : decode cX11_tell 77 = .ok (.goto (-50), 3) := by decide +kernel
theorem dX11_tell_80 : decode cX11_tell 80 = .ok (.iload_n 3, 1) := by decide +kernel
theorem dX11_tell_81 : decode cX11_tell 81 = .ok (.iload_n 2, 1) := by decide +kernel
theorem dX11_tell_82 : decode cX11_tell 82 = .ok (.isub, 1) := by decide +kernel
theorem dX11_tell_83 : decode cX11_tell 83 = .ok (.iconst 2, 1) := by decide +kernel
theorem dX11_tell_84 : decode cX11_tell 84 = .ok (.if_icmp .ge 5, 3) := by decide +kernel
theorem dX11_tell_87 : decode cX11_tell 87 = .ok (.iload_n 2, 1) := by decide +kernel
theorem dX11_tell_88 : decode cX11_tell 88 = .ok (.istore_n 3, 1) := by decide +kernel
theorem dX11_tell_89 : decode cX11_tell 89 = .ok (.iload_n 2, 1) := by decide +kernel
theorem dX11_tell_90 : decode cX11_tell 90 = .ok (.ifCond .le 9, 3) := by decide +kernel
theorem dX11_tell_93 : decode cX11_tell 93 = .ok (.aload_n 0, 1) := by decide +kernel
theorem dX11_tell_94 : decode cX11_tell 94 = .ok (.bipush 32, 2) := by decide +kernel
theorem dX11_tell_96 : decode cX11_tell 96 = .ok (.invokevirtual 227, 3) := by decide +kernel
theorem dX11_tell_99 : decode cX11_tell 99 = .ok (.aload_n 0, 1) := by decide +kernel
theorem dX11_tell_100 : decode cX11_tell 100 = .ok (.aload_n 0, 1) := by decide +kernel
theorem dX11_tell_101 : decode cX11_tell 101 = .ok (.iload_n 1, 1) := by decide +kernel
theorem dX11_tell_102 : decode cX11_tell 102 = .ok (.iload_n 2, 1) := by decide +kernel
theorem dX11_tell_103 : decode cX11_tell 103 = .ok (.invokevirtual 48, 3) := by decide +kernel
theorem dX11_tell_106 : decode cX11_tell 106 = .ok (.invokevirtual 230, 3) := by decide +kernel
theorem dX11_tell_109 : decode cX11_tell 109 = .ok (.iload_n 3, 1) := by decide +kernel
theorem dX11_tell_110 : decode cX11_tell 110 = .ok (.iload_n 2, 1) := by decide +kernel
theorem dX11_tell_111 : decode cX11_tell 111 = .ok (.if_icmp .le 19, 3) := by decide +kernel
theorem dX11_tell_114 : decode cX11_tell 114 = .ok (.aload_n 0, 1) := by decide +kernel
theorem dX11_tell_115 : decode cX11_tell 115 = .ok (.bipush 45, 2) := by decide +kernel
theorem dX11_tell_117 : decode cX11_tell 117 = .ok (.invokevirtual 227, 3) := by decide +kernel
theorem dX11_tell_120 : decode cX11_tell 120 = .ok (.aload_n 0, 1) := by decide +kernel
theorem dX11_tell_121 : decode cX11_tell 121 = .ok (.aload_n 0, 1) := by decide +kernel
theorem dX11_tell_122 : decode cX11_tell 122 = .ok (.iload_n 1, 1) := by decide +kernel
theorem dX11_tell_123 : decode cX11_tell 123 = .ok (.iload_n 3, 1) := by decide +kernel
theorem dX11_tell_124 : decode cX11_tell 124 = .ok (.invokevirtual 48, 3) := by decide +kernel
theorem dX11_tell_127 : decode cX11_tell 127 = .ok (.invokevirtual 230, 3) := by decide +kernel
theorem dX11_tell_130 : decode cX11_tell 130 = .ok (.aload_n 0, 1) := by decide +kernel
theorem dX11_tell_131 : decode cX11_tell 131 = .ok (.iload_n 1, 1) := by decide +kernel
theorem dX11_tell_132 : decode cX11_tell 132 = .ok (.iload_n 2, 1) := by decide +kernel
theorem dX11_tell_133 : decode cX11_tell 133 = .ok (.invokevirtual 134, 3) := by decide +kernel
theorem dX11_tell_136 : decode cX11_tell 136 = .ok (.iconst 1, 1) := by decide +kernel
theorem dX11_tell_137 : decode cX11_tell 137 = .ok (.if_icmp .ne 9, 3) := by decide +kernel
theorem dX11_tell_140 : decode cX11_tell 140 = .ok (.aload_n 0, 1) := by decide +kernel
theorem dX11_tell_141 : decode cX11_tell 141 = .ok (.bipush 42, 2) := by decide +kernel
theorem dX11_tell_143 : decode cX11_tell 143 = .ok (.invokevirtual 227, 3) := by decide +kernel
theorem dX11_tell_146 : decode cX11_tell 146 = .ok (.iload_n 3, 1) := by decide +kernel
theorem dX11_tell_147 : decode cX11_tell 147 = .ok (.istore_n 2, 1) := by decide +kernel
theorem dX11_tell_148 : decode cX11_tell 148 = .ok (.iinc 2 1, 3) := by decide +kernel
theorem dX11_tell_151 : decode cX11_tell 151 = .ok (.goto (-135), 3) := by decide +kernel
theorem dX11_tell_154 : decode cX11_tell 154 = .ok (.aload_n 0, 1) := by decide +kernel
theorem dX11_tell_155 : decode cX11_tell 155 = .ok (.getfield 224, 3) := by decide +kernel
theorem dX11_tell_158 : decode cX11_tell 158 = .ok (.ireturn, 1) := by decide +kernel
theorem dX11_octet_0 : decode cX11_octet 0 = .ok (.iload_n 1, 1) := by decide +kernel
theorem dX11_octet_1 : decode cX11_octet 1 = .ok (.iconst 0, 1) := by decide +kernel
theorem dX11_octet_2 : decode cX11_octet 2 = .ok (.aload_n 0, 1) := by decide +kernel
theorem dX11_octet_3 : decode cX11_octet 3 = .ok (.getfield 224, 3) := by decide +kernel
theorem dX11_octet_6 : decode cX11_octet 6 = .ok (.iconst 1, 1) := by decide +kernel
theorem dX11_octet_7 : decode cX11_octet 7 = .ok (.isub, 1) := by decide +kernel
theorem dX11_octet_8 : decode cX11_octet 8 = .ok (.invokestatic 37, 3) := by decide +kernel
theorem dX11_octet_11 : decode cX11_octet 11 = .ok (.ifCond .eq 12, 3) := by decide +kernel
theorem dX11_octet_14 : decode cX11_octet 14 = .ok (.aload_n 0, 1) := by decide +kernel
theorem dX11_octet_15 : decode cX11_octet 15 = .ok (.getfield 16, 3) := by decide +kernel
theorem dX11_octet_18 : decode cX11_octet 18 = .ok (.iload_n 1, 1) := by decide +kernel
theorem dX11_octet_19 : decode cX11_octet 19 = .ok (.iaload, 1) := by decide +kernel
theorem dX11_octet_20 : decode cX11_octet 20 = .ok (.goto 4, 3) := by decide +kernel
theorem dX11_octet_23 : decode cX11_octet 23 = .ok (.iconst (-1), 1) := by decide +kernel
theorem dX11_octet_24 : decode cX11_octet 24 = .ok (.ireturn, 1) := by decide +kernel
theorem dX11_feed_0 : decode cX11_feed 0 = .ok (.aload_n 0, 1) := by decide +kernel
theorem dX11_feed_1 : decode cX11_feed 1 = .ok (.getfield 218, 3) := by decide +kernel
theorem dX11_feed_4 : decode cX11_feed 4 = .ok (.bipush 20, 2) := by decide +kernel
theorem dX11_feed_6 : decode cX11_feed 6 = .ok (.iadd, 1) := by decide +kernel
theorem dX11_feed_7 : decode cX11_feed 7 = .ok (.sipush 800, 3) := by decide +kernel
theorem dX11_feed_10 : decode cX11_feed 10 = .ok (.if_icmp .le 5, 3) := by decide +kernel
theorem dX11_feed_13 : decode cX11_feed 13 = .ok (.iconst (-1), 1) := by decide +kernel
theorem dX11_feed_14 : decode cX11_feed 14 = .ok (.ireturn, 1) := by decide +kernel
theorem dX11_feed_15 : decode cX11_feed 15 = .ok (.iconst 0, 1) := by decide +kernel
theorem dX11_feed_16 : decode cX11_feed 16 = .ok (.istore 6, 2) := by decide +kernel
theorem dX11_feed_18 : decode cX11_feed 18 = .ok (.iload 6, 2) := by decide +kernel
theorem dX11_feed_20 : decode cX11_feed 20 = .ok (.bipush 20, 2) := by decide +kernel
theorem dX11_feed_22 : decode cX11_feed 22 = .ok (.if_icmp .ge 86, 3) := by decide +kernel
theorem dX11_feed_25 : decode cX11_feed 25 = .ok (.iload 6, 2) := by decide +kernel
theorem dX11_feed_27 : decode cX11_feed 27 = .ok (.iconst 4, 1) := by decide +kernel
theorem dX11_feed_28 : decode cX11_feed 28 = .ok (.if_icmp .ge 7, 3) := by decide +kernel
theorem dX11_feed_31 : decode cX11_feed 31 = .ok (.iload_n 1, 1) := by decide +kernel
theorem dX11_feed_32 : decode cX11_feed 32 = .ok (.goto 39, 3) := by decide +kernel
theorem dX11_feed_35 : decode cX11_feed 35 = .ok (.iload 6, 2) := by decide +kernel
theorem dX11_feed_37 : decode cX11_feed 37 = .ok (.bipush 8, 2) := by decide +kernel
theorem dX11_feed_39 : decode cX11_feed 39 = .ok (.if_icmp .ge 7, 3) := by decide +kernel
theorem dX11_feed_42 : decode cX11_feed 42 = .ok (.iload_n 2, 1) := by decide +kernel
theorem dX11_feed_43 : decode cX11_feed 43 = .ok (.goto 28, 3) := by decide +kernel
theorem dX11_feed_46 : decode cX11_feed 46 = .ok (.iload 6, 2) := by decide +kernel
theorem dX11_feed_48 : decode cX11_feed 48 = .ok (.bipush 12, 2) := by decide +kernel
theorem dX11_feed_50 : decode cX11_feed 50 = .ok (.if_icmp .ge 7, 3) := by decide +kernel
theorem dX11_feed_53 : decode cX11_feed 53 = .ok (.iload_n 3, 1) := by decide +kernel
theorem dX11_feed_54 : decode cX11_feed 54 = .ok (.goto 17, 3) := by decide +kernel
theorem dX11_feed_57 : decode cX11_feed 57 = .ok (.iload 6, 2) := by decide +kernel
theorem dX11_feed_59 : decode cX11_feed 59 = .ok (.bipush 16, 2) := by decide +kernel
theorem dX11_feed_61 : decode cX11_feed 61 = .ok (.if_icmp .ge 8, 3) := by decide +kernel
theorem dX11_feed_64 : decode cX11_feed 64 = .ok (.iload 4, 2) := by decide +kernel
theorem dX11_feed_66 : decode cX11_feed 66 = .ok (.goto 5, 3) := by decide +kernel
theorem dX11_feed_69 : decode cX11_feed 69 = .ok (.iload 5, 2) := by decide +kernel
theorem dX11_feed_71 : decode cX11_feed 71 = .ok (.istore 7, 2) := by decide +kernel
theorem dX11_feed_73 : decode cX11_feed 73 = .ok (.aload_n 0, 1) := by decide +kernel
theorem dX11_feed_74 : decode cX11_feed 74 = .ok (.getfield 13, 3) := by decide +kernel
theorem dX11_feed_77 : decode cX11_feed 77 = .ok (.aload_n 0, 1) := by decide +kernel
theorem dX11_feed_78 : decode cX11_feed 78 = .ok (.getfield 218, 3) := by decide +kernel
theorem dX11_feed_81 : decode cX11_feed 81 = .ok (.iload 6, 2) := by decide +kernel
theorem dX11_feed_83 : decode cX11_feed 83 = .ok (.iadd, 1) := by decide +kernel
theorem dX11_feed_84 : decode cX11_feed 84 = .ok (.iload 7, 2) := by decide +kernel
theorem dX11_feed_86 : decode cX11_feed 86 = .ok (.bipush 24, 2) := by decide +kernel
theorem dX11_feed_88 : decode cX11_feed 88 = .ok (.bipush 8, 2) := by decide +kernel
theorem dX11_feed_90 : decode cX11_feed 90 = .ok (.iload 6, 2) := by decide +kernel
theorem dX11_feed_92 : decode cX11_feed 92 = .ok (.iconst 3, 1) := by decide +kernel
theorem dX11_feed_93 : decode cX11_feed 93 = .ok (.iand, 1) := by decide +kernel
theorem dX11_feed_94 : decode cX11_feed 94 = .ok (.imul, 1) := by decide +kernel
theorem dX11_feed_95 : decode cX11_feed 95 = .ok (.isub, 1) := by decide +kernel
theorem dX11_feed_96 : decode cX11_feed 96 = .ok (.ishr, 1) := by decide +kernel
theorem dX11_feed_97 : decode cX11_feed 97 = .ok (.sipush 255, 3) := by decide +kernel
theorem dX11_feed_100 : decode cX11_feed 100 = .ok (.iand, 1) := by decide +kernel
theorem dX11_feed_101 : decode cX11_feed 101 = .ok (.iastore, 1) := by decide +kernel
theorem dX11_feed_102 : decode cX11_feed 102 = .ok (.iinc 6 1, 3) := by decide +kernel
theorem dX11_feed_105 : decode cX11_feed 105 = .ok (.goto (-87), 3) := by decide +kernel
theorem dX11_feed_108 : decode cX11_feed 108 = .ok (.aload_n 0, 1) := by decide +kernel
theorem dX11_feed_109 : decode cX11_feed 109 = .ok (.dup, 1) := by decide +kernel
theorem dX11_feed_110 : decode cX11_feed 110 = .ok (.getfield 218, 3) := by decide +kernel
theorem dX11_feed_113 : decode cX11_feed 113 = .ok (.bipush 20, 2) := by decide +kernel
theorem dX11_feed_115 : decode cX11_feed 115 = .ok (.iadd, 1) := by decide +kernel
theorem dX11_feed_116 : decode cX11_feed 116 = .ok (.putfield 218, 3) := by decide +kernel
theorem dX11_feed_119 : decode cX11_feed 119 = .ok (.aload_n 0, 1) := by decide +kernel
theorem dX11_feed_120 : decode cX11_feed 120 = .ok (.getfield 218, 3) := by decide +kernel
theorem dX11_feed_123 : decode cX11_feed 123 = .ok (.ireturn, 1) := by decide +kernel
theorem dX11_end_0 : decode cX11_end 0 = .ok (.iload_n 1, 1) := by decide +kernel
theorem dX11_end_1 : decode cX11_end 1 = .ok (.iconst 0, 1) := by decide +kernel
theorem dX11_end_2 : decode cX11_end 2 = .ok (.aload_n 0, 1) := by decide +kernel
theorem dX11_end_3 : decode cX11_end 3 = .ok (.getfield 218, 3) := by decide +kernel
theorem dX11_end_6 : decode cX11_end 6 = .ok (.invokestatic 37, 3) := by decide +kernel
theorem dX11_end_9 : decode cX11_end 9 = .ok (.ifCond .ne 5, 3) := by decide +kernel
theorem dX11_end_12 : decode cX11_end 12 = .ok (.iconst (-1), 1) := by decide +kernel
theorem dX11_end_13 : decode cX11_end 13 = .ok (.ireturn, 1) := by decide +kernel
theorem dX11_end_14 : decode cX11_end 14 = .ok (.aload_n 0, 1) := by decide +kernel
theorem dX11_end_15 : decode cX11_end 15 = .ok (.iload_n 1, 1) := by decide +kernel
theorem dX11_end_16 : decode cX11_end 16 = .ok (.putfield 218, 3) := by decide +kernel
theorem dX11_end_19 : decode cX11_end 19 = .ok (.iload_n 1, 1) := by decide +kernel
theorem dX11_end_20 : decode cX11_end 20 = .ok (.ireturn, 1) := by decide +kernel
theorem dX11_fault_0 : decode cX11_fault 0 = .ok (.iload_n 1, 1) := by decide +kernel
theorem dX11_fault_1 : decode cX11_fault 1 = .ok (.ifCond .ne 10, 3) := by decide +kernel
theorem dX11_fault_4 : decode cX11_fault 4 = .ok (.aload_n 0, 1) := by decide +kernel
theorem dX11_fault_5 : decode cX11_fault 5 = .ok (.getfield 233, 3) := by decide +kernel
theorem dX11_fault_8 : decode cX11_fault 8 = .ok (.goto 16, 3) := by decide +kernel
theorem dX11_fault_11 : decode cX11_fault 11 = .ok (.iload_n 1, 1) := by decide +kernel
theorem dX11_fault_12 : decode cX11_fault 12 = .ok (.iconst 1, 1) := by decide +kernel
theorem dX11_fault_13 : decode cX11_fault 13 = .ok (.if_icmp .ne 10, 3) := by decide +kernel
theorem dX11_fault_16 : decode cX11_fault 16 = .ok (.aload_n 0, 1) := by decide +kernel
theorem dX11_fault_17 : decode cX11_fault 17 = .ok (.getfield 23, 3) := by decide +kernel
theorem dX11_fault_20 : decode cX11_fault 20 = .ok (.goto 4, 3) := by decide +kernel
theorem dX11_fault_23 : decode cX11_fault 23 = .ok (.iconst (-1), 1) := by decide +kernel
theorem dX11_fault_24 : decode cX11_fault 24 = .ok (.ireturn, 1) := by decide +kernel
theorem dX11_byteAt_0 : decode cX11_byteAt 0 = .ok (.iload_n 1, 1) := by decide +kernel
theorem dX11_byteAt_1 : decode cX11_byteAt 1 = .ok (.aload_n 0, 1) := by decide +kernel
theorem dX11_byteAt_2 : decode cX11_byteAt 2 = .ok (.getfield 236, 3) := by decide +kernel
theorem dX11_byteAt_5 : decode cX11_byteAt 5 = .ok (.if_icmp .ge 12, 3) := by decide +kernel
theorem dX11_byteAt_8 : decode cX11_byteAt 8 = .ok (.aload_n 0, 1) := by decide +kernel
theorem dX11_byteAt_9 : decode cX11_byteAt 9 = .ok (.getfield 13, 3) := by decide +kernel
theorem dX11_byteAt_12 : decode cX11_byteAt 12 = .ok (.iload_n 1, 1) := by decide +kernel
theorem dX11_byteAt_13 : decode cX11_byteAt 13 = .ok (.iaload, 1) := by decide +kernel
theorem dX11_byteAt_14 : decode cX11_byteAt 14 = .ok (.goto 4, 3) := by decide +kernel
theorem dX11_byteAt_17 : decode cX11_byteAt 17 = .ok (.iconst (-1), 1) := by decide +kernel
theorem dX11_byteAt_18 : decode cX11_byteAt 18 = .ok (.ireturn, 1) := by decide +kernel
theorem dX11_isLetter_0 : decode cX11_isLetter 0 = .ok (.iload_n 0, 1) := by decide +kernel
theorem dX11_isLetter_1 : decode cX11_isLetter 1 = .ok (.bipush 97, 2) := by decide +kernel
theorem dX11_isLetter_3 : decode cX11_isLetter 3 = .ok (.if_icmp .lt 13, 3) := by decide +kernel
theorem dX11_isLetter_6 : decode cX11_isLetter 6 = .ok (.iload_n 0, 1) := by decide +kernel
theorem dX11_isLetter_7 : decode cX11_isLetter 7 = .ok (.bipush 122, 2) := by decide +kernel
theorem dX11_isLetter_9 : decode cX11_isLetter 9 = .ok (.if_icmp .gt 7, 3) := by decide +kernel
theorem dX11_isLetter_12 : decode cX11_isLetter 12 = .ok (.iconst 1, 1) := by decide +kernel
theorem dX11_isLetter_13 : decode cX11_isLetter 13 = .ok (.goto 4, 3) := by decide +kernel
theorem dX11_isLetter_16 : decode cX11_isLetter 16 = .ok (.iconst 0, 1) := by decide +kernel
theorem dX11_isLetter_17 : decode cX11_isLetter 17 = .ok (.ireturn, 1) := by decide +kernel
theorem dX11_isDigit_0 : decode cX11_isDigit 0 = .ok (.iload_n 0, 1) := by decide +kernel
theorem dX11_isDigit_1 : decode cX11_isDigit 1 = .ok (.bipush 48, 2) := by decide +kernel
theorem dX11_isDigit_3 : decode cX11_isDigit 3 = .ok (.if_icmp .lt 13, 3) := by decide +kernel
theorem dX11_isDigit_6 : decode cX11_isDigit 6 = .ok (.iload_n 0, 1) := by decide +kernel
theorem dX11_isDigit_7 : decode cX11_isDigit 7 = .ok (.bipush 57, 2) := by decide +kernel
theorem dX11_isDigit_9 : decode cX11_isDigit 9 = .ok (.if_icmp .gt 7, 3) := by decide +kernel
theorem dX11_isDigit_12 : decode cX11_isDigit 12 = .ok (.iconst 1, 1) := by decide +kernel
theorem dX11_isDigit_13 : decode cX11_isDigit 13 = .ok (.goto 4, 3) := by decide +kernel
theorem dX11_isDigit_16 : decode cX11_isDigit 16 = .ok (.iconst 0, 1) := by decide +kernel
theorem dX11_isDigit_17 : decode cX11_isDigit 17 = .ok (.ireturn, 1) := by decide +kernel
theorem dX11_takes_0 : decode cX11_takes 0 = .ok (.aload_n 0, 1) := by decide +kernel
theorem dX11_takes_1 : decode cX11_takes 1 = .ok (.aload_n 0, 1) := by decide +kernel
theorem dX11_takes_2 : decode cX11_takes 2 = .ok (.getfield 239, 3) := by decide +kernel
theorem dX11_takes_5 : decode cX11_takes 5 = .ok (.invokevirtual 242, 3) := by decide +kernel
theorem dX11_takes_8 : decode cX11_takes 8 = .ok (.bipush 32, 2) := by decide +kernel
theorem dX11_takes_10 : decode cX11_takes 10 = .ok (.if_icmp .eq 16, 3) := by decide +kernel
theorem dX11_takes_13 : decode cX11_takes 13 = .ok (.aload_n 0, 1) := by decide +kernel
theorem dX11_takes_14 : decode cX11_takes 14 = .ok (.aload_n 0, 1) := by decide +kernel
theorem dX11_takes_15 : decode cX11_takes 15 = .ok (.getfield 239, 3) := by decide +kernel
theorem dX11_takes_18 : decode cX11_takes 18 = .ok (.invokevirtual 242, 3) := by decide +kernel
theorem dX11_takes_21 : decode cX11_takes 21 = .ok (.bipush 10, 2) := by decide +kernel
theorem dX11_takes_23 : decode cX11_takes 23 = .ok (.if_icmp .ne 16, 3) := by decide +kernel
theorem dX11_takes_26 : decode cX11_takes 26 = .ok (.aload_n 0, 1) := by decide +kernel
theorem dX11_takes_27 : decode cX11_takes 27 = .ok (.dup, 1) := by decide +kernel
theorem dX11_takes_28 : decode cX11_takes 28 = .ok (.getfield 239, 3) := by decide +kernel
theorem dX11_takes_31 : decode cX11_takes 31 = .ok (.iconst 1, 1) := by decide +kernel
theorem dX11_takes_32 : decode cX11_takes 32 = .ok (.iadd, 1) := by decide +kernel
theorem dX11_takes_33 : decode cX11_takes 33 = .ok (.putfield 239, 3) := by decide +kernel
theorem dX11_takes_36 : decode cX11_takes 36 = .ok (.goto (-36), 3) := by decide +kernel
theorem dX11_takes_39 : decode cX11_takes 39 = .ok (.aload_n 0, 1) := by decide +kernel
theorem dX11_takes_40 : decode cX11_takes 40 = .ok (.aload_n 0, 1) := by decide +kernel
theorem dX11_takes_41 : decode cX11_takes 41 = .ok (.getfield 239, 3) := by decide +kernel
theorem dX11_takes_44 : decode cX11_takes 44 = .ok (.putfield 245, 3) := by decide +kernel
theorem dX11_takes_47 : decode cX11_takes 47 = .ok (.aload_n 0, 1) := by decide +kernel
theorem dX11_takes_48 : decode cX11_takes 48 = .ok (.aload_n 0, 1) := by decide +kernel
theorem dX11_takes_49 : decode cX11_takes 49 = .ok (.getfield 239, 3) := by decide +kernel
theorem dX11_takes_52 : decode cX11_takes 52 = .ok (.invokevirtual 242, 3) := by decide +kernel
theorem dX11_takes_55 : decode cX11_takes 55 = .ok (.istore_n 1, 1) := by decide +kernel
theorem dX11_takes_56 : decode cX11_takes 56 = .ok (.aload_n 0, 1) := by decide +kernel
theorem dX11_takes_57 : decode cX11_takes 57 = .ok (.lconst 0, 1) := by decide +kernel
theorem dX11_takes_58 : decode cX11_takes 58 = .ok (.putfield 248, 3) := by decide +kernel
theorem dX11_takes_61 : decode cX11_takes 61 = .ok (.iload_n 1, 1) := by decide +kernel
theorem dX11_takes_62 : decode cX11_takes 62 = .ok (.ifCond .ge 11, 3) := by decide +kernel
theorem dX11_takes_65 : decode cX11_takes 65 = .ok (.aload_n 0, 1) := by decide +kernel
theorem dX11_takes_66 : decode cX11_takes 66 = .ok (.iconst 0, 1) := by decide +kernel
theorem dX11_takes_67 : decode cX11_takes 67 = .ok (.putfield 252, 3) := by decide +kernel
theorem dX11_takes_70 : decode cX11_takes 70 = .ok (.goto 235, 3) := by decide +kernel
theorem dX11_takes_73 : decode cX11_takes 73 = .ok (.iload_n 1, 1) := by decide +kernel
theorem dX11_takes_74 : decode cX11_takes 74 = .ok (.invokestatic 255, 3) := by decide +kernel
theorem dX11_takes_77 : decode cX11_takes 77 = .ok (.ifCond .eq 86, 3) := by decide +kernel
theorem dX11_takes_80 : decode cX11_takes 80 = .ok (.aload_n 0, 1) := by decide +kernel
theorem dX11_takes_81 : decode cX11_takes 81 = .ok (.aload_n 0, 1) := by decide +kernel
theorem dX11_takes_82 : decode cX11_takes 82 = .ok (.getfield 239, 3) := by decide +kernel
theorem dX11_takes_85 : decode cX11_takes 85 = .ok (.invokevirtual 242, 3) := by decide +kernel
theorem dX11_takes_88 : decode cX11_takes 88 = .ok (.invokestatic 255, 3) := by decide +kernel
theorem dX11_takes_91 : decode cX11_takes 91 = .ok (.ifCond .eq 64, 3) := by decide +kernel
theorem dX11_takes_94 : decode cX11_takes 94 = .ok (.aload_n 0, 1) := by decide +kernel
theorem dX11_takes_95 : decode cX11_takes 95 = .ok (.aload_n 0, 1) := by decide +kernel
theorem dX11_takes_96 : decode cX11_takes 96 = .ok (.getfield 239, 3) := by decide +kernel
theorem dX11_takes_99 : decode cX11_takes 99 = .ok (.aload_n 0, 1) := by decide +kernel
theorem dX11_takes_100 : decode cX11_takes 100 = .ok (.getfield 245, 3) := by decide +kernel
theorem dX11_takes_103 : decode cX11_takes 103 = .ok (.isub, 1) := by decide +kernel
theorem dX11_takes_104 : decode cX11_takes 104 = .ok (.bipush 9, 2) := by decide +kernel
theorem dX11_takes_106 : decode cX11_takes 106 = .ok (.if_icmp .ge 30, 3) := by decide +kernel
theorem dX11_takes_109 : decode cX11_takes 109 = .ok (.ldc2_w 258, 3) := by decide +kernel
theorem dX11_takes_112 : decode cX11_takes 112 = .ok (.aload_n 0, 1) := by decide +kernel
theorem dX11_takes_113 : decode cX11_takes 113 = .ok (.getfield 248, 3) := by decide +kernel
theorem dX11_takes_116 : decode cX11_takes 116 = .ok (.lmul, 1) := by decide +kernel
theorem dX11_takes_117 : decode cX11_takes 117 = .ok (.aload_n 0, 1) := by decide +kernel
theorem dX11_takes_118 : decode cX11_takes 118 = .ok (.aload_n 0, 1) := by decide +kernel
theorem dX11_takes_119 : decode cX11_takes 119 = .ok (.getfield 239, 3) := by decide +kernel
theorem dX11_takes_122 : decode cX11_takes 122 = .ok (.invokevirtual 242, 3) := by decide +kernel
theorem dX11_takes_125 : decode cX11_takes 125 = .ok (.i2l, 1) := by decide +kernel
theorem dX11_takes_126 : decode cX11_takes 126 = .ok (.ladd, 1) := by decide +kernel
theorem dX11_takes_127 : decode cX11_takes 127 = .ok (.ldc2_w 260, 3) := by decide +kernel
theorem dX11_takes_130 : decode cX11_takes 130 = .ok (.lsub, 1) := by decide +kernel
theorem dX11_takes_131 : decode cX11_takes 131 = .ok (.lconst 1, 1) := by decide +kernel
theorem dX11_takes_132 : decode cX11_takes 132 = .ok (.ladd, 1) := by decide +kernel
theorem dX11_takes_133 : decode cX11_takes 133 = .ok (.goto 6, 3) := by decide +kernel
theorem dX11_takes_136 : decode cX11_takes 136 = .ok (.ldc2_w 262, 3) := by decide +kernel
theorem dX11_takes_139 : decode cX11_takes 139 = .ok (.putfield 248, 3) := by decide +kernel
theorem dX11_takes_142 : decode cX11_takes 142 = .ok (.aload_n 0, 1) := by decide +kernel
theorem dX11_takes_143 : decode cX11_takes 143 = .ok (.dup, 1) := by decide +kernel
theorem dX11_takes_144 : decode cX11_takes 144 = .ok (.getfield 239, 3) := by decide +kernel
theorem dX11_takes_147 : decode cX11_takes 147 = .ok (.iconst 1, 1) := by decide +kernel
theorem dX11_takes_148 : decode cX11_takes 148 = .ok (.iadd, 1) := by decide +kernel
theorem dX11_takes_149 : decode cX11_takes 149 = .ok (.putfield 239, 3) := by decide +kernel
theorem dX11_takes_152 : decode cX11_takes 152 = .ok (.goto (-72), 3) := by decide +kernel
theorem dX11_takes_155 : decode cX11_takes 155 = .ok (.aload_n 0, 1) := by decide +kernel
theorem dX11_takes_156 : decode cX11_takes 156 = .ok (.iconst 1, 1) := by decide +kernel
theorem dX11_takes_157 : decode cX11_takes 157 = .ok (.putfield 252, 3) := by decide +kernel
theorem dX11_takes_160 : decode cX11_takes 160 = .ok (.goto 145, 3) := by decide +kernel
theorem dX11_takes_163 : decode cX11_takes 163 = .ok (.iload_n 1, 1) := by decide +kernel
theorem dX11_takes_164 : decode cX11_takes 164 = .ok (.invokestatic 264, 3) := by decide +kernel
theorem dX11_takes_167 : decode cX11_takes 167 = .ok (.ifCond .eq 101, 3) := by decide +kernel
theorem dX11_takes_170 : decode cX11_takes 170 = .ok (.aload_n 0, 1) := by decide +kernel
theorem dX11_takes_171 : decode cX11_takes 171 = .ok (.aload_n 0, 1) := by decide +kernel
theorem dX11_takes_172 : decode cX11_takes 172 = .ok (.getfield 239, 3) := by decide +kernel
theorem dX11_takes_175 : decode cX11_takes 175 = .ok (.invokevirtual 242, 3) := by decide +kernel
theorem dX11_takes_178 : decode cX11_takes 178 = .ok (.invokestatic 264, 3) := by decide +kernel
theorem dX11_takes_181 : decode cX11_takes 181 = .ok (.ifCond .eq 62, 3) := by decide +kernel
theorem dX11_takes_184 : decode cX11_takes 184 = .ok (.aload_n 0, 1) := by decide +kernel
theorem dX11_takes_185 : decode cX11_takes 185 = .ok (.aload_n 0, 1) := by decide +kernel
theorem dX11_takes_186 : decode cX11_takes 186 = .ok (.getfield 239, 3) := by decide +kernel
theorem dX11_takes_189 : decode cX11_takes 189 = .ok (.aload_n 0, 1) := by decide +kernel
theorem dX11_takes_190 : decode cX11_takes 190 = .ok (.getfield 245, 3) := by decide +kernel
theorem dX11_takes_193 : decode cX11_takes 193 = .ok (.isub, 1) := by decide +kernel
theorem dX11_takes_194 : decode cX11_takes 194 = .ok (.iconst 4, 1) := by decide +kernel
theorem dX11_takes_195 : decode cX11_takes 195 = .ok (.if_icmp .ge 28, 3) := by decide +kernel
theorem dX11_takes_198 : decode cX11_takes 198 = .ok (.ldc2_w 267, 3) := by decide +kernel
theorem dX11_takes_201 : decode cX11_takes 201 = .ok (.aload_n 0, 1) := by decide +kernel
theorem dX11_takes_202 : decode cX11_takes 202 = .ok (.getfield 248, 3) := by decide +kernel
theorem dX11_takes_205 : decode cX11_takes 205 = .ok (.lmul, 1) := by decide +kernel
theorem dX11_takes_206 : decode cX11_takes 206 = .ok (.aload_n 0, 1) := by decide +kernel
theorem dX11_takes_207 : decode cX11_takes 207 = .ok (.aload_n 0, 1) := by decide +kernel
theorem dX11_takes_208 : decode cX11_takes 208 = .ok (.getfield 239, 3) := by decide +kernel
theorem dX11_takes_211 : decode cX11_takes 211 = .ok (.invokevirtual 242, 3) := by decide +kernel
theorem dX11_takes_214 : decode cX11_takes 214 = .ok (.i2l, 1) := by decide +kernel
theorem dX11_takes_215 : decode cX11_takes 215 = .ok (.ladd, 1) := by decide +kernel
theorem dX11_takes_216 : decode cX11_takes 216 = .ok (.ldc2_w 269, 3) := by decide +kernel
theorem dX11_takes_219 : decode cX11_takes 219 = .ok (.lsub, 1) := by decide +kernel
theorem dX11_takes_220 : decode cX11_takes 220 = .ok (.goto 7, 3) := by decide +kernel
theorem dX11_takes_223 : decode cX11_takes 223 = .ok (.aload_n 0, 1) := by decide +kernel
theorem dX11_takes_224 : decode cX11_takes 224 = .ok (.getfield 248, 3) := by decide +kernel
theorem dX11_takes_227 : decode cX11_takes 227 = .ok (.putfield 248, 3) := by decide +kernel
theorem dX11_takes_230 : decode cX11_takes 230 = .ok (.aload_n 0, 1) := by decide +kernel
theorem dX11_takes_231 : decode cX11_takes 231 = .ok (.dup, 1) := by decide +kernel
theorem dX11_takes_232 : decode cX11_takes 232 = .ok (.getfield 239, 3) := by decide +kernel
theorem dX11_takes_235 : decode cX11_takes 235 = .ok (.iconst 1, 1) := by decide +kernel
theorem dX11_takes_236 : decode cX11_takes 236 = .ok (.iadd, 1) := by decide +kernel
theorem dX11_takes_237 : decode cX11_takes 237 = .ok (.putfield 239, 3) := by decide +kernel
theorem dX11_takes_240 : decode cX11_takes 240 = .ok (.goto (-70), 3) := by decide +kernel
theorem dX11_takes_243 : decode cX11_takes 243 = .ok (.aload_n 0, 1) := by decide +kernel
theorem dX11_takes_244 : decode cX11_takes 244 = .ok (.aload_n 0, 1) := by decide +kernel
theorem dX11_takes_245 : decode cX11_takes 245 = .ok (.getfield 239, 3) := by decide +kernel
theorem dX11_takes_248 : decode cX11_takes 248 = .ok (.aload_n 0, 1) := by decide +kernel
theorem dX11_takes_249 : decode cX11_takes 249 = .ok (.getfield 245, 3) := by decide +kernel
theorem dX11_takes_252 : decode cX11_takes 252 = .ok (.isub, 1) := by decide +kernel
theorem dX11_takes_253 : decode cX11_takes 253 = .ok (.iconst 4, 1) := by decide +kernel
theorem dX11_takes_254 : decode cX11_takes 254 = .ok (.if_icmp .le 7, 3) := by decide +kernel
theorem dX11_takes_257 : decode cX11_takes 257 = .ok (.iconst 4, 1) := by decide +kernel
theorem dX11_takes_258 : decode cX11_takes 258 = .ok (.goto 4, 3) := by decide +kernel
theorem dX11_takes_261 : decode cX11_takes 261 = .ok (.iconst 2, 1) := by decide +kernel
theorem dX11_takes_262 : decode cX11_takes 262 = .ok (.putfield 252, 3) := by decide +kernel
theorem dX11_takes_265 : decode cX11_takes 265 = .ok (.goto 40, 3) := by decide +kernel
theorem dX11_takes_268 : decode cX11_takes 268 = .ok (.aload_n 0, 1) := by decide +kernel
theorem dX11_takes_269 : decode cX11_takes 269 = .ok (.dup, 1) := by decide +kernel
theorem dX11_takes_270 : decode cX11_takes 270 = .ok (.getfield 239, 3) := by decide +kernel
theorem dX11_takes_273 : decode cX11_takes 273 = .ok (.iconst 1, 1) := by decide +kernel
theorem dX11_takes_274 : decode cX11_takes 274 = .ok (.iadd, 1) := by decide +kernel
theorem dX11_takes_275 : decode cX11_takes 275 = .ok (.putfield 239, 3) := by decide +kernel
theorem dX11_takes_278 : decode cX11_takes 278 = .ok (.aload_n 0, 1) := by decide +kernel
theorem dX11_takes_279 : decode cX11_takes 279 = .ok (.iload_n 1, 1) := by decide +kernel
theorem dX11_takes_280 : decode cX11_takes 280 = .ok (.i2l, 1) := by decide +kernel
theorem dX11_takes_281 : decode cX11_takes 281 = .ok (.putfield 248, 3) := by decide +kernel
theorem dX11_takes_284 : decode cX11_takes 284 = .ok (.aload_n 0, 1) := by decide +kernel
theorem dX11_takes_285 : decode cX11_takes 285 = .ok (.iload_n 1, 1) := by decide +kernel
theorem dX11_takes_286 : decode cX11_takes 286 = .ok (.bipush 59, 2) := by decide +kernel
theorem dX11_takes_288 : decode cX11_takes 288 = .ok (.if_icmp .eq 9, 3) := by decide +kernel
theorem dX11_takes_291 : decode cX11_takes 291 = .ok (.iload_n 1, 1) := by decide +kernel
theorem dX11_takes_292 : decode cX11_takes 292 = .ok (.bipush 45, 2) := by decide +kernel
theorem dX11_takes_294 : decode cX11_takes 294 = .ok (.if_icmp .ne 7, 3) := by decide +kernel
theorem dX11_takes_297 : decode cX11_takes 297 = .ok (.iconst 3, 1) := by decide +kernel
theorem dX11_takes_298 : decode cX11_takes 298 = .ok (.goto 4, 3) := by decide +kernel
theorem dX11_takes_301 : decode cX11_takes 301 = .ok (.iconst 4, 1) := by decide +kernel
theorem dX11_takes_302 : decode cX11_takes 302 = .ok (.putfield 252, 3) := by decide +kernel
theorem dX11_takes_305 : decode cX11_takes 305 = .ok (.return_, 1) := by decide +kernel
theorem dX11_fails_0 : decode cX11_fails 0 = .ok (.aload_n 0, 1) := by decide +kernel
theorem dX11_fails_1 : decode cX11_fails 1 = .ok (.getfield 233, 3) := by decide +kernel
theorem dX11_fails_4 : decode cX11_fails 4 = .ok (.ifCond .le 4, 3) := by decide +kernel
theorem dX11_fails_7 : decode cX11_fails 7 = .ok (.return_, 1) := by decide +kernel
theorem dX11_fails_8 : decode cX11_fails 8 = .ok (.aload_n 0, 1) := by decide +kernel
theorem dX11_fails_9 : decode cX11_fails 9 = .ok (.iload_n 1, 1) := by decide +kernel
theorem dX11_fails_10 : decode cX11_fails 10 = .ok (.putfield 233, 3) := by decide +kernel
theorem dX11_fails_13 : decode cX11_fails 13 = .ok (.aload_n 0, 1) := by decide +kernel
theorem dX11_fails_14 : decode cX11_fails 14 = .ok (.iload_n 2, 1) := by decide +kernel
theorem dX11_fails_15 : decode cX11_fails 15 = .ok (.putfield 23, 3) := by decide +kernel
theorem dX11_fails_18 : decode cX11_fails 18 = .ok (.return_, 1) := by decide +kernel
theorem dX11_isGood_0 : decode cX11_isGood 0 = .ok (.aload_n 0, 1) := by decide +kernel
theorem dX11_isGood_1 : decode cX11_isGood 1 = .ok (.getfield 233, 3) := by decide +kernel
theorem dX11_isGood_4 : decode cX11_isGood 4 = .ok (.ifCond .ne 7, 3) := by decide +kernel
theorem dX11_isGood_7 : decode cX11_isGood 7 = .ok (.iconst 1, 1) := by decide +kernel
theorem dX11_isGood_8 : decode cX11_isGood 8 = .ok (.goto 4, 3) := by decide +kernel
theorem dX11_isGood_11 : decode cX11_isGood 11 = .ok (.iconst 0, 1) := by decide +kernel
theorem dX11_isGood_12 : decode cX11_isGood 12 = .ok (.ireturn, 1) := by decide +kernel
theorem dX11_hasWord_0 : decode cX11_hasWord 0 = .ok (.aload_n 0, 1) := by decide +kernel
theorem dX11_hasWord_1 : decode cX11_hasWord 1 = .ok (.invokevirtual 271, 3) := by decide +kernel
theorem dX11_hasWord_4 : decode cX11_hasWord 4 = .ok (.ifCond .eq 24, 3) := by decide +kernel
theorem dX11_hasWord_7 : decode cX11_hasWord 7 = .ok (.aload_n 0, 1) := by decide +kernel
theorem dX11_hasWord_8 : decode cX11_hasWord 8 = .ok (.getfield 252, 3) := by decide +kernel
theorem dX11_hasWord_11 : decode cX11_hasWord 11 = .ok (.iconst 1, 1) := by decide +kernel
theorem dX11_hasWord_12 : decode cX11_hasWord 12 = .ok (.if_icmp .ne 16, 3) := by decide +kernel
theorem dX11_hasWord_15 : decode cX11_hasWord 15 = .ok (.aload_n 0, 1) := by decide +kernel
theorem dX11_hasWord_16 : decode cX11_hasWord 16 = .ok (.getfield 248, 3) := by decide +kernel
theorem dX11_hasWord_19 : decode cX11_hasWord 19 = .ok (.lload_n 1, 1) := by decide +kernel
theorem dX11_hasWord_20 : decode cX11_hasWord 20 = .ok (.lcmp, 1) := by decide +kernel
theorem dX11_hasWord_21 : decode cX11_hasWord 21 = .ok (.ifCond .ne 7, 3) := by decide +kernel
theorem dX11_hasWord_24 : decode cX11_hasWord 24 = .ok (.iconst 1, 1) := by decide +kernel
theorem dX11_hasWord_25 : decode cX11_hasWord 25 = .ok (.goto 4, 3) := by decide +kernel
theorem dX11_hasWord_28 : decode cX11_hasWord 28 = .ok (.iconst 0, 1) := by decide +kernel
theorem dX11_hasWord_29 : decode cX11_hasWord 29 = .ok (.istore_n 3, 1) := by decide +kernel
theorem dX11_hasWord_30 : decode cX11_hasWord 30 = .ok (.iload_n 3, 1) := by decide +kernel
theorem dX11_hasWord_31 : decode cX11_hasWord 31 = .ok (.ifCond .eq 7, 3) := by decide +kernel
theorem dX11_hasWord_34 : decode cX11_hasWord 34 = .ok (.aload_n 0, 1) := by decide +kernel
theorem dX11_hasWord_35 : decode cX11_hasWord 35 = .ok (.invokevirtual 275, 3) := by decide +kernel
theorem dX11_hasWord_38 : decode cX11_hasWord 38 = .ok (.iload_n 3, 1) := by decide +kernel
theorem dX11_hasWord_39 : decode cX11_hasWord 39 = .ok (.ireturn, 1) := by decide +kernel
theorem dX11_hasSign_0 : decode cX11_hasSign 0 = .ok (.aload_n 0, 1) := by decide +kernel
theorem dX11_hasSign_1 : decode cX11_hasSign 1 = .ok (.invokevirtual 271, 3) := by decide +kernel
theorem dX11_hasSign_4 : decode cX11_hasSign 4 = .ok (.ifCond .eq 25, 3) := by decide +kernel
theorem dX11_hasSign_7 : decode cX11_hasSign 7 = .ok (.aload_n 0, 1) := by decide +kernel
theorem dX11_hasSign_8 : decode cX11_hasSign 8 = .ok (.getfield 252, 3) := by decide +kernel
theorem dX11_hasSign_11 : decode cX11_hasSign 11 = .ok (.iconst 3, 1) := by decide +kernel
theorem dX11_hasSign_12 : decode cX11_hasSign 12 = .ok (.if_icmp .ne 17, 3) := by decide +kernel
theorem dX11_hasSign_15 : decode cX11_hasSign 15 = .ok (.aload_n 0, 1) := by decide +kernel
theorem dX11_hasSign_16 : decode cX11_hasSign 16 = .ok (.getfield 248, 3) := by decide +kernel
theorem dX11_hasSign_19 : decode cX11_hasSign 19 = .ok (.iload_n 1, 1) := by decide +kernel
theorem dX11_hasSign_20 : decode cX11_hasSign 20 = .ok (.i2l, 1) := by decide +kernel
theorem dX11_hasSign_21 : decode cX11_hasSign 21 = .ok (.lcmp, 1) := by decide +kernel
theorem dX11_hasSign_22 : decode cX11_hasSign 22 = .ok (.ifCond .ne 7, 3) := by decide +kernel
theorem dX11_hasSign_25 : decode cX11_hasSign 25 = .ok (.iconst 1, 1) := by decide +kernel
theorem dX11_hasSign_26 : decode cX11_hasSign 26 = .ok (.goto 4, 3) := by decide +kernel
theorem dX11_hasSign_29 : decode cX11_hasSign 29 = .ok (.iconst 0, 1) := by decide +kernel
theorem dX11_hasSign_30 : decode cX11_hasSign 30 = .ok (.istore_n 2, 1) := by decide +kernel
theorem dX11_hasSign_31 : decode cX11_hasSign 31 = .ok (.iload_n 2, 1) := by decide +kernel
theorem dX11_hasSign_32 : decode cX11_hasSign 32 = .ok (.ifCond .eq 7, 3) := by decide +kernel
theorem dX11_hasSign_35 : decode cX11_hasSign 35 = .ok (.aload_n 0, 1) := by decide +kernel
theorem dX11_hasSign_36 : decode cX11_hasSign 36 = .ok (.invokevirtual 275, 3) := by decide +kernel
theorem dX11_hasSign_39 : decode cX11_hasSign 39 = .ok (.iload_n 2, 1) := by decide +kernel
theorem dX11_hasSign_40 : decode cX11_hasSign 40 = .ok (.ireturn, 1) := by decide +kernel
theorem dX11_numeral_0 : decode cX11_numeral 0 = .ok (.aload_n 0, 1) := by decide +kernel
theorem dX11_numeral_1 : decode cX11_numeral 1 = .ok (.invokevirtual 271, 3) := by decide +kernel
theorem dX11_numeral_4 : decode cX11_numeral 4 = .ok (.ifCond .eq 20, 3) := by decide +kernel
theorem dX11_numeral_7 : decode cX11_numeral 7 = .ok (.aload_n 0, 1) := by decide +kernel
theorem dX11_numeral_8 : decode cX11_numeral 8 = .ok (.getfield 252, 3) := by decide +kernel
theorem dX11_numeral_11 : decode cX11_numeral 11 = .ok (.iconst 2, 1) := by decide +kernel
theorem dX11_numeral_12 : decode cX11_numeral 12 = .ok (.if_icmp .eq 12, 3) := by decide +kernel
theorem dX11_numeral_15 : decode cX11_numeral 15 = .ok (.aload_n 0, 1) := by decide +kernel
theorem dX11_numeral_16 : decode cX11_numeral 16 = .ok (.iconst 1, 1) := by decide +kernel
theorem dX11_numeral_17 : decode cX11_numeral 17 = .ok (.aload_n 0, 1) := by decide +kernel
theorem dX11_numeral_18 : decode cX11_numeral 18 = .ok (.getfield 245, 3) := by decide +kernel
theorem dX11_numeral_21 : decode cX11_numeral 21 = .ok (.invokevirtual 278, 3) := by decide +kernel
theorem dX11_numeral_24 : decode cX11_numeral 24 = .ok (.aload_n 0, 1) := by decide +kernel
theorem dX11_numeral_25 : decode cX11_numeral 25 = .ok (.invokevirtual 271, 3) := by decide +kernel
theorem dX11_numeral_28 : decode cX11_numeral 28 = .ok (.ifCond .ne 5, 3) := by decide +kernel
theorem dX11_numeral_31 : decode cX11_numeral 31 = .ok (.iconst 0, 1) := by decide +kernel
theorem dX11_numeral_32 : decode cX11_numeral 32 = .ok (.ireturn, 1) := by decide +kernel
theorem dX11_numeral_33 : decode cX11_numeral 33 = .ok (.aload_n 0, 1) := by decide +kernel
theorem dX11_numeral_34 : decode cX11_numeral 34 = .ok (.getfield 248, 3) := by decide +kernel
theorem dX11_numeral_37 : decode cX11_numeral 37 = .ok (.l2i, 1) := by decide +kernel
theorem dX11_numeral_38 : decode cX11_numeral 38 = .ok (.istore_n 1, 1) := by decide +kernel
theorem dX11_numeral_39 : decode cX11_numeral 39 = .ok (.aload_n 0, 1) := by decide +kernel
theorem dX11_numeral_40 : decode cX11_numeral 40 = .ok (.invokevirtual 275, 3) := by decide +kernel
theorem dX11_numeral_43 : decode cX11_numeral 43 = .ok (.iload_n 1, 1) := by decide +kernel
theorem dX11_numeral_44 : decode cX11_numeral 44 = .ok (.ireturn, 1) := by decide +kernel
theorem dX11_setNumber_0 : decode cX11_setNumber 0 = .ok (.aload_n 0, 1) := by decide +kernel
theorem dX11_setNumber_1 : decode cX11_setNumber 1 = .ok (.getfield 245, 3) := by decide +kernel
theorem dX11_setNumber_4 : decode cX11_setNumber 4 = .ok (.istore_n 1, 1) := by decide +kernel
theorem dX11_setNumber_5 : decode cX11_setNumber 5 = .ok (.aload_n 0, 1) := by decide +kernel
theorem dX11_setNumber_6 : decode cX11_setNumber 6 = .ok (.invokevirtual 281, 3) := by decide +kernel
theorem dX11_setNumber_9 : decode cX11_setNumber 9 = .ok (.istore_n 2, 1) := by decide +kernel
theorem dX11_setNumber_10 : decode cX11_setNumber 10 = .ok (.aload_n 0, 1) := by decide +kernel
theorem dX11_setNumber_11 : decode cX11_setNumber 11 = .ok (.invokevirtual 271, 3) := by decide +kernel
theorem dX11_setNumber_14 : decode cX11_setNumber 14 = .ok (.ifCond .eq 16, 3) := by decide +kernel
theorem dX11_setNumber_17 : decode cX11_setNumber 17 = .ok (.iload_n 2, 1) := by decide +kernel
theorem dX11_setNumber_18 : decode cX11_setNumber 18 = .ok (.invokestatic 112, 3) := by decide +kernel
theorem dX11_setNumber_21 : decode cX11_setNumber 21 = .ok (.ifCond .ne 9, 3) := by decide +kernel
theorem dX11_setNumber_24 : decode cX11_setNumber 24 = .ok (.aload_n 0, 1) := by decide +kernel
theorem dX11_setNumber_25 : decode cX11_setNumber 25 = .ok (.iconst 2, 1) := by decide +kernel
theorem dX11_setNumber_26 : decode cX11_setNumber 26 = .ok (.iload_n 1, 1) := by decide +kernel
theorem dX11_setNumber_27 : decode cX11_setNumber 27 = .ok (.invokevirtual 278, 3) := by decide +kernel
theorem dX11_setNumber_30 : decode cX11_setNumber 30 = .ok (.aload_n 0, 1) := by decide +kernel
theorem dX11_setNumber_31 : decode cX11_setNumber 31 = .ok (.invokevirtual 271, 3) := by decide +kernel
theorem dX11_setNumber_34 : decode cX11_setNumber 34 = .ok (.ifCond .eq 7, 3) := by decide +kernel
theorem dX11_setNumber_37 : decode cX11_setNumber 37 = .ok (.iload_n 2, 1) := by decide +kernel
theorem dX11_setNumber_38 : decode cX11_setNumber 38 = .ok (.goto 4, 3) := by decide +kernel
theorem dX11_setNumber_41 : decode cX11_setNumber 41 = .ok (.iconst 0, 1) := by decide +kernel
theorem dX11_setNumber_42 : decode cX11_setNumber 42 = .ok (.ireturn, 1) := by decide +kernel
theorem dX11_readsKeys_0 : decode cX11_readsKeys 0 = .ok (.aload_n 0, 1) := by decide +kernel
theorem dX11_readsKeys_1 : decode cX11_readsKeys 1 = .ok (.getfield 245, 3) := by decide +kernel
theorem dX11_readsKeys_4 : decode cX11_readsKeys 4 = .ok (.istore_n 2, 1) := by decide +kernel
theorem dX11_readsKeys_5 : decode cX11_readsKeys 5 = .ok (.aload_n 0, 1) := by decide +kernel
theorem dX11_readsKeys_6 : decode cX11_readsKeys 6 = .ok (.invokevirtual 281, 3) := by decide +kernel
theorem dX11_readsKeys_9 : decode cX11_readsKeys 9 = .ok (.istore_n 3, 1) := by decide +kernel
theorem dX11_readsKeys_10 : decode cX11_readsKeys 10 = .ok (.iload_n 3, 1) := by decide +kernel
theorem dX11_readsKeys_11 : decode cX11_readsKeys 11 = .ok (.istore 4, 2) := by decide +kernel
theorem dX11_readsKeys_13 : decode cX11_readsKeys 13 = .ok (.aload_n 0, 1) := by decide +kernel
theorem dX11_readsKeys_14 : decode cX11_readsKeys 14 = .ok (.bipush 45, 2) := by decide +kernel
theorem dX11_readsKeys_16 : decode cX11_readsKeys 16 = .ok (.invokevirtual 284, 3) := by decide +kernel
theorem dX11_readsKeys_19 : decode cX11_readsKeys 19 = .ok (.ifCond .eq 35, 3) := by decide +kernel
theorem dX11_readsKeys_22 : decode cX11_readsKeys 22 = .ok (.aload_n 0, 1) := by decide +kernel
theorem dX11_readsKeys_23 : decode cX11_readsKeys 23 = .ok (.getfield 245, 3) := by decide +kernel
theorem dX11_readsKeys_26 : decode cX11_readsKeys 26 = .ok (.istore 5, 2) := by decide +kernel
theorem dX11_readsKeys_28 : decode cX11_readsKeys 28 = .ok (.aload_n 0, 1) := by decide +kernel
theorem dX11_readsKeys_29 : decode cX11_readsKeys 29 = .ok (.invokevirtual 281, 3) := by decide +kernel
theorem dX11_readsKeys_32 : decode cX11_readsKeys 32 = .ok (.istore 4, 2) := by decide +kernel
theorem dX11_readsKeys_34 : decode cX11_readsKeys 34 = .ok (.aload_n 0, 1) := by decide +kernel
theorem dX11_readsKeys_35 : decode cX11_readsKeys 35 = .ok (.invokevirtual 271, 3) := by decide +kernel
theorem dX11_readsKeys_38 : decode cX11_readsKeys 38 = .ok (.ifCond .eq 16, 3) := by decide +kernel
theorem dX11_readsKeys_41 : decode cX11_readsKeys 41 = .ok (.iload 4, 2) := by decide +kernel
theorem dX11_readsKeys_43 : decode cX11_readsKeys 43 = .ok (.iload_n 3, 1) := by decide +kernel
theorem dX11_readsKeys_44 : decode cX11_readsKeys 44 = .ok (.if_icmp .ge 10, 3) := by decide +kernel
theorem dX11_readsKeys_47 : decode cX11_readsKeys 47 = .ok (.aload_n 0, 1) := by decide +kernel
theorem dX11_readsKeys_48 : decode cX11_readsKeys 48 = .ok (.iconst 2, 1) := by decide +kernel
theorem dX11_readsKeys_49 : decode cX11_readsKeys 49 = .ok (.iload 5, 2) := by decide +kernel
theorem dX11_readsKeys_51 : decode cX11_readsKeys 51 = .ok (.invokevirtual 278, 3) := by decide +kernel
theorem dX11_readsKeys_54 : decode cX11_readsKeys 54 = .ok (.iload_n 3, 1) := by decide +kernel
theorem dX11_readsKeys_55 : decode cX11_readsKeys 55 = .ok (.istore 5, 2) := by decide +kernel
theorem dX11_readsKeys_57 : decode cX11_readsKeys 57 = .ok (.iload 5, 2) := by decide +kernel
theorem dX11_readsKeys_59 : decode cX11_readsKeys 59 = .ok (.iload 4, 2) := by decide +kernel
theorem dX11_readsKeys_61 : decode cX11_readsKeys 61 = .ok (.if_icmp .gt 50, 3) := by decide +kernel
theorem dX11_readsKeys_64 : decode cX11_readsKeys 64 = .ok (.aload_n 0, 1) := by decide +kernel
theorem dX11_readsKeys_65 : decode cX11_readsKeys 65 = .ok (.invokevirtual 271, 3) := by decide +kernel
theorem dX11_readsKeys_68 : decode cX11_readsKeys 68 = .ok (.ifCond .eq 43, 3) := by decide +kernel
theorem dX11_readsKeys_71 : decode cX11_readsKeys 71 = .ok (.aload_n 0, 1) := by decide +kernel
theorem dX11_readsKeys_72 : decode cX11_readsKeys 72 = .ok (.iload_n 1, 1) := by decide +kernel
theorem dX11_readsKeys_73 : decode cX11_readsKeys 73 = .ok (.iload 5, 2) := by decide +kernel
theorem dX11_readsKeys_75 : decode cX11_readsKeys 75 = .ok (.invokevirtual 160, 3) := by decide +kernel
theorem dX11_readsKeys_78 : decode cX11_readsKeys 78 = .ok (.istore 6, 2) := by decide +kernel
theorem dX11_readsKeys_80 : decode cX11_readsKeys 80 = .ok (.iload 6, 2) := by decide +kernel
theorem dX11_readsKeys_82 : decode cX11_readsKeys 82 = .ok (.iconst 4, 1) := by decide +kernel
theorem dX11_readsKeys_83 : decode cX11_readsKeys 83 = .ok (.if_icmp .ne 9, 3) := by decide +kernel
theorem dX11_readsKeys_86 : decode cX11_readsKeys 86 = .ok (.aload_n 0, 1) := by decide +kernel
theorem dX11_readsKeys_87 : decode cX11_readsKeys 87 = .ok (.iconst 3, 1) := by decide +kernel
theorem dX11_readsKeys_88 : decode cX11_readsKeys 88 = .ok (.iload_n 2, 1) := by decide +kernel
theorem dX11_readsKeys_89 : decode cX11_readsKeys 89 = .ok (.invokevirtual 278, 3) := by decide +kernel
theorem dX11_readsKeys_92 : decode cX11_readsKeys 92 = .ok (.iload 6, 2) := by decide +kernel
theorem dX11_readsKeys_94 : decode cX11_readsKeys 94 = .ok (.ifCond .ne 11, 3) := by decide +kernel
theorem dX11_readsKeys_97 : decode cX11_readsKeys 97 = .ok (.aload_n 0, 1) := by decide +kernel
theorem dX11_readsKeys_98 : decode cX11_readsKeys 98 = .ok (.iload_n 1, 1) := by decide +kernel
theorem dX11_readsKeys_99 : decode cX11_readsKeys 99 = .ok (.iload 5, 2) := by decide +kernel
theorem dX11_readsKeys_101 : decode cX11_readsKeys 101 = .ok (.iconst 0, 1) := by decide +kernel
theorem dX11_readsKeys_102 : decode cX11_readsKeys 102 = .ok (.invokevirtual 144, 3) := by decide +kernel
theorem dX11_readsKeys_105 : decode cX11_readsKeys 105 = .ok (.iinc 5 1, 3) := by decide +kernel
theorem dX11_readsKeys_108 : decode cX11_readsKeys 108 = .ok (.goto (-51), 3) := by decide +kernel
theorem dX11_readsKeys_111 : decode cX11_readsKeys 111 = .ok (.return_, 1) := by decide +kernel
theorem dX11_readsSet_0 : decode cX11_readsSet 0 = .ok (.aload_n 0, 1) := by decide +kernel
theorem dX11_readsSet_1 : decode cX11_readsSet 1 = .ok (.invokevirtual 287, 3) := by decide +kernel
theorem dX11_readsSet_4 : decode cX11_readsSet 4 = .ok (.istore_n 1, 1) := by decide +kernel
theorem dX11_readsSet_5 : decode cX11_readsSet 5 = .ok (.aload_n 0, 1) := by decide +kernel
theorem dX11_readsSet_6 : decode cX11_readsSet 6 = .ok (.invokevirtual 271, 3) := by decide +kernel
theorem dX11_readsSet_9 : decode cX11_readsSet 9 = .ok (.ifCond .eq 19, 3) := by decide +kernel
theorem dX11_readsSet_12 : decode cX11_readsSet 12 = .ok (.aload_n 0, 1) := by decide +kernel
theorem dX11_readsSet_13 : decode cX11_readsSet 13 = .ok (.getfield 252, 3) := by decide +kernel
theorem dX11_readsSet_16 : decode cX11_readsSet 16 = .ok (.iconst 2, 1) := by decide +kernel
theorem dX11_readsSet_17 : decode cX11_readsSet 17 = .ok (.if_icmp .ne 11, 3) := by decide +kernel
theorem dX11_readsSet_20 : decode cX11_readsSet 20 = .ok (.aload_n 0, 1) := by decide +kernel
theorem dX11_readsSet_21 : decode cX11_readsSet 21 = .ok (.iload_n 1, 1) := by decide +kernel
theorem dX11_readsSet_22 : decode cX11_readsSet 22 = .ok (.invokevirtual 290, 3) := by decide +kernel
theorem dX11_readsSet_25 : decode cX11_readsSet 25 = .ok (.goto (-20), 3) := by decide +kernel
theorem dX11_readsSet_28 : decode cX11_readsSet 28 = .ok (.aload_n 0, 1) := by decide +kernel
theorem dX11_readsSet_29 : decode cX11_readsSet 29 = .ok (.invokevirtual 293, 3) := by decide +kernel
theorem dX11_readsSet_32 : decode cX11_readsSet 32 = .ok (.return_, 1) := by decide +kernel
theorem dX11_ends_0 : decode cX11_ends 0 = .ok (.aload_n 0, 1) := by decide +kernel
theorem dX11_ends_1 : decode cX11_ends 1 = .ok (.invokevirtual 271, 3) := by decide +kernel
theorem dX11_ends_4 : decode cX11_ends 4 = .ok (.ifCond .eq 21, 3) := by decide +kernel
theorem dX11_ends_7 : decode cX11_ends 7 = .ok (.aload_n 0, 1) := by decide +kernel
theorem dX11_ends_8 : decode cX11_ends 8 = .ok (.bipush 59, 2) := by decide +kernel
theorem dX11_ends_10 : decode cX11_ends 10 = .ok (.invokevirtual 284, 3) := by decide +kernel
theorem dX11_ends_13 : decode cX11_ends 13 = .ok (.ifCond .ne 12, 3) := by decide +kernel
theorem dX11_ends_16 : decode cX11_ends 16 = .ok (.aload_n 0, 1) := by decide +kernel
theorem dX11_ends_17 : decode cX11_ends 17 = .ok (.iconst 1, 1) := by decide +kernel
theorem dX11_ends_18 : decode cX11_ends 18 = .ok (.aload_n 0, 1) := by decide +kernel
theorem dX11_ends_19 : decode cX11_ends 19 = .ok (.getfield 245, 3) := by decide +kernel
theorem dX11_ends_22 : decode cX11_ends 22 = .ok (.invokevirtual 278, 3) := by decide +kernel
theorem dX11_ends_25 : decode cX11_ends 25 = .ok (.return_, 1) := by decide +kernel
theorem dX11_readsAct_0 : decode cX11_readsAct 0 = .ok (.aload_n 0, 1) := by decide +kernel
theorem dX11_readsAct_1 : decode cX11_readsAct 1 = .ok (.invokevirtual 287, 3) := by decide +kernel
theorem dX11_readsAct_4 : decode cX11_readsAct 4 = .ok (.istore_n 3, 1) := by decide +kernel
theorem dX11_readsAct_5 : decode cX11_readsAct 5 = .ok (.lload_n 1, 1) := by decide +kernel
theorem dX11_readsAct_6 : decode cX11_readsAct 6 = .ok (.ldc2_w 296, 3) := by decide +kernel
theorem dX11_readsAct_9 : decode cX11_readsAct 9 = .ok (.lcmp, 1) := by decide +kernel
theorem dX11_readsAct_10 : decode cX11_readsAct 10 = .ok (.ifCond .ne 16, 3) := by decide +kernel
theorem dX11_readsAct_13 : decode cX11_readsAct 13 = .ok (.aload_n 0, 1) := by decide +kernel
theorem dX11_readsAct_14 : decode cX11_readsAct 14 = .ok (.bipush 45, 2) := by decide +kernel
theorem dX11_readsAct_16 : decode cX11_readsAct 16 = .ok (.invokevirtual 284, 3) := by decide +kernel
theorem dX11_readsAct_19 : decode cX11_readsAct 19 = .ok (.ifCond .eq 7, 3) := by decide +kernel
theorem dX11_readsAct_22 : decode cX11_readsAct 22 = .ok (.iconst 1, 1) := by decide +kernel
theorem dX11_readsAct_23 : decode cX11_readsAct 23 = .ok (.goto 4, 3) := by decide +kernel
theorem dX11_readsAct_26 : decode cX11_readsAct 26 = .ok (.iconst 0, 1) := by decide +kernel
theorem dX11_readsAct_27 : decode cX11_readsAct 27 = .ok (.istore 4, 2) := by decide +kernel
theorem dX11_readsAct_29 : decode cX11_readsAct 29 = .ok (.lload_n 1, 1) := by decide +kernel
theorem dX11_readsAct_30 : decode cX11_readsAct 30 = .ok (.ldc2_w 298, 3) := by decide +kernel
theorem dX11_readsAct_33 : decode cX11_readsAct 33 = .ok (.lcmp, 1) := by decide +kernel
theorem dX11_readsAct_34 : decode cX11_readsAct 34 = .ok (.ifCond .eq 11, 3) := by decide +kernel
theorem dX11_readsAct_37 : decode cX11_readsAct 37 = .ok (.lload_n 1, 1) := by decide +kernel
theorem dX11_readsAct_38 : decode cX11_readsAct 38 = .ok (.ldc2_w 300, 3) := by decide +kernel
theorem dX11_readsAct_41 : decode cX11_readsAct 41 = .ok (.lcmp, 1) := by decide +kernel
theorem dX11_readsAct_42 : decode cX11_readsAct 42 = .ok (.ifCond .ne 10, 3) := by decide +kernel
theorem dX11_readsAct_45 : decode cX11_readsAct 45 = .ok (.aload_n 0, 1) := by decide +kernel
theorem dX11_readsAct_46 : decode cX11_readsAct 46 = .ok (.invokevirtual 287, 3) := by decide +kernel
theorem dX11_readsAct_49 : decode cX11_readsAct 49 = .ok (.goto 7, 3) := by decide +kernel
theorem dX11_readsAct_52 : decode cX11_readsAct 52 = .ok (.aload_n 0, 1) := by decide +kernel
theorem dX11_readsAct_53 : decode cX11_readsAct 53 = .ok (.invokevirtual 281, 3) := by decide +kernel
theorem dX11_readsAct_56 : decode cX11_readsAct 56 = .ok (.istore 5, 2) := by decide +kernel
theorem dX11_readsAct_58 : decode cX11_readsAct 58 = .ok (.lload_n 1, 1) := by decide +kernel
theorem dX11_readsAct_59 : decode cX11_readsAct 59 = .ok (.ldc2_w 302, 3) := by decide +kernel
theorem dX11_readsAct_62 : decode cX11_readsAct 62 = .ok (.lcmp, 1) := by decide +kernel
theorem dX11_readsAct_63 : decode cX11_readsAct 63 = .ok (.ifCond .ne 10, 3) := by decide +kernel
theorem dX11_readsAct_66 : decode cX11_readsAct 66 = .ok (.aload_n 0, 1) := by decide +kernel
theorem dX11_readsAct_67 : decode cX11_readsAct 67 = .ok (.invokevirtual 287, 3) := by decide +kernel
theorem dX11_readsAct_70 : decode cX11_readsAct 70 = .ok (.goto 27, 3) := by decide +kernel
theorem dX11_readsAct_73 : decode cX11_readsAct 73 = .ok (.lload_n 1, 1) := by decide +kernel
theorem dX11_readsAct_74 : decode cX11_readsAct 74 = .ok (.ldc2_w 304, 3) := by decide +kernel
theorem dX11_readsAct_77 : decode cX11_readsAct 77 = .ok (.lcmp, 1) := by decide +kernel
theorem dX11_readsAct_78 : decode cX11_readsAct 78 = .ok (.ifCond .eq 11, 3) := by decide +kernel
theorem dX11_readsAct_81 : decode cX11_readsAct 81 = .ok (.lload_n 1, 1) := by decide +kernel
theorem dX11_readsAct_82 : decode cX11_readsAct 82 = .ok (.ldc2_w 306, 3) := by decide +kernel
theorem dX11_readsAct_85 : decode cX11_readsAct 85 = .ok (.lcmp, 1) := by decide +kernel
theorem dX11_readsAct_86 : decode cX11_readsAct 86 = .ok (.ifCond .ne 10, 3) := by decide +kernel
theorem dX11_readsAct_89 : decode cX11_readsAct 89 = .ok (.aload_n 0, 1) := by decide +kernel
theorem dX11_readsAct_90 : decode cX11_readsAct 90 = .ok (.invokevirtual 281, 3) := by decide +kernel
theorem dX11_readsAct_93 : decode cX11_readsAct 93 = .ok (.goto 4, 3) := by decide +kernel
theorem dX11_readsAct_96 : decode cX11_readsAct 96 = .ok (.iconst 0, 1) := by decide +kernel
theorem dX11_readsAct_97 : decode cX11_readsAct 97 = .ok (.istore 6, 2) := by decide +kernel
theorem dX11_readsAct_99 : decode cX11_readsAct 99 = .ok (.lload_n 1, 1) := by decide +kernel
theorem dX11_readsAct_100 : decode cX11_readsAct 100 = .ok (.ldc2_w 306, 3) := by decide +kernel
theorem dX11_readsAct_103 : decode cX11_readsAct 103 = .ok (.lcmp, 1) := by decide +kernel
theorem dX11_readsAct_104 : decode cX11_readsAct 104 = .ok (.ifCond .ne 10, 3) := by decide +kernel
theorem dX11_readsAct_107 : decode cX11_readsAct 107 = .ok (.aload_n 0, 1) := by decide +kernel
theorem dX11_readsAct_108 : decode cX11_readsAct 108 = .ok (.invokevirtual 287, 3) := by decide +kernel
theorem dX11_readsAct_111 : decode cX11_readsAct 111 = .ok (.goto 4, 3) := by decide +kernel
theorem dX11_readsAct_114 : decode cX11_readsAct 114 = .ok (.iconst 0, 1) := by decide +kernel
theorem dX11_readsAct_115 : decode cX11_readsAct 115 = .ok (.istore 7, 2) := by decide +kernel
theorem dX11_readsAct_117 : decode cX11_readsAct 117 = .ok (.aload_n 0, 1) := by decide +kernel
theorem dX11_readsAct_118 : decode cX11_readsAct 118 = .ok (.invokevirtual 293, 3) := by decide +kernel
theorem dX11_readsAct_121 : decode cX11_readsAct 121 = .ok (.aload_n 0, 1) := by decide +kernel
theorem dX11_readsAct_122 : decode cX11_readsAct 122 = .ok (.invokevirtual 271, 3) := by decide +kernel
theorem dX11_readsAct_125 : decode cX11_readsAct 125 = .ok (.ifCond .ne 5, 3) := by decide +kernel
theorem dX11_readsAct_128 : decode cX11_readsAct 128 = .ok (.iconst 0, 1) := by decide +kernel
theorem dX11_readsAct_129 : decode cX11_readsAct 129 = .ok (.ireturn, 1) := by decide +kernel
theorem dX11_readsAct_130 : decode cX11_readsAct 130 = .ok (.lload_n 1, 1) := by decide +kernel
theorem dX11_readsAct_131 : decode cX11_readsAct 131 = .ok (.ldc2_w 304, 3) := by decide +kernel
theorem dX11_readsAct_134 : decode cX11_readsAct 134 = .ok (.lcmp, 1) := by decide +kernel
theorem dX11_readsAct_135 : decode cX11_readsAct 135 = .ok (.ifCond .ne 16, 3) := by decide +kernel
theorem dX11_readsAct_138 : decode cX11_readsAct 138 = .ok (.aload_n 0, 1) := by decide +kernel
theorem dX11_readsAct_139 : decode cX11_readsAct 139 = .ok (.iload_n 3, 1) := by decide +kernel
theorem dX11_readsAct_140 : decode cX11_readsAct 140 = .ok (.iload 5, 2) := by decide +kernel
theorem dX11_readsAct_142 : decode cX11_readsAct 142 = .ok (.iload 6, 2) := by decide +kernel
theorem dX11_readsAct_144 : decode cX11_readsAct 144 = .ok (.iconst 1, 1) := by decide +kernel
theorem dX11_readsAct_145 : decode cX11_readsAct 145 = .ok (.invokevirtual 191, 3) := by decide +kernel
theorem dX11_readsAct_148 : decode cX11_readsAct 148 = .ok (.goto 99, 3) := by decide +kernel
theorem dX11_readsAct_151 : decode cX11_readsAct 151 = .ok (.lload_n 1, 1) := by decide +kernel
theorem dX11_readsAct_152 : decode cX11_readsAct 152 = .ok (.ldc2_w 302, 3) := by decide +kernel
theorem dX11_readsAct_155 : decode cX11_readsAct 155 = .ok (.lcmp, 1) := by decide +kernel
theorem dX11_readsAct_156 : decode cX11_readsAct 156 = .ok (.ifCond .ne 15, 3) := by decide +kernel
theorem dX11_readsAct_159 : decode cX11_readsAct 159 = .ok (.aload_n 0, 1) := by decide +kernel
theorem dX11_readsAct_160 : decode cX11_readsAct 160 = .ok (.iload_n 3, 1) := by decide +kernel
theorem dX11_readsAct_161 : decode cX11_readsAct 161 = .ok (.iload 5, 2) := by decide +kernel
theorem dX11_readsAct_163 : decode cX11_readsAct 163 = .ok (.iload 6, 2) := by decide +kernel
theorem dX11_readsAct_165 : decode cX11_readsAct 165 = .ok (.invokevirtual 166, 3) := by decide +kernel
theorem dX11_readsAct_168 : decode cX11_readsAct 168 = .ok (.goto 79, 3) := by decide +kernel
theorem dX11_readsAct_171 : decode cX11_readsAct 171 = .ok (.lload_n 1, 1) := by decide +kernel
theorem dX11_readsAct_172 : decode cX11_readsAct 172 = .ok (.ldc2_w 298, 3) := by decide +kernel
theorem dX11_readsAct_175 : decode cX11_readsAct 175 = .ok (.lcmp, 1) := by decide +kernel
theorem dX11_readsAct_176 : decode cX11_readsAct 176 = .ok (.ifCond .ne 13, 3) := by decide +kernel
theorem dX11_readsAct_179 : decode cX11_readsAct 179 = .ok (.aload_n 0, 1) := by decide +kernel
theorem dX11_readsAct_180 : decode cX11_readsAct 180 = .ok (.iload_n 3, 1) := by decide +kernel
theorem dX11_readsAct_181 : decode cX11_readsAct 181 = .ok (.iload 5, 2) := by decide +kernel
theorem dX11_readsAct_183 : decode cX11_readsAct 183 = .ok (.invokevirtual 173, 3) := by decide +kernel
theorem dX11_readsAct_186 : decode cX11_readsAct 186 = .ok (.goto 61, 3) := by decide +kernel
theorem dX11_readsAct_189 : decode cX11_readsAct 189 = .ok (.lload_n 1, 1) := by decide +kernel
theorem dX11_readsAct_190 : decode cX11_readsAct 190 = .ok (.ldc2_w 300, 3) := by decide +kernel
theorem dX11_readsAct_193 : decode cX11_readsAct 193 = .ok (.lcmp, 1) := by decide +kernel
theorem dX11_readsAct_194 : decode cX11_readsAct 194 = .ok (.ifCond .ne 13, 3) := by decide +kernel
theorem dX11_readsAct_197 : decode cX11_readsAct 197 = .ok (.aload_n 0, 1) := by decide +kernel
theorem dX11_readsAct_198 : decode cX11_readsAct 198 = .ok (.iload_n 3, 1) := by decide +kernel
theorem dX11_readsAct_199 : decode cX11_readsAct 199 = .ok (.iload 5, 2) := by decide +kernel
theorem dX11_readsAct_201 : decode cX11_readsAct 201 = .ok (.invokevirtual 176, 3) := by decide +kernel
theorem dX11_readsAct_204 : decode cX11_readsAct 204 = .ok (.goto 43, 3) := by decide +kernel
theorem dX11_readsAct_207 : decode cX11_readsAct 207 = .ok (.lload_n 1, 1) := by decide +kernel
theorem dX11_readsAct_208 : decode cX11_readsAct 208 = .ok (.ldc2_w 296, 3) := by decide +kernel
theorem dX11_readsAct_211 : decode cX11_readsAct 211 = .ok (.lcmp, 1) := by decide +kernel
theorem dX11_readsAct_212 : decode cX11_readsAct 212 = .ok (.ifCond .ne 24, 3) := by decide +kernel
theorem dX11_readsAct_215 : decode cX11_readsAct 215 = .ok (.aload_n 0, 1) := by decide +kernel
theorem dX11_readsAct_216 : decode cX11_readsAct 216 = .ok (.iload_n 3, 1) := by decide +kernel
theorem dX11_readsAct_217 : decode cX11_readsAct 217 = .ok (.iload 4, 2) := by decide +kernel
theorem dX11_readsAct_219 : decode cX11_readsAct 219 = .ok (.ifCond .eq 9, 3) := by decide +kernel
theorem dX11_readsAct_222 : decode cX11_readsAct 222 = .ok (.iload 5, 2) := by decide +kernel
theorem dX11_readsAct_224 : decode cX11_readsAct 224 = .ok (.ineg, 1) := by decide +kernel
theorem dX11_readsAct_225 : decode cX11_readsAct 225 = .ok (.goto 5, 3) := by decide +kernel
theorem dX11_readsAct_228 : decode cX11_readsAct 228 = .ok (.iload 5, 2) := by decide +kernel
theorem dX11_readsAct_230 : decode cX11_readsAct 230 = .ok (.invokevirtual 182, 3) := by decide +kernel
theorem dX11_readsAct_233 : decode cX11_readsAct 233 = .ok (.goto 14, 3) := by decide +kernel
theorem dX11_readsAct_236 : decode cX11_readsAct 236 = .ok (.aload_n 0, 1) := by decide +kernel
theorem dX11_readsAct_237 : decode cX11_readsAct 237 = .ok (.iload_n 3, 1) := by decide +kernel
theorem dX11_readsAct_238 : decode cX11_readsAct 238 = .ok (.iload 5, 2) := by decide +kernel
theorem dX11_readsAct_240 : decode cX11_readsAct 240 = .ok (.iload 6, 2) := by decide +kernel
theorem dX11_readsAct_242 : decode cX11_readsAct 242 = .ok (.iload 7, 2) := by decide +kernel
theorem dX11_readsAct_244 : decode cX11_readsAct 244 = .ok (.invokevirtual 188, 3) := by decide +kernel
theorem dX11_readsAct_247 : decode cX11_readsAct 247 = .ok (.istore 8, 2) := by decide +kernel
theorem dX11_readsAct_249 : decode cX11_readsAct 249 = .ok (.iload 8, 2) := by decide +kernel
theorem dX11_readsAct_251 : decode cX11_readsAct 251 = .ok (.ifCond .le 6, 3) := by decide +kernel
theorem dX11_readsAct_254 : decode cX11_readsAct 254 = .ok (.iload 8, 2) := by decide +kernel
theorem dX11_readsAct_256 : decode cX11_readsAct 256 = .ok (.ireturn, 1) := by decide +kernel
theorem dX11_readsAct_257 : decode cX11_readsAct 257 = .ok (.lload_n 1, 1) := by decide +kernel
theorem dX11_readsAct_258 : decode cX11_readsAct 258 = .ok (.ldc2_w 296, 3) := by decide +kernel
theorem dX11_readsAct_261 : decode cX11_readsAct 261 = .ok (.lcmp, 1) := by decide +kernel
theorem dX11_readsAct_262 : decode cX11_readsAct 262 = .ok (.ifCond .ne 21, 3) := by decide +kernel
theorem dX11_readsAct_265 : decode cX11_readsAct 265 = .ok (.aload_n 0, 1) := by decide +kernel
theorem dX11_readsAct_266 : decode cX11_readsAct 266 = .ok (.iload_n 3, 1) := by decide +kernel
theorem dX11_readsAct_267 : decode cX11_readsAct 267 = .ok (.iload 4, 2) := by decide +kernel
theorem dX11_readsAct_269 : decode cX11_readsAct 269 = .ok (.ifCond .eq 9, 3) := by decide +kernel
theorem dX11_readsAct_272 : decode cX11_readsAct 272 = .ok (.iload 5, 2) := by decide +kernel
theorem dX11_readsAct_274 : decode cX11_readsAct 274 = .ok (.ineg, 1) := by decide +kernel
theorem dX11_readsAct_275 : decode cX11_readsAct 275 = .ok (.goto 5, 3) := by decide +kernel
theorem dX11_readsAct_278 : decode cX11_readsAct 278 = .ok (.iload 5, 2) := by decide +kernel
theorem dX11_readsAct_280 : decode cX11_readsAct 280 = .ok (.invokevirtual 185, 3) := by decide +kernel
theorem dX11_readsAct_283 : decode cX11_readsAct 283 = .ok (.lload_n 1, 1) := by decide +kernel
theorem dX11_readsAct_284 : decode cX11_readsAct 284 = .ok (.ldc2_w 304, 3) := by decide +kernel
theorem dX11_readsAct_287 : decode cX11_readsAct 287 = .ok (.lcmp, 1) := by decide +kernel
theorem dX11_readsAct_288 : decode cX11_readsAct 288 = .ok (.ifCond .ne 17, 3) := by decide +kernel
theorem dX11_readsAct_291 : decode cX11_readsAct 291 = .ok (.aload_n 0, 1) := by decide +kernel
theorem dX11_readsAct_292 : decode cX11_readsAct 292 = .ok (.iload_n 3, 1) := by decide +kernel
theorem dX11_readsAct_293 : decode cX11_readsAct 293 = .ok (.iload 5, 2) := by decide +kernel
theorem dX11_readsAct_295 : decode cX11_readsAct 295 = .ok (.iload 6, 2) := by decide +kernel
theorem dX11_readsAct_297 : decode cX11_readsAct 297 = .ok (.iconst 1, 1) := by decide +kernel
theorem dX11_readsAct_298 : decode cX11_readsAct 298 = .ok (.iconst 1, 1) := by decide +kernel
theorem dX11_readsAct_299 : decode cX11_readsAct 299 = .ok (.invokevirtual 137, 3) := by decide +kernel
theorem dX11_readsAct_302 : decode cX11_readsAct 302 = .ok (.goto 81, 3) := by decide +kernel
theorem dX11_readsAct_305 : decode cX11_readsAct 305 = .ok (.lload_n 1, 1) := by decide +kernel
theorem dX11_readsAct_306 : decode cX11_readsAct 306 = .ok (.ldc2_w 302, 3) := by decide +kernel
theorem dX11_readsAct_309 : decode cX11_readsAct 309 = .ok (.lcmp, 1) := by decide +kernel
theorem dX11_readsAct_310 : decode cX11_readsAct 310 = .ok (.ifCond .ne 20, 3) := by decide +kernel
theorem dX11_readsAct_313 : decode cX11_readsAct 313 = .ok (.aload_n 0, 1) := by decide +kernel
theorem dX11_readsAct_314 : decode cX11_readsAct 314 = .ok (.iload_n 3, 1) := by decide +kernel
theorem dX11_readsAct_315 : decode cX11_readsAct 315 = .ok (.iload 5, 2) := by decide +kernel
theorem dX11_readsAct_317 : decode cX11_readsAct 317 = .ok (.iconst 1, 1) := by decide +kernel
theorem dX11_readsAct_318 : decode cX11_readsAct 318 = .ok (.iadd, 1) := by decide +kernel
theorem dX11_readsAct_319 : decode cX11_readsAct 319 = .ok (.sipush 9999, 3) := by decide +kernel
theorem dX11_readsAct_322 : decode cX11_readsAct 322 = .ok (.iload 6, 2) := by decide +kernel
theorem dX11_readsAct_324 : decode cX11_readsAct 324 = .ok (.invokevirtual 169, 3) := by decide +kernel
theorem dX11_readsAct_327 : decode cX11_readsAct 327 = .ok (.goto 56, 3) := by decide +kernel
theorem dX11_readsAct_330 : decode cX11_readsAct 330 = .ok (.lload_n 1, 1) := by decide +kernel
theorem dX11_readsAct_331 : decode cX11_readsAct 331 = .ok (.ldc2_w 298, 3) := by decide +kernel
theorem dX11_readsAct_334 : decode cX11_readsAct 334 = .ok (.lcmp, 1) := by decide +kernel
theorem dX11_readsAct_335 : decode cX11_readsAct 335 = .ok (.ifCond .eq 11, 3) := by decide +kernel
theorem dX11_readsAct_338 : decode cX11_readsAct 338 = .ok (.lload_n 1, 1) := by decide +kernel
theorem dX11_readsAct_339 : decode cX11_readsAct 339 = .ok (.ldc2_w 300, 3) := by decide +kernel
theorem dX11_readsAct_342 : decode cX11_readsAct 342 = .ok (.lcmp, 1) := by decide +kernel
theorem dX11_readsAct_343 : decode cX11_readsAct 343 = .ok (.ifCond .ne 17, 3) := by decide +kernel
theorem dX11_readsAct_346 : decode cX11_readsAct 346 = .ok (.aload_n 0, 1) := by decide +kernel
theorem dX11_readsAct_347 : decode cX11_readsAct 347 = .ok (.iload 5, 2) := by decide +kernel
theorem dX11_readsAct_349 : decode cX11_readsAct 349 = .ok (.iconst 0, 1) := by decide +kernel
theorem dX11_readsAct_350 : decode cX11_readsAct 350 = .ok (.sipush 9999, 3) := by decide +kernel
theorem dX11_readsAct_353 : decode cX11_readsAct 353 = .ok (.iload_n 3, 1) := by decide +kernel
theorem dX11_readsAct_354 : decode cX11_readsAct 354 = .ok (.invokevirtual 169, 3) := by decide +kernel
theorem dX11_readsAct_357 : decode cX11_readsAct 357 = .ok (.goto 26, 3) := by decide +kernel
theorem dX11_readsAct_360 : decode cX11_readsAct 360 = .ok (.lload_n 1, 1) := by decide +kernel
theorem dX11_readsAct_361 : decode cX11_readsAct 361 = .ok (.ldc2_w 306, 3) := by decide +kernel
theorem dX11_readsAct_364 : decode cX11_readsAct 364 = .ok (.lcmp, 1) := by decide +kernel
theorem dX11_readsAct_365 : decode cX11_readsAct 365 = .ok (.ifCond .ne 17, 3) := by decide +kernel
theorem dX11_readsAct_368 : decode cX11_readsAct 368 = .ok (.aload_n 0, 1) := by decide +kernel
theorem dX11_readsAct_369 : decode cX11_readsAct 369 = .ok (.iload_n 3, 1) := by decide +kernel
theorem dX11_readsAct_370 : decode cX11_readsAct 370 = .ok (.iload 5, 2) := by decide +kernel
theorem dX11_readsAct_372 : decode cX11_readsAct 372 = .ok (.iload 6, 2) := by decide +kernel
theorem dX11_readsAct_374 : decode cX11_readsAct 374 = .ok (.iload 7, 2) := by decide +kernel
theorem dX11_readsAct_376 : decode cX11_readsAct 376 = .ok (.invokevirtual 169, 3) := by decide +kernel
theorem dX11_readsAct_379 : decode cX11_readsAct 379 = .ok (.goto 4, 3) := by decide +kernel
theorem dX11_readsAct_382 : decode cX11_readsAct 382 = .ok (.iconst 1, 1) := by decide +kernel
theorem dX11_readsAct_383 : decode cX11_readsAct 383 = .ok (.istore 9, 2) := by decide +kernel
theorem dX11_readsAct_385 : decode cX11_readsAct 385 = .ok (.iload 9, 2) := by decide +kernel
theorem dX11_readsAct_387 : decode cX11_readsAct 387 = .ok (.ifCond .le 7, 3) := by decide +kernel
theorem dX11_readsAct_390 : decode cX11_readsAct 390 = .ok (.iconst 0, 1) := by decide +kernel
theorem dX11_readsAct_391 : decode cX11_readsAct 391 = .ok (.goto 4, 3) := by decide +kernel
theorem dX11_readsAct_394 : decode cX11_readsAct 394 = .ok (.iconst 1, 1) := by decide +kernel
theorem dX11_readsAct_395 : decode cX11_readsAct 395 = .ok (.ireturn, 1) := by decide +kernel
theorem dX11_readsLine_0 : decode cX11_readsLine 0 = .ok (.aload_n 0, 1) := by decide +kernel
theorem dX11_readsLine_1 : decode cX11_readsLine 1 = .ok (.getfield 245, 3) := by decide +kernel
theorem dX11_readsLine_4 : decode cX11_readsLine 4 = .ok (.istore_n 1, 1) := by decide +kernel
theorem dX11_readsLine_5 : decode cX11_readsLine 5 = .ok (.aload_n 0, 1) := by decide +kernel
theorem dX11_readsLine_6 : decode cX11_readsLine 6 = .ok (.getfield 252, 3) := by decide +kernel
theorem dX11_readsLine_9 : decode cX11_readsLine 9 = .ok (.iconst 1, 1) := by decide +kernel
theorem dX11_readsLine_10 : decode cX11_readsLine 10 = .ok (.if_icmp .ne 10, 3) := by decide +kernel
theorem dX11_readsLine_13 : decode cX11_readsLine 13 = .ok (.aload_n 0, 1) := by decide +kernel
theorem dX11_readsLine_14 : decode cX11_readsLine 14 = .ok (.getfield 248, 3) := by decide +kernel
theorem dX11_readsLine_17 : decode cX11_readsLine 17 = .ok (.goto 4, 3) := by decide +kernel
theorem dX11_readsLine_20 : decode cX11_readsLine 20 = .ok (.lconst 0, 1) := by decide +kernel
theorem dX11_readsLine_21 : decode cX11_readsLine 21 = .ok (.lstore_n 2, 1) := by decide +kernel
theorem dX11_readsLine_22 : decode cX11_readsLine 22 = .ok (.aload_n 0, 1) := by decide +kernel
theorem dX11_readsLine_23 : decode cX11_readsLine 23 = .ok (.ldc2_w 308, 3) := by decide +kernel
theorem dX11_readsLine_26 : decode cX11_readsLine 26 = .ok (.invokevirtual 310, 3) := by decide +kernel
theorem dX11_readsLine_29 : decode cX11_readsLine 29 = .ok (.ifCond .eq 10, 3) := by decide +kernel
theorem dX11_readsLine_32 : decode cX11_readsLine 32 = .ok (.aload_n 0, 1) := by decide +kernel
theorem dX11_readsLine_33 : decode cX11_readsLine 33 = .ok (.invokevirtual 314, 3) := by decide +kernel
theorem dX11_readsLine_36 : decode cX11_readsLine 36 = .ok (.goto 89, 3) := by decide +kernel
theorem dX11_readsLine_39 : decode cX11_readsLine 39 = .ok (.aload_n 0, 1) := by decide +kernel
theorem dX11_readsLine_40 : decode cX11_readsLine 40 = .ok (.ldc2_w 304, 3) := by decide +kernel
theorem dX11_readsLine_43 : decode cX11_readsLine 43 = .ok (.invokevirtual 310, 3) := by decide +kernel
theorem dX11_readsLine_46 : decode cX11_readsLine 46 = .ok (.ifCond .ne 53, 3) := by decide +kernel
theorem dX11_readsLine_49 : decode cX11_readsLine 49 = .ok (.aload_n 0, 1) := by decide +kernel
theorem dX11_readsLine_50 : decode cX11_readsLine 50 = .ok (.ldc2_w 302, 3) := by decide +kernel
theorem dX11_readsLine_53 : decode cX11_readsLine 53 = .ok (.invokevirtual 310, 3) := by decide +kernel
theorem dX11_readsLine_56 : decode cX11_readsLine 56 = .ok (.ifCond .ne 43, 3) := by decide +kernel
theorem dX11_readsLine_59 : decode cX11_readsLine 59 = .ok (.aload_n 0, 1) := by decide +kernel
theorem dX11_readsLine_60 : decode cX11_readsLine 60 = .ok (.ldc2_w 298, 3) := by decide +kernel
theorem dX11_readsLine_63 : decode cX11_readsLine 63 = .ok (.invokevirtual 310, 3) := by decide +kernel
theorem dX11_readsLine_66 : decode cX11_readsLine 66 = .ok (.ifCond .ne 33, 3) := by decide +kernel
theorem dX11_readsLine_69 : decode cX11_readsLine 69 = .ok (.aload_n 0, 1) := by decide +kernel
theorem dX11_readsLine_70 : decode cX11_readsLine 70 = .ok (.ldc2_w 300, 3) := by decide +kernel
theorem dX11_readsLine_73 : decode cX11_readsLine 73 = .ok (.invokevirtual 310, 3) := by decide +kernel
theorem dX11_readsLine_76 : decode cX11_readsLine 76 = .ok (.ifCond .ne 23, 3) := by decide +kernel
theorem dX11_readsLine_79 : decode cX11_readsLine 79 = .ok (.aload_n 0, 1) := by decide +kernel
theorem dX11_readsLine_80 : decode cX11_readsLine 80 = .ok (.ldc2_w 296, 3) := by decide +kernel
theorem dX11_readsLine_83 : decode cX11_readsLine 83 = .ok (.invokevirtual 310, 3) := by decide +kernel
theorem dX11_readsLine_86 : decode cX11_readsLine 86 = .ok (.ifCond .ne 13, 3) := by decide +kernel
theorem dX11_readsLine_89 : decode cX11_readsLine 89 = .ok (.aload_n 0, 1) := by decide +kernel
theorem dX11_readsLine_90 : decode cX11_readsLine 90 = .ok (.ldc2_w 306, 3) := by decide +kernel
theorem dX11_readsLine_93 : decode cX11_readsLine 93 = .ok (.invokevirtual 310, 3) := by decide +kernel
theorem dX11_readsLine_96 : decode cX11_readsLine 96 = .ok (.ifCond .eq 20, 3) := by decide +kernel
theorem dX11_readsLine_99 : decode cX11_readsLine 99 = .ok (.aload_n 0, 1) := by decide +kernel
theorem dX11_readsLine_100 : decode cX11_readsLine 100 = .ok (.lload_n 2, 1) := by decide +kernel
theorem dX11_readsLine_101 : decode cX11_readsLine 101 = .ok (.invokevirtual 317, 3) := by decide +kernel
theorem dX11_readsLine_104 : decode cX11_readsLine 104 = .ok (.ifCond .le 21, 3) := by decide +kernel
theorem dX11_readsLine_107 : decode cX11_readsLine 107 = .ok (.aload_n 0, 1) := by decide +kernel
theorem dX11_readsLine_108 : decode cX11_readsLine 108 = .ok (.iconst 4, 1) := by decide +kernel
theorem dX11_readsLine_109 : decode cX11_readsLine 109 = .ok (.iload_n 1, 1) := by decide +kernel
theorem dX11_readsLine_110 : decode cX11_readsLine 110 = .ok (.invokevirtual 278, 3) := by decide +kernel
theorem dX11_readsLine_113 : decode cX11_readsLine 113 = .ok (.goto 12, 3) := by decide +kernel
theorem dX11_readsLine_116 : decode cX11_readsLine 116 = .ok (.aload_n 0, 1) := by decide +kernel
theorem dX11_readsLine_117 : decode cX11_readsLine 117 = .ok (.iconst 1, 1) := by decide +kernel
theorem dX11_readsLine_118 : decode cX11_readsLine 118 = .ok (.aload_n 0, 1) := by decide +kernel
theorem dX11_readsLine_119 : decode cX11_readsLine 119 = .ok (.getfield 245, 3) := by decide +kernel
theorem dX11_readsLine_122 : decode cX11_readsLine 122 = .ok (.invokevirtual 278, 3) := by decide +kernel
theorem dX11_readsLine_125 : decode cX11_readsLine 125 = .ok (.return_, 1) := by decide +kernel
theorem dX11_text_0 : decode cX11_text 0 = .ok (.aload_n 0, 1) := by decide +kernel
theorem dX11_text_1 : decode cX11_text 1 = .ok (.aload_n 0, 1) := by decide +kernel
theorem dX11_text_2 : decode cX11_text 2 = .ok (.getfield 218, 3) := by decide +kernel
theorem dX11_text_5 : decode cX11_text 5 = .ok (.putfield 236, 3) := by decide +kernel
theorem dX11_text_8 : decode cX11_text 8 = .ok (.aload_n 0, 1) := by decide +kernel
theorem dX11_text_9 : decode cX11_text 9 = .ok (.iconst 0, 1) := by decide +kernel
theorem dX11_text_10 : decode cX11_text 10 = .ok (.putfield 218, 3) := by decide +kernel
theorem dX11_text_13 : decode cX11_text 13 = .ok (.aload_n 0, 1) := by decide +kernel
theorem dX11_text_14 : decode cX11_text 14 = .ok (.iconst 0, 1) := by decide +kernel
theorem dX11_text_15 : decode cX11_text 15 = .ok (.putfield 233, 3) := by decide +kernel
theorem dX11_text_18 : decode cX11_text 18 = .ok (.aload_n 0, 1) := by decide +kernel
theorem dX11_text_19 : decode cX11_text 19 = .ok (.iconst (-1), 1) := by decide +kernel
theorem dX11_text_20 : decode cX11_text 20 = .ok (.putfield 23, 3) := by decide +kernel
theorem dX11_text_23 : decode cX11_text 23 = .ok (.aload_n 0, 1) := by decide +kernel
theorem dX11_text_24 : decode cX11_text 24 = .ok (.iconst 0, 1) := by decide +kernel
theorem dX11_text_25 : decode cX11_text 25 = .ok (.putfield 239, 3) := by decide +kernel
theorem dX11_text_28 : decode cX11_text 28 = .ok (.aload_n 0, 1) := by decide +kernel
theorem dX11_text_29 : decode cX11_text 29 = .ok (.sipush 976, 3) := by decide +kernel
theorem dX11_text_32 : decode cX11_text 32 = .ok (.invokevirtual 33, 3) := by decide +kernel
theorem dX11_text_35 : decode cX11_text 35 = .ok (.aload_n 0, 1) := by decide +kernel
theorem dX11_text_36 : decode cX11_text 36 = .ok (.sipush 976, 3) := by decide +kernel
theorem dX11_text_39 : decode cX11_text 39 = .ok (.putfield 41, 3) := by decide +kernel
theorem dX11_text_42 : decode cX11_text 42 = .ok (.aload_n 0, 1) := by decide +kernel
theorem dX11_text_43 : decode cX11_text 43 = .ok (.invokevirtual 275, 3) := by decide +kernel
theorem dX11_text_46 : decode cX11_text 46 = .ok (.aload_n 0, 1) := by decide +kernel
theorem dX11_text_47 : decode cX11_text 47 = .ok (.invokevirtual 271, 3) := by decide +kernel
theorem dX11_text_50 : decode cX11_text 50 = .ok (.ifCond .eq 17, 3) := by decide +kernel
theorem dX11_text_53 : decode cX11_text 53 = .ok (.aload_n 0, 1) := by decide +kernel
theorem dX11_text_54 : decode cX11_text 54 = .ok (.getfield 252, 3) := by decide +kernel
theorem dX11_text_57 : decode cX11_text 57 = .ok (.ifCond .eq 10, 3) := by decide +kernel
theorem dX11_text_60 : decode cX11_text 60 = .ok (.aload_n 0, 1) := by decide +kernel
theorem dX11_text_61 : decode cX11_text 61 = .ok (.invokevirtual 321, 3) := by decide +kernel
theorem dX11_text_64 : decode cX11_text 64 = .ok (.goto (-18), 3) := by decide +kernel
theorem dX11_text_67 : decode cX11_text 67 = .ok (.aload_n 0, 1) := by decide +kernel
theorem dX11_text_68 : decode cX11_text 68 = .ok (.iconst 0, 1) := by decide +kernel
theorem dX11_text_69 : decode cX11_text 69 = .ok (.putfield 41, 3) := by decide +kernel
theorem dX11_text_72 : decode cX11_text 72 = .ok (.aload_n 0, 1) := by decide +kernel
theorem dX11_text_73 : decode cX11_text 73 = .ok (.invokevirtual 271, 3) := by decide +kernel
theorem dX11_text_76 : decode cX11_text 76 = .ok (.ifCond .ne 5, 3) := by decide +kernel
theorem dX11_text_79 : decode cX11_text 79 = .ok (.iconst (-1), 1) := by decide +kernel
theorem dX11_text_80 : decode cX11_text 80 = .ok (.ireturn, 1) := by decide +kernel
theorem dX11_text_81 : decode cX11_text 81 = .ok (.aload_n 0, 1) := by decide +kernel
theorem dX11_text_82 : decode cX11_text 82 = .ok (.sipush 976, 3) := by decide +kernel
theorem dX11_text_85 : decode cX11_text 85 = .ok (.iconst 0, 1) := by decide +kernel
theorem dX11_text_86 : decode cX11_text 86 = .ok (.sipush 976, 3) := by decide +kernel
theorem dX11_text_89 : decode cX11_text 89 = .ok (.invokevirtual 154, 3) := by decide +kernel
theorem dX11_text_92 : decode cX11_text 92 = .ok (.aload_n 0, 1) := by decide +kernel
theorem dX11_text_93 : decode cX11_text 93 = .ok (.iconst 0, 1) := by decide +kernel
theorem dX11_text_94 : decode cX11_text 94 = .ok (.putfield 151, 3) := by decide +kernel
theorem dX11_text_97 : decode cX11_text 97 = .ok (.aload_n 0, 1) := by decide +kernel
theorem dX11_text_98 : decode cX11_text 98 = .ok (.invokevirtual 119, 3) := by decide +kernel
theorem dX11_text_101 : decode cX11_text 101 = .ok (.ireturn, 1) := by decide +kernel
theorem dX11_image_0 : decode cX11_image 0 = .ok (.iload_n 1, 1) := by decide +kernel
theorem dX11_image_1 : decode cX11_image 1 = .ok (.iconst 0, 1) := by decide +kernel
theorem dX11_image_2 : decode cX11_image 2 = .ok (.iconst 2, 1) := by decide +kernel
theorem dX11_image_3 : decode cX11_image 3 = .ok (.invokestatic 37, 3) := by decide +kernel
theorem dX11_image_6 : decode cX11_image 6 = .ok (.ifCond .ne 5, 3) := by decide +kernel
theorem dX11_image_9 : decode cX11_image 9 = .ok (.iconst 0, 1) := by decide +kernel
theorem dX11_image_10 : decode cX11_image 10 = .ok (.ireturn, 1) := by decide +kernel
theorem dX11_image_11 : decode cX11_image 11 = .ok (.sipush 13664, 3) := by decide +kernel
theorem dX11_image_14 : decode cX11_image 14 = .ok (.sipush 2180, 3) := by decide +kernel
theorem dX11_image_17 : decode cX11_image 17 = .ok (.iload_n 1, 1) := by decide +kernel
theorem dX11_image_18 : decode cX11_image 18 = .ok (.imul, 1) := by decide +kernel
theorem dX11_image_19 : decode cX11_image 19 = .ok (.iadd, 1) := by decide +kernel
theorem dX11_image_20 : decode cX11_image 20 = .ok (.istore_n 2, 1) := by decide +kernel
theorem dX11_image_21 : decode cX11_image 21 = .ok (.aload_n 0, 1) := by decide +kernel
theorem dX11_image_22 : decode cX11_image 22 = .ok (.iconst 0, 1) := by decide +kernel
theorem dX11_image_23 : decode cX11_image 23 = .ok (.iload_n 2, 1) := by decide +kernel
theorem dX11_image_24 : decode cX11_image 24 = .ok (.sipush 976, 3) := by decide +kernel
theorem dX11_image_27 : decode cX11_image 27 = .ok (.invokevirtual 154, 3) := by decide +kernel
theorem dX11_image_30 : decode cX11_image 30 = .ok (.iconst 0, 1) := by decide +kernel
theorem dX11_image_31 : decode cX11_image 31 = .ok (.istore_n 3, 1) := by decide +kernel
theorem dX11_image_32 : decode cX11_image 32 = .ok (.iload_n 3, 1) := by decide +kernel
theorem dX11_image_33 : decode cX11_image 33 = .ok (.sipush 800, 3) := by decide +kernel
theorem dX11_image_36 : decode cX11_image 36 = .ok (.if_icmp .ge 27, 3) := by decide +kernel
theorem dX11_image_39 : decode cX11_image 39 = .ok (.aload_n 0, 1) := by decide +kernel
theorem dX11_image_40 : decode cX11_image 40 = .ok (.getfield 7, 3) := by decide +kernel
theorem dX11_image_43 : decode cX11_image 43 = .ok (.iload_n 2, 1) := by decide +kernel
theorem dX11_image_44 : decode cX11_image 44 = .ok (.sipush 976, 3) := by decide +kernel
theorem dX11_image_47 : decode cX11_image 47 = .ok (.iadd, 1) := by decide +kernel
theorem dX11_image_48 : decode cX11_image 48 = .ok (.iload_n 3, 1) := by decide +kernel
theorem dX11_image_49 : decode cX11_image 49 = .ok (.iadd, 1) := by decide +kernel
theorem dX11_image_50 : decode cX11_image 50 = .ok (.aload_n 0, 1) := by decide +kernel
theorem dX11_image_51 : decode cX11_image 51 = .ok (.getfield 13, 3) := by decide +kernel
theorem dX11_image_54 : decode cX11_image 54 = .ok (.iload_n 3, 1) := by decide +kernel
theorem dX11_image_55 : decode cX11_image 55 = .ok (.iaload, 1) := by decide +kernel
theorem dX11_image_56 : decode cX11_image 56 = .ok (.iastore, 1) := by decide +kernel
theorem dX11_image_57 : decode cX11_image 57 = .ok (.iinc 3 1, 3) := by decide +kernel
theorem dX11_image_60 : decode cX11_image 60 = .ok (.goto (-28), 3) := by decide +kernel
theorem dX11_image_63 : decode cX11_image 63 = .ok (.iconst 0, 1) := by decide +kernel
theorem dX11_image_64 : decode cX11_image 64 = .ok (.istore_n 3, 1) := by decide +kernel
theorem dX11_image_65 : decode cX11_image 65 = .ok (.iload_n 3, 1) := by decide +kernel
theorem dX11_image_66 : decode cX11_image 66 = .ok (.sipush 400, 3) := by decide +kernel
theorem dX11_image_69 : decode cX11_image 69 = .ok (.if_icmp .ge 31, 3) := by decide +kernel
theorem dX11_image_72 : decode cX11_image 72 = .ok (.aload_n 0, 1) := by decide +kernel
theorem dX11_image_73 : decode cX11_image 73 = .ok (.getfield 7, 3) := by decide +kernel
theorem dX11_image_76 : decode cX11_image 76 = .ok (.iload_n 2, 1) := by decide +kernel
theorem dX11_image_77 : decode cX11_image 77 = .ok (.sipush 976, 3) := by decide +kernel
theorem dX11_image_80 : decode cX11_image 80 = .ok (.iadd, 1) := by decide +kernel
theorem dX11_image_81 : decode cX11_image 81 = .ok (.sipush 800, 3) := by decide +kernel
theorem dX11_image_84 : decode cX11_image 84 = .ok (.iadd, 1) := by decide +kernel
theorem dX11_image_85 : decode cX11_image 85 = .ok (.iload_n 3, 1) := by decide +kernel
theorem dX11_image_86 : decode cX11_image 86 = .ok (.iadd, 1) := by decide +kernel
theorem dX11_image_87 : decode cX11_image 87 = .ok (.aload_n 0, 1) := by decide +kernel
theorem dX11_image_88 : decode cX11_image 88 = .ok (.getfield 16, 3) := by decide +kernel
theorem dX11_image_91 : decode cX11_image 91 = .ok (.iload_n 3, 1) := by decide +kernel
theorem dX11_image_92 : decode cX11_image 92 = .ok (.iaload, 1) := by decide +kernel
theorem dX11_image_93 : decode cX11_image 93 = .ok (.iastore, 1) := by decide +kernel
theorem dX11_image_94 : decode cX11_image 94 = .ok (.iinc 3 1, 3) := by decide +kernel
theorem dX11_image_97 : decode cX11_image 97 = .ok (.goto (-32), 3) := by decide +kernel
theorem dX11_image_100 : decode cX11_image 100 = .ok (.aload_n 0, 1) := by decide +kernel
theorem dX11_image_101 : decode cX11_image 101 = .ok (.getfield 7, 3) := by decide +kernel
theorem dX11_image_104 : decode cX11_image 104 = .ok (.iload_n 2, 1) := by decide +kernel
theorem dX11_image_105 : decode cX11_image 105 = .ok (.sipush 976, 3) := by decide +kernel
theorem dX11_image_108 : decode cX11_image 108 = .ok (.iadd, 1) := by decide +kernel
theorem dX11_image_109 : decode cX11_image 109 = .ok (.sipush 800, 3) := by decide +kernel
theorem dX11_image_112 : decode cX11_image 112 = .ok (.iadd, 1) := by decide +kernel
theorem dX11_image_113 : decode cX11_image 113 = .ok (.sipush 400, 3) := by decide +kernel
theorem dX11_image_116 : decode cX11_image 116 = .ok (.iadd, 1) := by decide +kernel
theorem dX11_image_117 : decode cX11_image 117 = .ok (.aload_n 0, 1) := by decide +kernel
theorem dX11_image_118 : decode cX11_image 118 = .ok (.getfield 218, 3) := by decide +kernel
theorem dX11_image_121 : decode cX11_image 121 = .ok (.iastore, 1) := by decide +kernel
theorem dX11_image_122 : decode cX11_image 122 = .ok (.aload_n 0, 1) := by decide +kernel
theorem dX11_image_123 : decode cX11_image 123 = .ok (.getfield 7, 3) := by decide +kernel
theorem dX11_image_126 : decode cX11_image 126 = .ok (.iload_n 2, 1) := by decide +kernel
theorem dX11_image_127 : decode cX11_image 127 = .ok (.sipush 976, 3) := by decide +kernel
theorem dX11_image_130 : decode cX11_image 130 = .ok (.iadd, 1) := by decide +kernel
theorem dX11_image_131 : decode cX11_image 131 = .ok (.sipush 800, 3) := by decide +kernel
theorem dX11_image_134 : decode cX11_image 134 = .ok (.iadd, 1) := by decide +kernel
theorem dX11_image_135 : decode cX11_image 135 = .ok (.sipush 401, 3) := by decide +kernel
theorem dX11_image_138 : decode cX11_image 138 = .ok (.iadd, 1) := by decide +kernel
theorem dX11_image_139 : decode cX11_image 139 = .ok (.aload_n 0, 1) := by decide +kernel
theorem dX11_image_140 : decode cX11_image 140 = .ok (.getfield 233, 3) := by decide +kernel
theorem dX11_image_143 : decode cX11_image 143 = .ok (.iastore, 1) := by decide +kernel
theorem dX11_image_144 : decode cX11_image 144 = .ok (.aload_n 0, 1) := by decide +kernel
theorem dX11_image_145 : decode cX11_image 145 = .ok (.getfield 7, 3) := by decide +kernel
theorem dX11_image_148 : decode cX11_image 148 = .ok (.iload_n 2, 1) := by decide +kernel
theorem dX11_image_149 : decode cX11_image 149 = .ok (.sipush 976, 3) := by decide +kernel
theorem dX11_image_152 : decode cX11_image 152 = .ok (.iadd, 1) := by decide +kernel
theorem dX11_image_153 : decode cX11_image 153 = .ok (.sipush 800, 3) := by decide +kernel
theorem dX11_image_156 : decode cX11_image 156 = .ok (.iadd, 1) := by decide +kernel
theorem dX11_image_157 : decode cX11_image 157 = .ok (.sipush 402, 3) := by decide +kernel
theorem dX11_image_160 : decode cX11_image 160 = .ok (.iadd, 1) := by decide +kernel
theorem dX11_image_161 : decode cX11_image 161 = .ok (.aload_n 0, 1) := by decide +kernel
theorem dX11_image_162 : decode cX11_image 162 = .ok (.getfield 23, 3) := by decide +kernel
theorem dX11_image_165 : decode cX11_image 165 = .ok (.iastore, 1) := by decide +kernel
theorem dX11_image_166 : decode cX11_image 166 = .ok (.aload_n 0, 1) := by decide +kernel
theorem dX11_image_167 : decode cX11_image 167 = .ok (.getfield 7, 3) := by decide +kernel
theorem dX11_image_170 : decode cX11_image 170 = .ok (.iload_n 2, 1) := by decide +kernel
theorem dX11_image_171 : decode cX11_image 171 = .ok (.sipush 976, 3) := by decide +kernel
theorem dX11_image_174 : decode cX11_image 174 = .ok (.iadd, 1) := by decide +kernel
theorem dX11_image_175 : decode cX11_image 175 = .ok (.sipush 800, 3) := by decide +kernel
theorem dX11_image_178 : decode cX11_image 178 = .ok (.iadd, 1) := by decide +kernel
theorem dX11_image_179 : decode cX11_image 179 = .ok (.sipush 403, 3) := by decide +kernel
theorem dX11_image_182 : decode cX11_image 182 = .ok (.iadd, 1) := by decide +kernel
theorem dX11_image_183 : decode cX11_image 183 = .ok (.aload_n 0, 1) := by decide +kernel
theorem dX11_image_184 : decode cX11_image 184 = .ok (.getfield 224, 3) := by decide +kernel
theorem dX11_image_187 : decode cX11_image 187 = .ok (.iastore, 1) := by decide +kernel
theorem dX11_image_188 : decode cX11_image 188 = .ok (.aload_n 0, 1) := by decide +kernel
theorem dX11_image_189 : decode cX11_image 189 = .ok (.getfield 19, 3) := by decide +kernel
theorem dX11_image_192 : decode cX11_image 192 = .ok (.iload_n 1, 1) := by decide +kernel
theorem dX11_image_193 : decode cX11_image 193 = .ok (.iconst 1, 1) := by decide +kernel
theorem dX11_image_194 : decode cX11_image 194 = .ok (.bastore, 1) := by decide +kernel
theorem dX11_image_195 : decode cX11_image 195 = .ok (.iconst 1, 1) := by decide +kernel
theorem dX11_image_196 : decode cX11_image 196 = .ok (.ireturn, 1) := by decide +kernel
theorem dX11_again_0 : decode cX11_again 0 = .ok (.iload_n 1, 1) := by decide +kernel
theorem dX11_again_1 : decode cX11_again 1 = .ok (.iconst 0, 1) := by decide +kernel
theorem dX11_again_2 : decode cX11_again 2 = .ok (.iconst 2, 1) := by decide +kernel
theorem dX11_again_3 : decode cX11_again 3 = .ok (.invokestatic 37, 3) := by decide +kernel
theorem dX11_again_6 : decode cX11_again 6 = .ok (.ifCond .eq 12, 3) := by decide +kernel
theorem dX11_again_9 : decode cX11_again 9 = .ok (.aload_n 0, 1) := by decide +kernel
theorem dX11_again_10 : decode cX11_again 10 = .ok (.getfield 19, 3) := by decide +kernel
theorem dX11_again_13 : decode cX11_again 13 = .ok (.iload_n 1, 1) := by decide +kernel
theorem dX11_again_14 : decode cX11_again 14 = .ok (.baload, 1) := by decide +kernel
theorem dX11_again_15 : decode cX11_again 15 = .ok (.ifCond .ne 5, 3) := by decide +kernel
theorem dX11_again_18 : decode cX11_again 18 = .ok (.iconst 0, 1) := by decide +kernel
theorem dX11_again_19 : decode cX11_again 19 = .ok (.ireturn, 1) := by decide +kernel
theorem dX11_again_20 : decode cX11_again 20 = .ok (.sipush 13664, 3) := by decide +kernel
theorem dX11_again_23 : decode cX11_again 23 = .ok (.sipush 2180, 3) := by decide +kernel
theorem dX11_again_26 : decode cX11_again 26 = .ok (.iload_n 1, 1) := by decide +kernel
theorem dX11_again_27 : decode cX11_again 27 = .ok (.imul, 1) := by decide +kernel
theorem dX11_again_28 : decode cX11_again 28 = .ok (.iadd, 1) := by decide +kernel
theorem dX11_again_29 : decode cX11_again 29 = .ok (.istore_n 2, 1) := by decide +kernel
theorem dX11_again_30 : decode cX11_again 30 = .ok (.aload_n 0, 1) := by decide +kernel
theorem dX11_again_31 : decode cX11_again 31 = .ok (.iload_n 2, 1) := by decide +kernel
theorem dX11_again_32 : decode cX11_again 32 = .ok (.iconst 0, 1) := by decide +kernel
theorem dX11_again_33 : decode cX11_again 33 = .ok (.sipush 976, 3) := by decide +kernel
theorem dX11_again_36 : decode cX11_again 36 = .ok (.invokevirtual 154, 3) := by decide +kernel
theorem dX11_again_39 : decode cX11_again 39 = .ok (.iconst 0, 1) := by decide +kernel
theorem dX11_again_40 : decode cX11_again 40 = .ok (.istore_n 3, 1) := by decide +kernel
theorem dX11_again_41 : decode cX11_again 41 = .ok (.iload_n 3, 1) := by decide +kernel
theorem dX11_again_42 : decode cX11_again 42 = .ok (.sipush 800, 3) := by decide +kernel
theorem dX11_again_45 : decode cX11_again 45 = .ok (.if_icmp .ge 27, 3) := by decide +kernel
theorem dX11_again_48 : decode cX11_again 48 = .ok (.aload_n 0, 1) := by decide +kernel
theorem dX11_again_49 : decode cX11_again 49 = .ok (.getfield 13, 3) := by decide +kernel
theorem dX11_again_52 : decode cX11_again 52 = .ok (.iload_n 3, 1) := by decide +kernel
theorem dX11_again_53 : decode cX11_again 53 = .ok (.aload_n 0, 1) := by decide +kernel
theorem dX11_again_54 : decode cX11_again 54 = .ok (.getfield 7, 3) := by decide +kernel
theorem dX11_again_57 : decode cX11_again 57 = .ok (.iload_n 2, 1) := by decide +kernel
theorem dX11_again_58 : decode cX11_again 58 = .ok (.sipush 976, 3) := by decide +kernel
theorem dX11_again_61 : decode cX11_again 61 = .ok (.iadd, 1) := by decide +kernel
theorem dX11_again_62 : decode cX11_again 62 = .ok (.iload_n 3, 1) := by decide +kernel
theorem dX11_again_63 : decode cX11_again 63 = .ok (.iadd, 1) := by decide +kernel
theorem dX11_again_64 : decode cX11_again 64 = .ok (.iaload, 1) := by decide +kernel
theorem dX11_again_65 : decode cX11_again 65 = .ok (.iastore, 1) := by decide +kernel
theorem dX11_again_66 : decode cX11_again 66 = .ok (.iinc 3 1, 3) := by decide +kernel
theorem dX11_again_69 : decode cX11_again 69 = .ok (.goto (-28), 3) := by decide +kernel
theorem dX11_again_72 : decode cX11_again 72 = .ok (.iconst 0, 1) := by decide +kernel
theorem dX11_again_73 : decode cX11_again 73 = .ok (.istore_n 3, 1) := by decide +kernel
theorem dX11_again_74 : decode cX11_again 74 = .ok (.iload_n 3, 1) := by decide +kernel
theorem dX11_again_75 : decode cX11_again 75 = .ok (.sipush 400, 3) := by decide +kernel
theorem dX11_again_78 : decode cX11_again 78 = .ok (.if_icmp .ge 31, 3) := by decide +kernel
theorem dX11_again_81 : decode cX11_again 81 = .ok (.aload_n 0, 1) := by decide +kernel
theorem dX11_again_82 : decode cX11_again 82 = .ok (.getfield 16, 3) := by decide +kernel
theorem dX11_again_85 : decode cX11_again 85 = .ok (.iload_n 3, 1) := by decide +kernel
theorem dX11_again_86 : decode cX11_again 86 = .ok (.aload_n 0, 1) := by decide +kernel
theorem dX11_again_87 : decode cX11_again 87 = .ok (.getfield 7, 3) := by decide +kernel
theorem dX11_again_90 : decode cX11_again 90 = .ok (.iload_n 2, 1) := by decide +kernel
theorem dX11_again_91 : decode cX11_again 91 = .ok (.sipush 976, 3) := by decide +kernel
theorem dX11_again_94 : decode cX11_again 94 = .ok (.iadd, 1) := by decide +kernel
theorem dX11_again_95 : decode cX11_again 95 = .ok (.sipush 800, 3) := by decide +kernel
theorem dX11_again_98 : decode cX11_again 98 = .ok (.iadd, 1) := by decide +kernel
theorem dX11_again_99 : decode cX11_again 99 = .ok (.iload_n 3, 1) := by decide +kernel
theorem dX11_again_100 : decode cX11_again 100 = .ok (.iadd, 1) := by decide +kernel
theorem dX11_again_101 : decode cX11_again 101 = .ok (.iaload, 1) := by decide +kernel
theorem dX11_again_102 : decode cX11_again 102 = .ok (.iastore, 1) := by decide +kernel
theorem dX11_again_103 : decode cX11_again 103 = .ok (.iinc 3 1, 3) := by decide +kernel
theorem dX11_again_106 : decode cX11_again 106 = .ok (.goto (-32), 3) := by decide +kernel
theorem dX11_again_109 : decode cX11_again 109 = .ok (.aload_n 0, 1) := by decide +kernel
theorem dX11_again_110 : decode cX11_again 110 = .ok (.aload_n 0, 1) := by decide +kernel
theorem dX11_again_111 : decode cX11_again 111 = .ok (.getfield 7, 3) := by decide +kernel
theorem dX11_again_114 : decode cX11_again 114 = .ok (.iload_n 2, 1) := by decide +kernel
theorem dX11_again_115 : decode cX11_again 115 = .ok (.sipush 976, 3) := by decide +kernel
theorem dX11_again_118 : decode cX11_again 118 = .ok (.iadd, 1) := by decide +kernel
theorem dX11_again_119 : decode cX11_again 119 = .ok (.sipush 800, 3) := by decide +kernel
theorem dX11_again_122 : decode cX11_again 122 = .ok (.iadd, 1) := by decide +kernel
theorem dX11_again_123 : decode cX11_again 123 = .ok (.sipush 400, 3) := by decide +kernel
theorem dX11_again_126 : decode cX11_again 126 = .ok (.iadd, 1) := by decide +kernel
theorem dX11_again_127 : decode cX11_again 127 = .ok (.iaload, 1) := by decide +kernel
theorem dX11_again_128 : decode cX11_again 128 = .ok (.putfield 218, 3) := by decide +kernel
theorem dX11_again_131 : decode cX11_again 131 = .ok (.aload_n 0, 1) := by decide +kernel
theorem dX11_again_132 : decode cX11_again 132 = .ok (.aload_n 0, 1) := by decide +kernel
theorem dX11_again_133 : decode cX11_again 133 = .ok (.getfield 7, 3) := by decide +kernel
theorem dX11_again_136 : decode cX11_again 136 = .ok (.iload_n 2, 1) := by decide +kernel
theorem dX11_again_137 : decode cX11_again 137 = .ok (.sipush 976, 3) := by decide +kernel
theorem dX11_again_140 : decode cX11_again 140 = .ok (.iadd, 1) := by decide +kernel
theorem dX11_again_141 : decode cX11_again 141 = .ok (.sipush 800, 3) := by decide +kernel
theorem dX11_again_144 : decode cX11_again 144 = .ok (.iadd, 1) := by decide +kernel
theorem dX11_again_145 : decode cX11_again 145 = .ok (.sipush 401, 3) := by decide +kernel
theorem dX11_again_148 : decode cX11_again 148 = .ok (.iadd, 1) := by decide +kernel
theorem dX11_again_149 : decode cX11_again 149 = .ok (.iaload, 1) := by decide +kernel
theorem dX11_again_150 : decode cX11_again 150 = .ok (.putfield 233, 3) := by decide +kernel
theorem dX11_again_153 : decode cX11_again 153 = .ok (.aload_n 0, 1) := by decide +kernel
theorem dX11_again_154 : decode cX11_again 154 = .ok (.aload_n 0, 1) := by decide +kernel
theorem dX11_again_155 : decode cX11_again 155 = .ok (.getfield 7, 3) := by decide +kernel
theorem dX11_again_158 : decode cX11_again 158 = .ok (.iload_n 2, 1) := by decide +kernel
theorem dX11_again_159 : decode cX11_again 159 = .ok (.sipush 976, 3) := by decide +kernel
theorem dX11_again_162 : decode cX11_again 162 = .ok (.iadd, 1) := by decide +kernel
theorem dX11_again_163 : decode cX11_again 163 = .ok (.sipush 800, 3) := by decide +kernel
theorem dX11_again_166 : decode cX11_again 166 = .ok (.iadd, 1) := by decide +kernel
theorem dX11_again_167 : decode cX11_again 167 = .ok (.sipush 402, 3) := by decide +kernel
theorem dX11_again_170 : decode cX11_again 170 = .ok (.iadd, 1) := by decide +kernel
theorem dX11_again_171 : decode cX11_again 171 = .ok (.iaload, 1) := by decide +kernel
theorem dX11_again_172 : decode cX11_again 172 = .ok (.putfield 23, 3) := by decide +kernel
theorem dX11_again_175 : decode cX11_again 175 = .ok (.aload_n 0, 1) := by decide +kernel
theorem dX11_again_176 : decode cX11_again 176 = .ok (.aload_n 0, 1) := by decide +kernel
theorem dX11_again_177 : decode cX11_again 177 = .ok (.getfield 7, 3) := by decide +kernel
theorem dX11_again_180 : decode cX11_again 180 = .ok (.iload_n 2, 1) := by decide +kernel
theorem dX11_again_181 : decode cX11_again 181 = .ok (.sipush 976, 3) := by decide +kernel
theorem dX11_again_184 : decode cX11_again 184 = .ok (.iadd, 1) := by decide +kernel
theorem dX11_again_185 : decode cX11_again 185 = .ok (.sipush 800, 3) := by decide +kernel
theorem dX11_again_188 : decode cX11_again 188 = .ok (.iadd, 1) := by decide +kernel
theorem dX11_again_189 : decode cX11_again 189 = .ok (.sipush 403, 3) := by decide +kernel
theorem dX11_again_192 : decode cX11_again 192 = .ok (.iadd, 1) := by decide +kernel
theorem dX11_again_193 : decode cX11_again 193 = .ok (.iaload, 1) := by decide +kernel
theorem dX11_again_194 : decode cX11_again 194 = .ok (.putfield 224, 3) := by decide +kernel
theorem dX11_again_197 : decode cX11_again 197 = .ok (.aload_n 0, 1) := by decide +kernel
theorem dX11_again_198 : decode cX11_again 198 = .ok (.iconst 0, 1) := by decide +kernel
theorem dX11_again_199 : decode cX11_again 199 = .ok (.putfield 151, 3) := by decide +kernel
theorem dX11_again_202 : decode cX11_again 202 = .ok (.iconst 1, 1) := by decide +kernel
theorem dX11_again_203 : decode cX11_again 203 = .ok (.ireturn, 1) := by decide +kernel
end
section
/-! A WORLD as a list of cells whose references are places in that list; the rules that turn the machine's judgement into one over such worlds -/
abbrev MC : Type := (FieldType × vp_A) ⊕ (Nat × List Value)
abbrev MW : Type := List MC
/-- a value, its place turned into an address -/
def rv (ad : Nat → Nat) : Value → Value
  | .ref k => .ref (ad k)
  | .int x => .int x
  | .long x => .long x
  | .null => .null
  | v => v
def av (ad : Nat → Nat) : vp_A → vp_A
  | (n, .inr (.inr (.inr (.inr f)))) => (n, .inr (.inr (.inr (.inr (fun j => (f j).map ad)))))
  | (n, .inl f) => (n, .inl f)
  | a => a
def cv (dA : FieldType → ClassId) (ad : Nat → Nat) : MC → va_E
  | .inl (ty, a) => .inl (dA ty, av ad a)
  | .inr (c, fs) => .inr (c, fs.map (rv ad))
def wi (dA : FieldType → ClassId) (ad : Nat → Nat) (w : MW) : va_W := w.mapIdx (fun k c => (ad k, cv dA ad c))
theorem wi_at {dA : FieldType → ClassId} {ad : Nat → Nat} {w : MW} {k : Nat} {c : MC} (h : w[k]? = some c) : (wi dA ad w)[k]? = some (ad k, cv dA ad c) := by
  simp [wi, h]
theorem wi_set {dA : FieldType → ClassId} {ad : Nat → Nat} (w : MW) (k : Nat) (c : MC) : (wi dA ad w).set k (ad k, cv dA ad c) = wi dA ad (w.set k c) := by
  simp [wi, List.mapIdx_set]
theorem wi_push {dA : FieldType → ClassId} {ad : Nat → Nat} (w : MW) (c : MC) : wi dA ad w ++ [(ad w.length, cv dA ad c)] = wi dA ad (w ++ [c]) := by
  simp [wi, List.mapIdx_append]
theorem rv_cat (ad : Nat → Nat) (v : Value) : (rv ad v).category = v.category := by cases v <;> rfl
/-- reading and writing -/
def gI (w : MW) (c h k : Nat) : Option Int32 := match w[h]? with
  | some (.inr (c', fs)) => if c' = c then (match fs[k]? with | some (.int x) => some x | _ => none) else none
  | _ => none
def gJ (w : MW) (c h k : Nat) : Option Int64 := match w[h]? with
  | some (.inr (c', fs)) => if c' = c then (match fs[k]? with | some (.long x) => some x | _ => none) else none
  | _ => none
def gR (w : MW) (c h k : Nat) : Option Nat := match w[h]? with
  | some (.inr (c', fs)) => if c' = c then (match fs[k]? with | some (.ref x) => some x | _ => none) else none
  | _ => none
def pV (w : MW) (c h k : Nat) (v : Value) : Option MW := match w[h]? with
  | some (.inr (c', fs)) => if c' = c ∧ k < fs.length then some (w.set h (.inr (c, fs.set k v))) else none
  | _ => none
def aI (w : MW) (ty : FieldType) (a : Nat) (i : Int32) : Option Int32 := match w[a]? with
  | some (.inl (ty', n, .inl f)) => if ty' = ty ∧ 0 ≤ i ∧ i.toNatClampNeg < n then some (f i.toNatClampNeg) else none
  | _ => none
def aR (w : MW) (ty : FieldType) (a : Nat) (i : Int32) : Option (Option Nat) := match w[a]? with
  | some (.inl (ty', n, .inr (.inr (.inr (.inr f))))) => if ty' = ty ∧ 0 ≤ i ∧ i.toNatClampNeg < n then some (f i.toNatClampNeg) else none
  | _ => none
def sI (w : MW) (ty : FieldType) (a : Nat) (i x : Int32) : Option MW := match w[a]? with
  | some (.inl (ty', n, .inl f)) => if ty' = ty ∧ 0 ≤ i ∧ i.toNatClampNeg < n then some (w.set a (.inl (ty, n, .inl (upd f i.toNatClampNeg x)))) else none
  | _ => none
def sR (w : MW) (C : String) (ci : Nat) (a : Nat) (i : Int32) (x : Nat) : Option MW := match w[a]?, w[x]? with
  | some (.inl (ty', n, .inr (.inr (.inr (.inr f))))), some (.inr (c', _)) => if ty' = .object C ∧ c' = ci ∧ 0 ≤ i ∧ i.toNatClampNeg < n then some (w.set a (.inl (.object C, n, .inr (.inr (.inr (.inr (va_up f i.toNatClampNeg (some x)))))))) else none
  | _, _ => none
def aL (w : MW) (ty : FieldType) (a : Nat) : Option Int32 := match w[a]? with
  | some (.inl (ty', x)) => if ty' = ty then some (Int32.ofNat x.1) else none
  | _ => none
/-- System.arraycopy between arrays of whole numbers -/
def cpI (w : MW) (ty : FieldType) (a0 : Nat) (sp : Int32) (a1 : Nat) (dp n : Int32) : Option MW := match w[a0]?, w[a1]? with
  | some (.inl (t0, n0, .inl f)), some (.inl (t1, n1, .inl g)) =>
    if t0 = ty ∧ t1 = ty ∧ 0 ≤ sp ∧ 0 ≤ dp ∧ 0 ≤ n ∧ sp.toNatClampNeg + n.toNatClampNeg ≤ n0 ∧ dp.toNatClampNeg + n.toNatClampNeg ≤ n1 ∧ (∀ i, i < n.toNatClampNeg → fits ty (.int (f (sp.toNatClampNeg + i))) = true)
    then some (w.set a1 (.inl (ty, n1, .inl (va_cpy f g sp.toNatClampNeg dp.toNatClampNeg n.toNatClampNeg)))) else none
  | _, _ => none
/-- a call's receiver is an object of class ci -/
def cl {α : Type} (w : MW) (ci b : Nat) (x : Option α) : Option α := match w[b]? with
  | some (.inr (c', _)) => if c' = ci then x else none
  | _ => none
/-- a name for a value -/
def bnd {α β : Type} (x : α) (k : α → β) : β := k x
def rOK (n : Nat) : Value → Bool
  | .ref k => decide (k < n) || decide (10000 ≤ k)
  | _ => true
def cOK (n : Nat) : MC → Prop
  | .inl (_, _, .inr (.inr (.inr (.inr f)))) => ∀ j k, f j = some k → k < n
  | .inl _ => True
  | .inr (_, fs) => fs.all (rOK n) = true
/-- all references are to cells of the world -/
def wOK (w : MW) : Prop := w.length < 10000 ∧ ∀ c ∈ w, cOK w.length c
/-- a new cell; vs: the values that are held elsewhere -/
noncomputable def nwC (n0 : Nat) (w : MW) (vs : List Value) (c : MC) : Option MW := @ite _ (wOK w ∧ vs.all (rOK w.length) = true ∧ n0 ≤ w.length) (Classical.propDecidable _) (some (w ++ [c])) none
theorem gI_spec {w : MW} {c h k : Nat} {x : Int32} (e : gI w c h k = some x) : ∃ fs, w[h]? = some (.inr (c, fs)) ∧ fs[k]? = some (.int x) := by
  unfold gI at e
  split at e
  · rename_i c' fs hw
    split at e
    · rename_i hc
      subst hc
      split at e
      · rename_i y hy
        cases e
        exact ⟨fs, hw, hy⟩
      · cases e
    · cases e
  · cases e
theorem gJ_spec {w : MW} {c h k : Nat} {x : Int64} (e : gJ w c h k = some x) : ∃ fs, w[h]? = some (.inr (c, fs)) ∧ fs[k]? = some (.long x) := by
  unfold gJ at e
  split at e
  · rename_i c' fs hw
    split at e
    · rename_i hc
      subst hc
      split at e
      · rename_i y hy
        cases e
        exact ⟨fs, hw, hy⟩
      · cases e
    · cases e
  · cases e
theorem gR_spec {w : MW} {c h k : Nat} {x : Nat} (e : gR w c h k = some x) : ∃ fs, w[h]? = some (.inr (c, fs)) ∧ fs[k]? = some (.ref x) := by
  unfold gR at e
  split at e
  · rename_i c' fs hw
    split at e
    · rename_i hc
      subst hc
      split at e
      · rename_i y hy
        cases e
        exact ⟨fs, hw, hy⟩
      · cases e
    · cases e
  · cases e
theorem pV_spec {w w1 : MW} {c h k : Nat} {v : Value} (e : pV w c h k v = some w1) : ∃ fs, w[h]? = some (.inr (c, fs)) ∧ k < fs.length ∧ w1 = w.set h (.inr (c, fs.set k v)) := by
  unfold pV at e
  split at e
  · rename_i c' fs hw
    split at e
    · rename_i hc
      obtain ⟨rfl, hk⟩ := hc
      cases e
      exact ⟨fs, hw, hk, rfl⟩
    · cases e
  · cases e
theorem aI_spec {w : MW} {ty : FieldType} {a : Nat} {i x : Int32} (e : aI w ty a i = some x) : ∃ n f, w[a]? = some (.inl (ty, n, .inl f)) ∧ vp_in i n ∧ x = f i.toNatClampNeg := by
  unfold aI at e
  split at e
  · rename_i ty' n f hw
    split at e
    · rename_i hc
      obtain ⟨rfl, h1, h2⟩ := hc
      cases e
      exact ⟨n, f, hw, fun h => h.elim (fun h => absurd h1 (Int32.not_le.mpr h)) (fun h => absurd h2 (Nat.not_lt.mpr h)), rfl⟩
    · cases e
  · cases e
theorem aR_spec {w : MW} {ty : FieldType} {a : Nat} {i : Int32} {x : Option Nat} (e : aR w ty a i = some x) : ∃ n f, w[a]? = some (.inl (ty, n, .inr (.inr (.inr (.inr f))))) ∧ vp_in i n ∧ x = f i.toNatClampNeg := by
  unfold aR at e
  split at e
  · rename_i ty' n f hw
    split at e
    · rename_i hc
      obtain ⟨rfl, h1, h2⟩ := hc
      cases e
      exact ⟨n, f, hw, fun h => h.elim (fun h => absurd h1 (Int32.not_le.mpr h)) (fun h => absurd h2 (Nat.not_lt.mpr h)), rfl⟩
    · cases e
  · cases e
theorem sI_spec {w w1 : MW} {ty : FieldType} {a : Nat} {i x : Int32} (e : sI w ty a i x = some w1) : ∃ n f, w[a]? = some (.inl (ty, n, .inl f)) ∧ vp_in i n ∧ w1 = w.set a (.inl (ty, n, .inl (upd f i.toNatClampNeg x))) := by
  unfold sI at e
  split at e
  · rename_i ty' n f hw
    split at e
    · rename_i hc
      obtain ⟨rfl, h1, h2⟩ := hc
      cases e
      exact ⟨n, f, hw, fun h => h.elim (fun h => absurd h1 (Int32.not_le.mpr h)) (fun h => absurd h2 (Nat.not_lt.mpr h)), rfl⟩
    · cases e
  · cases e
theorem sR_spec {w w1 : MW} {C : String} {ci a : Nat} {i : Int32} {x : Nat} (e : sR w C ci a i x = some w1) : ∃ n f fs, w[a]? = some (.inl (.object C, n, .inr (.inr (.inr (.inr f))))) ∧ w[x]? = some (.inr (ci, fs)) ∧ vp_in i n ∧ w1 = w.set a (.inl (.object C, n, .inr (.inr (.inr (.inr (va_up f i.toNatClampNeg (some x))))))) := by
  unfold sR at e
  split at e
  · rename_i ty' n f c' fs hw hx
    split at e
    · rename_i hc
      obtain ⟨rfl, rfl, h1, h2⟩ := hc
      cases e
      exact ⟨n, f, fs, hw, hx, fun h => h.elim (fun h => absurd h1 (Int32.not_le.mpr h)) (fun h => absurd h2 (Nat.not_lt.mpr h)), rfl⟩
    · cases e
  · cases e
theorem aL_spec {w : MW} {ty : FieldType} {a : Nat} {x : Int32} (e : aL w ty a = some x) : ∃ y, w[a]? = some (.inl (ty, y)) ∧ x = Int32.ofNat y.1 := by
  unfold aL at e
  split at e
  · rename_i ty' y hw
    split at e
    · rename_i hc
      subst hc
      cases e
      exact ⟨y, hw, rfl⟩
    · cases e
  · cases e
theorem cl_spec {α : Type} {w : MW} {ci b : Nat} {x : Option α} {y : α} (e : cl w ci b x = some y) : ∃ fs, w[b]? = some (.inr (ci, fs)) ∧ x = some y := by
  unfold cl at e
  split at e
  · rename_i c' fs hw
    split at e
    · rename_i hc
      subst hc
      exact ⟨fs, hw, e⟩
    · cases e
  · cases e
theorem cpI_spec {w w1 : MW} {ty : FieldType} {a0 a1 : Nat} {sp dp n : Int32} (e : cpI w ty a0 sp a1 dp n = some w1) : ∃ n0 f n1 g, w[a0]? = some (.inl (ty, n0, .inl f)) ∧ w[a1]? = some (.inl (ty, n1, .inl g)) ∧ ¬ sp < 0 ∧ ¬ dp < 0 ∧ ¬ n < 0 ∧ sp.toNatClampNeg + n.toNatClampNeg ≤ n0 ∧ dp.toNatClampNeg + n.toNatClampNeg ≤ n1 ∧ (∀ i, i < n.toNatClampNeg → fits ty (.int (f (sp.toNatClampNeg + i))) = true) ∧ w1 = w.set a1 (.inl (ty, n1, .inl (va_cpy f g sp.toNatClampNeg dp.toNatClampNeg n.toNatClampNeg))) := by
  unfold cpI at e
  split at e
  · rename_i t0 n0 f t1 n1 g hw0 hw1
    split at e
    · rename_i hc
      obtain ⟨rfl, rfl, h1, h2, h3, h4, h5, h6⟩ := hc
      cases e
      exact ⟨n0, f, n1, g, hw0, hw1, Int32.not_lt.mpr h1, Int32.not_lt.mpr h2, Int32.not_lt.mpr h3, h4, h5, h6, rfl⟩
    · cases e
  · cases e
/-- the tables' words that hold at every state of the run; those of nest mates -/
def GT : List Cond := lw_tbl.filter goodWord
def isNest : Cond → Bool
  | .fieldLinkNest _ _ _ _ _ _ => true
  | .methodLinkNest _ _ _ _ => true
  | _ => false
def NT : List Cond := lw_tbl.filter isNest
theorem mGT (i : Nat) {x : Cond} (h : lw_tbl[i]? = some x) (hg : goodWord x = true) : x ∈ GT := List.mem_filter.mpr ⟨List.mem_of_getElem? h, hg⟩
theorem mNT (i : Nat) {x : Cond} (h : lw_tbl[i]? = some x) (hg : isNest x = true) : x ∈ NT := List.mem_filter.mpr ⟨List.mem_of_getElem? h, hg⟩
theorem GT_good : ∀ x ∈ GT, (x.onTables && x.keeps) = true ∨ ∃ ty, x = .arrayClass ty := fun _ h => good_of_word (List.mem_filter.mp h).2
theorem GT_in {x : Cond} (hx : x ∈ GT) : GoodIn GT (x :: GT) := fun y hy => by
  rcases List.mem_cons.mp hy with rfl | h
  · exact ⟨hx, GT_good _ hx⟩
  · exact ⟨h, GT_good _ h⟩
/-- the class's texts -/
def sIx : List Nat := [78, 84, 86, 88, 90, 92, 94, 101, 103, 105, 107, 109, 111]
def sTx : List String := ["set", "mark", "cut", "join", "melt", "shift", "move", "s", "skk", "sks", "sb", "skks", "ss"]
def sLn : List Nat := [3, 4, 3, 4, 4, 5, 4, 1, 3, 3, 2, 4, 2]
def sBy : List (List Int32) := [[115, 101, 116], [109, 97, 114, 107], [99, 117, 116], [106, 111, 105, 110], [109, 101, 108, 116], [115, 104, 105, 102, 116], [109, 111, 118, 101], [115], [115, 107, 107], [115, 107, 115], [115, 98], [115, 107, 107, 115], [115, 115]]
/-- what stays as it is at every state: links of nest mates, texts, and a static of String's -/
def SW (ad : Nat → Nat) (A : Nat → Prop) (U : State) (H : Heap) : Prop :=
  (∀ x ∈ NT, va_Nw x U) ∧ (∀ i, i < 13 → vk_R RX5 (sIx.getD i 0) (sTx.getD i "") (ad (10000 + i)) U) ∧ vk_S 13 sLn sBy (fun i => ad (10000 + i)) (fun i => ad (20000 + i)) A U H ∧ va_Z "java/lang/String" "COMPACT_STRINGS" "Z" (.int 1) A U H ∧ (∀ C ∈ [RX0, RX6, RX1], va_AO C U) ∧ (va_Z "jdk/internal/util/Preconditions" "SIOOBE_FORMATTER" "Ljava/util/function/BiFunction;" .null A U H ∨ va_Z "jdk/internal/util/Preconditions" "SIOOBE_FORMATTER" "Ljava/util/function/BiFunction;" (.ref (ad 30000)) A U H)
theorem SW.warm {ad : Nat → Nat} {A : Nat → Prop} {s U : State} {H : Heap} (hW : s.WarmedH U.vm) (h : SW ad A s H) : SW ad A U H := by
  obtain ⟨h1, h2, h3, h4, h5, h6⟩ := h
  refine ⟨fun x hx => ?_, fun i hi => (h2 i hi).warm hW, h3.moved hW.alike, h4.moved hW.alike, fun C hC => (h5 C hC).moved hW.alike, h6.imp (fun h => h.moved hW.alike) (fun h => h.moved hW.alike)⟩
  have hn := (List.mem_filter.mp hx).2
  have hb := h1 x hx
  cases x <;> first | exact va_Nw.warmF hW hb | exact va_Nw.warmM hW hb | exact absurd hn (by simp [isNest])
theorem SW.kept {ad : Nat → Nat} {A : Nat → Prop} {U : State} {H H1 : Heap} (h : SW ad A U H) (hq : ∀ a : Nat, a < H.size → ¬ A a → H1[a]? = H[a]?) : SW ad A U H1 := by
  obtain ⟨h1, h2, h3, h4, h5, h6⟩ := h
  exact ⟨h1, h2, h3.kept hq, h4.kept hq, h5, h6.imp (fun h => h.kept hq) (fun h => h.kept hq)⟩
theorem SW.narrow {ad : Nat → Nat} {A B : Nat → Prop} {U : State} {H : Heap} (h : SW ad A U H) (hAB : ∀ q, B q → A q) : SW ad B U H := by
  obtain ⟨h1, h2, h3, h4, h5, h6⟩ := h
  exact ⟨h1, h2, h3.narrow hAB, h4.narrow hAB, h5, h6.imp (fun h => h.narrow hAB) (fun h => h.narrow hAB)⟩
theorem SW.calling {ad : Nat → Nat} {A : Nat → Prop} {U : State} {H : Heap} {g : JFrame} {mk : MethodId} {a : Array Value} (h : SW ad A U H) : SW ad A (U.calling g mk a) H := by
  obtain ⟨h1, h2, h3, h4, h5, h6⟩ := h
  refine ⟨fun x hx => ?_, fun i hi => (h2 i hi).same (U := U.calling g mk a) rfl, h3.moved (U := U.calling g mk a) (Vm.Alike.refl U.vm), h4.moved (U := U.calling g mk a) (Vm.Alike.refl U.vm), fun C hC => (h5 C hC).moved (U := U.calling g mk a) (Vm.Alike.refl U.vm), h6.imp (fun h => h.moved (U := U.calling g mk a) (Vm.Alike.refl U.vm)) (fun h => h.moved (U := U.calling g mk a) (Vm.Alike.refl U.vm))⟩
  have hn := (List.mem_filter.mp hx).2
  refine va_Nw.same ?_ (rfl : U.vm = (U.calling g mk a).vm) (h1 x hx)
  cases x <;> first | rfl | exact absurd hn (by simp [isNest])
theorem SW.ad {ad ad' : Nat → Nat} {A : Nat → Prop} {U : State} {H : Heap} (h : SW ad A U H) (e : ∀ k, 10000 ≤ k → ad' k = ad k) : SW ad' A U H := by
  obtain ⟨h1, h2, h3, h4, h5, h6⟩ := h
  have e2 : (fun i => ad' (10000 + i)) = fun i => ad (10000 + i) := funext fun i => e _ (Nat.le_add_right _ _)
  have e3 : (fun i => ad' (20000 + i)) = fun i => ad (20000 + i) := funext fun i => e _ (by omega)
  refine ⟨h1, fun i hi => ?_, ?_, h4, h5, by rw [e 30000 (by omega)]; exact h6⟩
  · rw [e _ (Nat.le_add_right _ _)]; exact h2 i hi
  · rw [e2, e3]; exact h3
def tyL (dA : FieldType → ClassId) : List (ClassId × FieldType) := [(dA .int, .int), (dA .byte, .byte), (dA .boolean, .boolean), (dA (.object RX0), .object RX0), (dA (.object RX6), .object RX6), (dA (.object RX1), .object RX1)]
/-- what holds all through a method's body -/
def jcx (p : Program) (s : State) (m : MethodId) (args : Array Value) (meth : Method) (c : Code) (cc : ByteArray) (nL : Nat) (own : String) (ret : Option FieldType) (D : va_G) (dA : FieldType → ClassId) (A : Nat → Prop) (E : (Nat → Nat) → Prop) : Prop :=
  p.tables.exec = Jvm.exec ∧ c.code = cc ∧ c.maxLocals = nL ∧ s.vm.findClass own = some m.cls ∧ (∀ x ∈ GT, x.before args s = true) ∧ va_K D vwCl (tyL dA) s ∧ meth.sig.returnType = ret ∧ meth.locks = false ∧ (∀ q, s.heap.size ≤ q → A q) ∧ (∀ ad, E ad → SW ad A s s.heap)
/-- the machine's judgement over a world -/
def JW (p : Program) (l : Launch) (e : Env) (R : Room) (s : State) (m : MethodId) (args : Array Value) (below : List Frame) (meth : Method) (c : Code) (nL : Nat) (D : va_G) (dA : FieldType → ClassId) (A : Nat → Prop) (E : (Nat → Nat) → Prop) (Q : State → Prop) (cells slots pc : Nat) (L : List (Nat × Value)) (S : List Value) (w : MW) : Prop :=
  ∀ (ad : Nat → Nat) (H : Heap) (locs : List Loc) (ls : Array Slot), E ad → va_P D vwCl (wi dA ad w) H → va_D A (wi dA ad w) → va_S A s.heap H locs → lv_has ls nL (L.map (fun q => (q.1, rv ad q.2))) → W p l e R s m args below meth c H locs cells slots Q (F0 m pc ls (S.map (rv ad)))
/-- a method's end -/
def Qr (D : va_G) (dA : FieldType → ClassId) (E : (Nat → Nat) → Prop) (r : Option Value) (w' : MW) (A : Nat → Prop) : Array Value → State → Outcome → State → Prop := fun _ st o t =>
  ∃ ad, E ad ∧ o = .returned (r.map (rv ad)) ∧ va_P D vwCl (wi dA ad w') t.heap ∧ va_D A (wi dA ad w') ∧ va_F A st t
/-- a method's start -/
def Pj (D : va_G) (dA : FieldType → ClassId) (ad : Nat → Nat) (as : List Value) (w : MW) (sz : Nat) : Array Value → State → Prop :=
  va_Pc (as.map (rv ad)) (fun U => U.heap.size = sz ∧ va_P D vwCl (wi dA ad w) U.heap ∧ va_K D vwCl (tyL dA) U ∧ va_D (fun _ => True) (wi dA ad w) ∧ SW ad (va_A (wi dA ad w) sz) U U.heap)
def EN (ad : Nat → Nat) : (Nat → Nat) → Prop := fun ad' => ad' = ad
def EA (n : Nat) (ad : Nat → Nat) : (Nat → Nat) → Prop := fun ad' => ∀ k, (k < n ∨ 10000 ≤ k) → ad' k = ad k
/-- a method's contract: it makes no cell -/
def CT (l : Launch) (D : va_G) (dA : FieldType → ClassId) (y : MethodName) (cc : ByteArray) (maxL : Nat) (ret : Option FieldType) (rm : Room) (as : List Value) (w : MW) (r : Option Value) (w' : MW) : Prop :=
  ∀ (ad : Nat → Nat) (sz : Nat), Met l y (.code y cc maxL ret :: GT) rm (Pj D dA ad as w sz) (Qr D dA (EN ad) r w' (va_A (wi dA ad w) sz)) 0 0 (va_A (wi dA ad w) sz)
/-- a method's contract: it makes cells -/
def CA (l : Launch) (D : va_G) (dA : FieldType → ClassId) (y : MethodName) (cc : ByteArray) (maxL : Nat) (ret : Option FieldType) (rm : Room) (mc ms : Nat) (as : List Value) (w : MW) (r : Option Value) (w' : MW) : Prop :=
  ∀ (ad : Nat → Nat) (sz : Nat), Met l y (.code y cc maxL ret :: GT) rm (Pj D dA ad as w sz) (Qr D dA (EA w.length ad) r w' (va_A (wi dA ad w) sz)) mc ms (va_A (wi dA ad w) sz)
end
section
section JR
variable {p : Program} {l : Launch} {e : Env} {R : Room} {s : State} {m : MethodId} {args : Array Value} {below : List Frame} {meth : Method} {c : Code} {Q : State → Prop} {cells slots : Nat}
variable {cc : ByteArray} {nL : Nat} {own : String} {ret : Option FieldType} {D : va_G} {dA : FieldType → ClassId} {A : Nat → Prop} {E : (Nat → Nat) → Prop}
variable {pc : Nat} {L : List (Nat × Value)} {S : List Value} {w : MW} {ρ : Type} {r : ρ}
theorem J_iconst (C : jcx p s m args meth c cc nL own ret D dA A E) {n : Int} {v : Int32} (hd : decode cc pc = .ok (.iconst n, 1)) (hv : Int32.ofInt n = v) (k : JW p l e R s m args below meth c nL D dA A E Q cells slots (pc + 1) L (.int v :: S) w) : JW p l e R s m args below meth c nL D dA A E Q cells slots pc L S w := fun ad H locs ls hE hP hD hS hl => lv_iconst C.1 C.2.1 hd hv (k ad H locs ls hE hP hD hS hl)
theorem J_bipush (C : jcx p s m args meth c cc nL own ret D dA A E) {n : Int} {v : Int32} (hd : decode cc pc = .ok (.bipush n, 2)) (hv : (Int8.ofInt n).toInt32 = v) (k : JW p l e R s m args below meth c nL D dA A E Q cells slots (pc + 2) L (.int v :: S) w) : JW p l e R s m args below meth c nL D dA A E Q cells slots pc L S w := fun ad H locs ls hE hP hD hS hl => lv_bipush C.1 C.2.1 hd hv (k ad H locs ls hE hP hD hS hl)
theorem J_sipush (C : jcx p s m args meth c cc nL own ret D dA A E) {n : Int} {v : Int32} (hd : decode cc pc = .ok (.sipush n, 3)) (hv : (Int16.ofInt n).toInt32 = v) (k : JW p l e R s m args below meth c nL D dA A E Q cells slots (pc + 3) L (.int v :: S) w) : JW p l e R s m args below meth c nL D dA A E Q cells slots pc L S w := fun ad H locs ls hE hP hD hS hl => lv_sipush C.1 C.2.1 hd hv (k ad H locs ls hE hP hD hS hl)
theorem J_lconst (C : jcx p s m args meth c cc nL own ret D dA A E) {n : Fin 2} {v : Int64} (hd : decode cc pc = .ok (.lconst n, 1)) (hv : Int64.ofNat (n : Nat) = v) (k : JW p l e R s m args below meth c nL D dA A E Q cells slots (pc + 1) L (.long v :: S) w) : JW p l e R s m args below meth c nL D dA A E Q cells slots pc L S w := fun ad H locs ls hE hP hD hS hl => lv_lconst C.1 C.2.1 hd hv (k ad H locs ls hE hP hD hS hl)
theorem J_ldc (C : jcx p s m args meth c cc nL own ret D dA A E) {n : Nat} {v : Int32} (hd : decode cc pc = .ok (.ldc n, 2)) (hw : Cond.constant own n v ∈ GT) (k : JW p l e R s m args below meth c nL D dA A E Q cells slots (pc + 2) L (.int v :: S) w) : JW p l e R s m args below meth c nL D dA A E Q cells slots pc L S w := fun ad H locs ls hE hP hD hS hl => lv_ldc C.1 C.2.1 C.2.2.2.1 (C.2.2.2.2.1 _ hw) hd (k ad H locs ls hE hP hD hS hl)
theorem J_ldcw (C : jcx p s m args meth c cc nL own ret D dA A E) {n : Nat} {v : Int32} (hd : decode cc pc = .ok (.ldc_w n, 3)) (hw : Cond.constant own n v ∈ GT) (k : JW p l e R s m args below meth c nL D dA A E Q cells slots (pc + 3) L (.int v :: S) w) : JW p l e R s m args below meth c nL D dA A E Q cells slots pc L S w := fun ad H locs ls hE hP hD hS hl => lv_ldcw C.1 C.2.1 C.2.2.2.1 (C.2.2.2.2.1 _ hw) hd (k ad H locs ls hE hP hD hS hl)
theorem J_ldc2 (C : jcx p s m args meth c cc nL own ret D dA A E) {n : Nat} {v : Int64} (hd : decode cc pc = .ok (.ldc2_w n, 3)) (hw : Cond.constantLong own n v ∈ GT) (k : JW p l e R s m args below meth c nL D dA A E Q cells slots (pc + 3) L (.long v :: S) w) : JW p l e R s m args below meth c nL D dA A E Q cells slots pc L S w := fun ad H locs ls hE hP hD hS hl => lv_ldc2 C.1 C.2.1 C.2.2.2.1 (C.2.2.2.2.1 _ hw) hd (k ad H locs ls hE hP hD hS hl)
theorem J_ldcS (C : jcx p s m args meth c cc nL own ret D dA A E) {n : Nat} (i : Nat) (hi : i < 13) (hn : sIx.getD i 0 = n) (ho : own = RX5) (hd : decode cc pc = .ok (.ldc n, 2)) (k : JW p l e R s m args below meth c nL D dA A E Q cells slots (pc + 2) L (.ref (10000 + i) :: S) w) : JW p l e R s m args below meth c nL D dA A E Q cells slots pc L S w := fun ad H locs ls hE hP hD hS hl => va_ldcS C.1 C.2.1 C.2.2.2.1 (ho ▸ hn ▸ (C.2.2.2.2.2.2.2.2.2 ad hE).2.1 i hi) hd (k ad H locs ls hE hP hD hS hl)
theorem lvm_at {ls : Array Slot} {nL : Nat} {ad : Nat → Nat} {L : List (Nat × Value)} (h : lv_has ls nL (L.map (fun q => (q.1, rv ad q.2)))) (j : Nat) {i : Nat} {v : Value} (hj : L[j]? = some (i, v)) : ls[i]? = some (.val (rv ad v)) := lv_at h j (by rw [List.getElem?_map, hj]; rfl)
theorem lvm_fil {ad : Nat → Nat} (i : Nat) (L : List (Nat × Value)) : (L.map (fun q => (q.1, rv ad q.2))).filter (fun q => !(q.1 == i) && !(q.1 + 1 == i && q.2.category == 2)) = (L.filter (fun q => !(q.1 == i) && !(q.1 + 1 == i && q.2.category == 2))).map (fun q => (q.1, rv ad q.2)) := by
  rw [List.filter_map]
  congr 1
  apply List.filter_congr
  intro q _
  simp [Function.comp, rv_cat]
theorem lvm_fil2 {ad : Nat → Nat} (i : Nat) (L : List (Nat × Value)) : (L.map (fun q => (q.1, rv ad q.2))).filter (fun q => !(q.1 == i) && (!(q.1 == i + 1) && !(q.1 + 1 == i && q.2.category == 2))) = (L.filter (fun q => !(q.1 == i) && (!(q.1 == i + 1) && !(q.1 + 1 == i && q.2.category == 2)))).map (fun q => (q.1, rv ad q.2)) := by
  rw [List.filter_map]
  congr 1
  apply List.filter_congr
  intro q _
  simp [Function.comp, rv_cat]
/-- storing at place i: what is listed then -/
def lst (i : Nat) (v : Value) (L : List (Nat × Value)) : List (Nat × Value) := (i, v) :: L.filter (fun q => !(q.1 == i) && !(q.1 + 1 == i && q.2.category == 2))
def lst2 (i : Nat) (v : Value) (L : List (Nat × Value)) : List (Nat × Value) := (i, v) :: L.filter (fun q => !(q.1 == i) && (!(q.1 == i + 1) && !(q.1 + 1 == i && q.2.category == 2)))
theorem J_iload_n (C : jcx p s m args meth c cc nL own ret D dA A E) {n : Fin 4} {i : Nat} {x : Int32} (hd : decode cc pc = .ok (.iload_n n, 1)) (hi : (n : Nat) = i) (j : Nat) (hj : L[j]? = some (i, .int x)) (k : JW p l e R s m args below meth c nL D dA A E Q cells slots (pc + 1) L (.int x :: S) w) : JW p l e R s m args below meth c nL D dA A E Q cells slots pc L S w := fun ad H locs ls hE hP hD hS hl => lv_iload_n C.1 C.2.1 hd hi (lvm_at hl j hj) (k ad H locs ls hE hP hD hS hl)
theorem J_iload (C : jcx p s m args meth c cc nL own ret D dA A E) {i : Nat} {x : Int32} (hd : decode cc pc = .ok (.iload i, 2)) (j : Nat) (hj : L[j]? = some (i, .int x)) (k : JW p l e R s m args below meth c nL D dA A E Q cells slots (pc + 2) L (.int x :: S) w) : JW p l e R s m args below meth c nL D dA A E Q cells slots pc L S w := fun ad H locs ls hE hP hD hS hl => lv_iload C.1 C.2.1 hd (lvm_at hl j hj) (k ad H locs ls hE hP hD hS hl)
theorem J_lload_n (C : jcx p s m args meth c cc nL own ret D dA A E) {n : Fin 4} {i : Nat} {x : Int64} (hd : decode cc pc = .ok (.lload_n n, 1)) (hi : (n : Nat) = i) (j : Nat) (hj : L[j]? = some (i, .long x)) (k : JW p l e R s m args below meth c nL D dA A E Q cells slots (pc + 1) L (.long x :: S) w) : JW p l e R s m args below meth c nL D dA A E Q cells slots pc L S w := fun ad H locs ls hE hP hD hS hl => lv_lload_n C.1 C.2.1 hd hi (lvm_at hl j hj) (k ad H locs ls hE hP hD hS hl)
theorem J_lload (C : jcx p s m args meth c cc nL own ret D dA A E) {i : Nat} {x : Int64} (hd : decode cc pc = .ok (.lload i, 2)) (j : Nat) (hj : L[j]? = some (i, .long x)) (k : JW p l e R s m args below meth c nL D dA A E Q cells slots (pc + 2) L (.long x :: S) w) : JW p l e R s m args below meth c nL D dA A E Q cells slots pc L S w := fun ad H locs ls hE hP hD hS hl => lv_lload C.1 C.2.1 hd (lvm_at hl j hj) (k ad H locs ls hE hP hD hS hl)
theorem J_aload_n (C : jcx p s m args meth c cc nL own ret D dA A E) {n : Fin 4} {i : Nat} {x : Nat} (hd : decode cc pc = .ok (.aload_n n, 1)) (hi : (n : Nat) = i) (j : Nat) (hj : L[j]? = some (i, .ref x)) (k : JW p l e R s m args below meth c nL D dA A E Q cells slots (pc + 1) L (.ref x :: S) w) : JW p l e R s m args below meth c nL D dA A E Q cells slots pc L S w := fun ad H locs ls hE hP hD hS hl => lv_aload_n C.1 C.2.1 hd hi (lvm_at hl j hj) (k ad H locs ls hE hP hD hS hl)
theorem J_aload (C : jcx p s m args meth c cc nL own ret D dA A E) {i : Nat} {x : Nat} (hd : decode cc pc = .ok (.aload i, 2)) (j : Nat) (hj : L[j]? = some (i, .ref x)) (k : JW p l e R s m args below meth c nL D dA A E Q cells slots (pc + 2) L (.ref x :: S) w) : JW p l e R s m args below meth c nL D dA A E Q cells slots pc L S w := fun ad H locs ls hE hP hD hS hl => lv_aload C.1 C.2.1 hd (lvm_at hl j hj) (k ad H locs ls hE hP hD hS hl)
theorem J_aload_nN (C : jcx p s m args meth c cc nL own ret D dA A E) {n : Fin 4} {i : Nat} (hd : decode cc pc = .ok (.aload_n n, 1)) (hi : (n : Nat) = i) (j : Nat) (hj : L[j]? = some (i, .null)) (k : JW p l e R s m args below meth c nL D dA A E Q cells slots (pc + 1) L (.null :: S) w) : JW p l e R s m args below meth c nL D dA A E Q cells slots pc L S w := fun ad H locs ls hE hP hD hS hl => lv_aload_nN C.1 C.2.1 hd hi (lvm_at hl j hj) (k ad H locs ls hE hP hD hS hl)
theorem J_aloadN (C : jcx p s m args meth c cc nL own ret D dA A E) {i : Nat} (hd : decode cc pc = .ok (.aload i, 2)) (j : Nat) (hj : L[j]? = some (i, .null)) (k : JW p l e R s m args below meth c nL D dA A E Q cells slots (pc + 2) L (.null :: S) w) : JW p l e R s m args below meth c nL D dA A E Q cells slots pc L S w := fun ad H locs ls hE hP hD hS hl => lv_aloadN C.1 C.2.1 hd (lvm_at hl j hj) (k ad H locs ls hE hP hD hS hl)
theorem J_istore_n (C : jcx p s m args meth c cc nL own ret D dA A E) {n : Fin 4} {i : Nat} {x : Int32} {K : Int32 → ρ} (hd : decode cc pc = .ok (.istore_n n, 1)) (hi : (n : Nat) = i) (hn : i < nL) (hf : bnd x K = r) (L1 : Int32 → List (Nat × Value)) (hL : ∀ v, lst i (.int v) L = L1 v) (k : ∀ v, K v = r → JW p l e R s m args below meth c nL D dA A E Q cells slots (pc + 1) (L1 v) S w) : JW p l e R s m args below meth c nL D dA A E Q cells slots pc L (.int x :: S) w := fun ad H locs ls hE hP hD hS hl => lv_istore_n C.1 C.2.1 hd hi hl hn rfl (fun ls hl => k x hf ad H locs ls hE hP hD hS (by rw [← hL]; rw [lvm_fil] at hl; exact hl))
theorem J_istore (C : jcx p s m args meth c cc nL own ret D dA A E) {i : Nat} {x : Int32} {K : Int32 → ρ} (hd : decode cc pc = .ok (.istore i, 2)) (hn : i < nL) (hf : bnd x K = r) (L1 : Int32 → List (Nat × Value)) (hL : ∀ v, lst i (.int v) L = L1 v) (k : ∀ v, K v = r → JW p l e R s m args below meth c nL D dA A E Q cells slots (pc + 2) (L1 v) S w) : JW p l e R s m args below meth c nL D dA A E Q cells slots pc L (.int x :: S) w := fun ad H locs ls hE hP hD hS hl => lv_istore C.1 C.2.1 hd hl hn rfl (fun ls hl => k x hf ad H locs ls hE hP hD hS (by rw [← hL]; rw [lvm_fil] at hl; exact hl))
theorem J_lstore_n (C : jcx p s m args meth c cc nL own ret D dA A E) {n : Fin 4} {i : Nat} {x : Int64} {K : Int64 → ρ} (hd : decode cc pc = .ok (.lstore_n n, 1)) (hi : (n : Nat) = i) (hn : i + 1 < nL) (hf : bnd x K = r) (L1 : Int64 → List (Nat × Value)) (hL : ∀ v, lst2 i (.long v) L = L1 v) (k : ∀ v, K v = r → JW p l e R s m args below meth c nL D dA A E Q cells slots (pc + 1) (L1 v) S w) : JW p l e R s m args below meth c nL D dA A E Q cells slots pc L (.long x :: S) w := fun ad H locs ls hE hP hD hS hl => lv_lstore_n C.1 C.2.1 hd hi hl hn rfl (fun ls hl => k x hf ad H locs ls hE hP hD hS (by rw [← hL]; rw [lvm_fil2] at hl; exact hl))
theorem J_lstore (C : jcx p s m args meth c cc nL own ret D dA A E) {i : Nat} {x : Int64} {K : Int64 → ρ} (hd : decode cc pc = .ok (.lstore i, 2)) (hn : i + 1 < nL) (hf : bnd x K = r) (L1 : Int64 → List (Nat × Value)) (hL : ∀ v, lst2 i (.long v) L = L1 v) (k : ∀ v, K v = r → JW p l e R s m args below meth c nL D dA A E Q cells slots (pc + 2) (L1 v) S w) : JW p l e R s m args below meth c nL D dA A E Q cells slots pc L (.long x :: S) w := fun ad H locs ls hE hP hD hS hl => lv_lstore C.1 C.2.1 hd hl hn rfl (fun ls hl => k x hf ad H locs ls hE hP hD hS (by rw [← hL]; rw [lvm_fil2] at hl; exact hl))
theorem J_astore_n (C : jcx p s m args meth c cc nL own ret D dA A E) {n : Fin 4} {i : Nat} {x : Nat} (hd : decode cc pc = .ok (.astore_n n, 1)) (hi : (n : Nat) = i) (hn : i < nL) (L1 : List (Nat × Value)) (hL : lst i (.ref x) L = L1) (k : JW p l e R s m args below meth c nL D dA A E Q cells slots (pc + 1) L1 S w) : JW p l e R s m args below meth c nL D dA A E Q cells slots pc L (.ref x :: S) w := fun ad H locs ls hE hP hD hS hl => lv_astore_n C.1 C.2.1 hd hi hl hn rfl (fun ls hl => k ad H locs ls hE hP hD hS (by rw [← hL]; rw [lvm_fil] at hl; exact hl))
theorem J_astore_nN (C : jcx p s m args meth c cc nL own ret D dA A E) {n : Fin 4} {i : Nat} (hd : decode cc pc = .ok (.astore_n n, 1)) (hi : (n : Nat) = i) (hn : i < nL) (L1 : List (Nat × Value)) (hL : lst i .null L = L1) (k : JW p l e R s m args below meth c nL D dA A E Q cells slots (pc + 1) L1 S w) : JW p l e R s m args below meth c nL D dA A E Q cells slots pc L (.null :: S) w := fun ad H locs ls hE hP hD hS hl => lv_astore_nN C.1 C.2.1 hd hi hl hn rfl (fun ls hl => k ad H locs ls hE hP hD hS (by rw [← hL]; rw [lvm_fil] at hl; exact hl))
theorem J_astore (C : jcx p s m args meth c cc nL own ret D dA A E) {i : Nat} {x : Nat} (hd : decode cc pc = .ok (.astore i, 2)) (hn : i < nL) (L1 : List (Nat × Value)) (hL : lst i (.ref x) L = L1) (k : JW p l e R s m args below meth c nL D dA A E Q cells slots (pc + 2) L1 S w) : JW p l e R s m args below meth c nL D dA A E Q cells slots pc L (.ref x :: S) w := fun ad H locs ls hE hP hD hS hl => lv_astore C.1 C.2.1 hd hl hn rfl (fun ls hl => k ad H locs ls hE hP hD hS (by rw [← hL]; rw [lvm_fil] at hl; exact hl))
theorem J_astoreN (C : jcx p s m args meth c cc nL own ret D dA A E) {i : Nat} (hd : decode cc pc = .ok (.astore i, 2)) (hn : i < nL) (L1 : List (Nat × Value)) (hL : lst i .null L = L1) (k : JW p l e R s m args below meth c nL D dA A E Q cells slots (pc + 2) L1 S w) : JW p l e R s m args below meth c nL D dA A E Q cells slots pc L (.null :: S) w := fun ad H locs ls hE hP hD hS hl => lv_astoreN C.1 C.2.1 hd hl hn rfl (fun ls hl => k ad H locs ls hE hP hD hS (by rw [← hL]; rw [lvm_fil] at hl; exact hl))
theorem J_iinc (C : jcx p s m args meth c cc nL own ret D dA A E) {i : Nat} {n : Int} {x y : Int32} {K : Int32 → ρ} (hd : decode cc pc = .ok (.iinc i n, 3)) (j : Nat) (hj : L[j]? = some (i, .int x)) (hv : x + Int32.ofInt n = y) (hn : i < nL) (hf : bnd y K = r) (L1 : Int32 → List (Nat × Value)) (hL : ∀ v, lst i (.int v) L = L1 v) (k : ∀ v, K v = r → JW p l e R s m args below meth c nL D dA A E Q cells slots (pc + 3) (L1 v) S w) : JW p l e R s m args below meth c nL D dA A E Q cells slots pc L S w := fun ad H locs ls hE hP hD hS hl => lv_iinc C.1 C.2.1 hd hl (k := j) (by rw [List.getElem?_map, hj]; rfl) hv hn rfl (fun ls hl => k y hf ad H locs ls hE hP hD hS (by rw [← hL]; rw [lvm_fil] at hl; exact hl))
/-- fewer locals, in any order -/
theorem J_sub (js : List Nat) {L1 : List (Nat × Value)} (h : lv_pick L js = L1) (k : JW p l e R s m args below meth c nL D dA A E Q cells slots pc L1 S w) : JW p l e R s m args below meth c nL D dA A E Q cells slots pc L S w := fun ad H locs ls hE hP hD hS hl => k ad H locs ls hE hP hD hS (lv_sub hl js (by rw [← h]; unfold lv_pick; rw [List.map_filterMap]; simp))
/-- a name for a value on the stack -/
theorem J_bnd {x : Int32} {K : Int32 → ρ} (hf : bnd x K = r) (k : ∀ v, K v = r → JW p l e R s m args below meth c nL D dA A E Q cells slots pc L (.int v :: S) w) : JW p l e R s m args below meth c nL D dA A E Q cells slots pc L (.int x :: S) w := k x hf
theorem J_iadd (C : jcx p s m args meth c cc nL own ret D dA A E) {x y : Int32} (hd : decode cc pc = .ok (.iadd, 1)) (k : JW p l e R s m args below meth c nL D dA A E Q cells slots (pc + 1) L (.int (x + y) :: S) w) : JW p l e R s m args below meth c nL D dA A E Q cells slots pc L (.int y :: .int x :: S) w := fun ad H locs ls hE hP hD hS hl => lv_iadd C.1 C.2.1 hd (k ad H locs ls hE hP hD hS hl)
theorem J_isub (C : jcx p s m args meth c cc nL own ret D dA A E) {x y : Int32} (hd : decode cc pc = .ok (.isub, 1)) (k : JW p l e R s m args below meth c nL D dA A E Q cells slots (pc + 1) L (.int (x - y) :: S) w) : JW p l e R s m args below meth c nL D dA A E Q cells slots pc L (.int y :: .int x :: S) w := fun ad H locs ls hE hP hD hS hl => lv_isub C.1 C.2.1 hd (k ad H locs ls hE hP hD hS hl)
theorem J_imul (C : jcx p s m args meth c cc nL own ret D dA A E) {x y : Int32} (hd : decode cc pc = .ok (.imul, 1)) (k : JW p l e R s m args below meth c nL D dA A E Q cells slots (pc + 1) L (.int (x * y) :: S) w) : JW p l e R s m args below meth c nL D dA A E Q cells slots pc L (.int y :: .int x :: S) w := fun ad H locs ls hE hP hD hS hl => lv_imul C.1 C.2.1 hd (k ad H locs ls hE hP hD hS hl)
theorem J_iand (C : jcx p s m args meth c cc nL own ret D dA A E) {x y : Int32} (hd : decode cc pc = .ok (.iand, 1)) (k : JW p l e R s m args below meth c nL D dA A E Q cells slots (pc + 1) L (.int (x &&& y) :: S) w) : JW p l e R s m args below meth c nL D dA A E Q cells slots pc L (.int y :: .int x :: S) w := fun ad H locs ls hE hP hD hS hl => lv_iand C.1 C.2.1 hd (k ad H locs ls hE hP hD hS hl)
theorem J_ior (C : jcx p s m args meth c cc nL own ret D dA A E) {x y : Int32} (hd : decode cc pc = .ok (.ior, 1)) (k : JW p l e R s m args below meth c nL D dA A E Q cells slots (pc + 1) L (.int (x ||| y) :: S) w) : JW p l e R s m args below meth c nL D dA A E Q cells slots pc L (.int y :: .int x :: S) w := fun ad H locs ls hE hP hD hS hl => lv_ior C.1 C.2.1 hd (k ad H locs ls hE hP hD hS hl)
theorem J_ixor (C : jcx p s m args meth c cc nL own ret D dA A E) {x y : Int32} (hd : decode cc pc = .ok (.ixor, 1)) (k : JW p l e R s m args below meth c nL D dA A E Q cells slots (pc + 1) L (.int (x ^^^ y) :: S) w) : JW p l e R s m args below meth c nL D dA A E Q cells slots pc L (.int y :: .int x :: S) w := fun ad H locs ls hE hP hD hS hl => lv_ixor C.1 C.2.1 hd (k ad H locs ls hE hP hD hS hl)
theorem J_ishl (C : jcx p s m args meth c cc nL own ret D dA A E) {x y : Int32} (hd : decode cc pc = .ok (.ishl, 1)) (k : JW p l e R s m args below meth c nL D dA A E Q cells slots (pc + 1) L (.int (x <<< (y &&& 31)) :: S) w) : JW p l e R s m args below meth c nL D dA A E Q cells slots pc L (.int y :: .int x :: S) w := fun ad H locs ls hE hP hD hS hl => lv_ishl C.1 C.2.1 hd (k ad H locs ls hE hP hD hS hl)
theorem J_ishr (C : jcx p s m args meth c cc nL own ret D dA A E) {x y : Int32} (hd : decode cc pc = .ok (.ishr, 1)) (k : JW p l e R s m args below meth c nL D dA A E Q cells slots (pc + 1) L (.int (x >>> (y &&& 31)) :: S) w) : JW p l e R s m args below meth c nL D dA A E Q cells slots pc L (.int y :: .int x :: S) w := fun ad H locs ls hE hP hD hS hl => lv_ishr C.1 C.2.1 hd (k ad H locs ls hE hP hD hS hl)
theorem J_ladd (C : jcx p s m args meth c cc nL own ret D dA A E) {x y : Int64} (hd : decode cc pc = .ok (.ladd, 1)) (k : JW p l e R s m args below meth c nL D dA A E Q cells slots (pc + 1) L (.long (x + y) :: S) w) : JW p l e R s m args below meth c nL D dA A E Q cells slots pc L (.long y :: .long x :: S) w := fun ad H locs ls hE hP hD hS hl => lv_ladd C.1 C.2.1 hd (k ad H locs ls hE hP hD hS hl)
theorem J_lsub (C : jcx p s m args meth c cc nL own ret D dA A E) {x y : Int64} (hd : decode cc pc = .ok (.lsub, 1)) (k : JW p l e R s m args below meth c nL D dA A E Q cells slots (pc + 1) L (.long (x - y) :: S) w) : JW p l e R s m args below meth c nL D dA A E Q cells slots pc L (.long y :: .long x :: S) w := fun ad H locs ls hE hP hD hS hl => lv_lsub C.1 C.2.1 hd (k ad H locs ls hE hP hD hS hl)
theorem J_lmul (C : jcx p s m args meth c cc nL own ret D dA A E) {x y : Int64} (hd : decode cc pc = .ok (.lmul, 1)) (k : JW p l e R s m args below meth c nL D dA A E Q cells slots (pc + 1) L (.long (x * y) :: S) w) : JW p l e R s m args below meth c nL D dA A E Q cells slots pc L (.long y :: .long x :: S) w := fun ad H locs ls hE hP hD hS hl => lv_lmul C.1 C.2.1 hd (k ad H locs ls hE hP hD hS hl)
theorem J_ineg (C : jcx p s m args meth c cc nL own ret D dA A E) {x : Int32} (hd : decode cc pc = .ok (.ineg, 1)) (k : JW p l e R s m args below meth c nL D dA A E Q cells slots (pc + 1) L (.int (-x) :: S) w) : JW p l e R s m args below meth c nL D dA A E Q cells slots pc L (.int x :: S) w := fun ad H locs ls hE hP hD hS hl => lv_ineg C.1 C.2.1 hd (k ad H locs ls hE hP hD hS hl)
def dv (x y : Int32) : Option Int32 := if y = 0 then none else some (x / y)
def rmd (x y : Int32) : Option Int32 := if y = 0 then none else some (x - x / y * y)
def ush (x y : Int32) : Int32 := (x.toUInt32 >>> (y.toUInt32 &&& Int32.toUInt32 31)).toInt32
def i2cF (x : Int32) : Int32 := (x.toUInt32 % 65536).toInt32
theorem bind_ok {α β : Type} {x : Option α} {K : α → Option β} {r : β} (h : x.bind K = some r) : ∃ y, x = some y ∧ K y = some r := by
  cases x with
  | none => cases h
  | some y => exact ⟨y, rfl, h⟩
theorem dv_spec {x y z : Int32} (h : dv x y = some z) : ¬ y = 0 ∧ z = x / y := by
  unfold dv at h
  split at h
  · cases h
  · rename_i hy; cases h; exact ⟨hy, rfl⟩
theorem rmd_spec {x y z : Int32} (h : rmd x y = some z) : ¬ y = 0 ∧ z = x - x / y * y := by
  unfold rmd at h
  split at h
  · cases h
  · rename_i hy; cases h; exact ⟨hy, rfl⟩
variable {ρ' : Type} {r' : ρ'}
theorem J_iushr (C : jcx p s m args meth c cc nL own ret D dA A E) {x y : Int32} (hd : decode cc pc = .ok (.iushr, 1)) (k : JW p l e R s m args below meth c nL D dA A E Q cells slots (pc + 1) L (.int (ush x y) :: S) w) : JW p l e R s m args below meth c nL D dA A E Q cells slots pc L (.int y :: .int x :: S) w := fun ad H locs ls hE hP hD hS hl => lv_iushr C.1 C.2.1 hd rfl (k ad H locs ls hE hP hD hS hl)
theorem J_i2l (C : jcx p s m args meth c cc nL own ret D dA A E) {x : Int32} (hd : decode cc pc = .ok (.i2l, 1)) (k : JW p l e R s m args below meth c nL D dA A E Q cells slots (pc + 1) L (.long x.toInt64 :: S) w) : JW p l e R s m args below meth c nL D dA A E Q cells slots pc L (.int x :: S) w := fun ad H locs ls hE hP hD hS hl => lv_i2l C.1 C.2.1 hd rfl (k ad H locs ls hE hP hD hS hl)
theorem J_l2i (C : jcx p s m args meth c cc nL own ret D dA A E) {x : Int64} (hd : decode cc pc = .ok (.l2i, 1)) (k : JW p l e R s m args below meth c nL D dA A E Q cells slots (pc + 1) L (.int x.toInt32 :: S) w) : JW p l e R s m args below meth c nL D dA A E Q cells slots pc L (.long x :: S) w := fun ad H locs ls hE hP hD hS hl => lv_l2i C.1 C.2.1 hd rfl (k ad H locs ls hE hP hD hS hl)
theorem J_i2b (C : jcx p s m args meth c cc nL own ret D dA A E) {x : Int32} (hd : decode cc pc = .ok (.i2b, 1)) (k : JW p l e R s m args below meth c nL D dA A E Q cells slots (pc + 1) L (.int x.toInt8.toInt32 :: S) w) : JW p l e R s m args below meth c nL D dA A E Q cells slots pc L (.int x :: S) w := fun ad H locs ls hE hP hD hS hl => lv_i2b C.1 C.2.1 hd rfl (k ad H locs ls hE hP hD hS hl)
theorem J_i2c (C : jcx p s m args meth c cc nL own ret D dA A E) {x : Int32} (hd : decode cc pc = .ok (.i2c, 1)) (k : JW p l e R s m args below meth c nL D dA A E Q cells slots (pc + 1) L (.int (i2cF x) :: S) w) : JW p l e R s m args below meth c nL D dA A E Q cells slots pc L (.int x :: S) w := fun ad H locs ls hE hP hD hS hl => lv_i2c C.1 C.2.1 hd rfl (k ad H locs ls hE hP hD hS hl)
theorem J_lcmp (C : jcx p s m args meth c cc nL own ret D dA A E) {x y : Int64} (hd : decode cc pc = .ok (.lcmp, 1)) (k : JW p l e R s m args below meth c nL D dA A E Q cells slots (pc + 1) L (.int (lg_cmp x y) :: S) w) : JW p l e R s m args below meth c nL D dA A E Q cells slots pc L (.long y :: .long x :: S) w := fun ad H locs ls hE hP hD hS hl => W.lcmp C.1 C.2.1 hd (k ad H locs ls hE hP hD hS hl)
theorem J_dup (C : jcx p s m args meth c cc nL own ret D dA A E) {v : Value} (hd : decode cc pc = .ok (.dup, 1)) (hv : v.category = 1) (k : JW p l e R s m args below meth c nL D dA A E Q cells slots (pc + 1) L (v :: v :: S) w) : JW p l e R s m args below meth c nL D dA A E Q cells slots pc L (v :: S) w := fun ad H locs ls hE hP hD hS hl => lv_dup C.1 C.2.1 hd ((rv_cat ad v).trans hv) (k ad H locs ls hE hP hD hS hl)
theorem J_pop (C : jcx p s m args meth c cc nL own ret D dA A E) {v : Value} (hd : decode cc pc = .ok (.pop, 1)) (hv : v.category = 1) (k : JW p l e R s m args below meth c nL D dA A E Q cells slots (pc + 1) L S w) : JW p l e R s m args below meth c nL D dA A E Q cells slots pc L (v :: S) w := fun ad H locs ls hE hP hD hS hl => lv_pop C.1 C.2.1 hd ((rv_cat ad v).trans hv) (k ad H locs ls hE hP hD hS hl)
theorem J_dup2 (C : jcx p s m args meth c cc nL own ret D dA A E) {v u : Value} (hd : decode cc pc = .ok (.dup2, 1)) (hv : v.category = 1) (hu : u.category = 1) (k : JW p l e R s m args below meth c nL D dA A E Q cells slots (pc + 1) L (v :: u :: v :: u :: S) w) : JW p l e R s m args below meth c nL D dA A E Q cells slots pc L (v :: u :: S) w := fun ad H locs ls hE hP hD hS hl => lv_dup2_11 C.1 C.2.1 hd ((rv_cat ad v).trans hv) ((rv_cat ad u).trans hu) (k ad H locs ls hE hP hD hS hl)
theorem J_idiv (C : jcx p s m args meth c cc nL own ret D dA A E) {x y : Int32} {K : Int32 → Option ρ} (hd : decode cc pc = .ok (.idiv, 1)) (hf : (dv x y).bind K = some r) (k : ∀ v, K v = some r → JW p l e R s m args below meth c nL D dA A E Q cells slots (pc + 1) L (.int v :: S) w) : JW p l e R s m args below meth c nL D dA A E Q cells slots pc L (.int y :: .int x :: S) w := by
  obtain ⟨v, h1, h2⟩ := bind_ok hf
  obtain ⟨h3, rfl⟩ := dv_spec h1
  exact fun ad H locs ls hE hP hD hS hl => lv_idiv C.1 C.2.1 hd h3 (k _ h2 ad H locs ls hE hP hD hS hl)
theorem J_irem (C : jcx p s m args meth c cc nL own ret D dA A E) {x y : Int32} {K : Int32 → Option ρ} (hd : decode cc pc = .ok (.irem, 1)) (hf : (rmd x y).bind K = some r) (k : ∀ v, K v = some r → JW p l e R s m args below meth c nL D dA A E Q cells slots (pc + 1) L (.int v :: S) w) : JW p l e R s m args below meth c nL D dA A E Q cells slots pc L (.int y :: .int x :: S) w := by
  obtain ⟨v, h1, h2⟩ := bind_ok hf
  obtain ⟨h3, rfl⟩ := rmd_spec h1
  exact fun ad H locs ls hE hP hD hS hl => lv_irem C.1 C.2.1 hd h3 (k _ h2 ad H locs ls hE hP hD hS hl)
theorem J_if_eq (C : jcx p s m args meth c cc nL own ret D dA A E) {x : Int32} {off : Int} {tgt : Nat} {T F : ρ} (hd : decode cc pc = .ok (.ifCond .eq off, 3)) (ht : (pc : Int) + off = (tgt : Int)) (hf : (if x = 0 then T else F) = r) (kt : x = 0 → T = r → JW p l e R s m args below meth c nL D dA A E Q cells slots tgt L S w) (kf : ¬ x = 0 → F = r → JW p l e R s m args below meth c nL D dA A E Q cells slots (pc + 3) L S w) : JW p l e R s m args below meth c nL D dA A E Q cells slots pc L (.int x :: S) w := fun ad H locs ls hE hP hD hS hl => lv_if_eq C.1 C.2.1 hd ht (fun h => kt h (by rw [if_pos h] at hf; exact hf) ad H locs ls hE hP hD hS hl) (fun h => kf h (by rw [if_neg h] at hf; exact hf) ad H locs ls hE hP hD hS hl)
theorem J_icmp_eq (C : jcx p s m args meth c cc nL own ret D dA A E) {x y : Int32} {off : Int} {tgt : Nat} {T F : ρ} (hd : decode cc pc = .ok (.if_icmp .eq off, 3)) (ht : (pc : Int) + off = (tgt : Int)) (hf : (if x = y then T else F) = r) (kt : x = y → T = r → JW p l e R s m args below meth c nL D dA A E Q cells slots tgt L S w) (kf : ¬ x = y → F = r → JW p l e R s m args below meth c nL D dA A E Q cells slots (pc + 3) L S w) : JW p l e R s m args below meth c nL D dA A E Q cells slots pc L (.int y :: .int x :: S) w := fun ad H locs ls hE hP hD hS hl => lv_icmp_eq C.1 C.2.1 hd ht (fun h => kt h (by rw [if_pos h] at hf; exact hf) ad H locs ls hE hP hD hS hl) (fun h => kf h (by rw [if_neg h] at hf; exact hf) ad H locs ls hE hP hD hS hl)
theorem J_if_ne (C : jcx p s m args meth c cc nL own ret D dA A E) {x : Int32} {off : Int} {tgt : Nat} {T F : ρ} (hd : decode cc pc = .ok (.ifCond .ne off, 3)) (ht : (pc : Int) + off = (tgt : Int)) (hf : (if x = 0 then F else T) = r) (kt : ¬ x = 0 → T = r → JW p l e R s m args below meth c nL D dA A E Q cells slots tgt L S w) (kf : x = 0 → F = r → JW p l e R s m args below meth c nL D dA A E Q cells slots (pc + 3) L S w) : JW p l e R s m args below meth c nL D dA A E Q cells slots pc L (.int x :: S) w := fun ad H locs ls hE hP hD hS hl => lv_if_ne C.1 C.2.1 hd ht (fun h => kt h (by rw [if_neg h] at hf; exact hf) ad H locs ls hE hP hD hS hl) (fun h => kf h (by rw [if_pos h] at hf; exact hf) ad H locs ls hE hP hD hS hl)
theorem J_icmp_ne (C : jcx p s m args meth c cc nL own ret D dA A E) {x y : Int32} {off : Int} {tgt : Nat} {T F : ρ} (hd : decode cc pc = .ok (.if_icmp .ne off, 3)) (ht : (pc : Int) + off = (tgt : Int)) (hf : (if x = y then F else T) = r) (kt : ¬ x = y → T = r → JW p l e R s m args below meth c nL D dA A E Q cells slots tgt L S w) (kf : x = y → F = r → JW p l e R s m args below meth c nL D dA A E Q cells slots (pc + 3) L S w) : JW p l e R s m args below meth c nL D dA A E Q cells slots pc L (.int y :: .int x :: S) w := fun ad H locs ls hE hP hD hS hl => lv_icmp_ne C.1 C.2.1 hd ht (fun h => kt h (by rw [if_neg h] at hf; exact hf) ad H locs ls hE hP hD hS hl) (fun h => kf h (by rw [if_pos h] at hf; exact hf) ad H locs ls hE hP hD hS hl)
theorem J_if_lt (C : jcx p s m args meth c cc nL own ret D dA A E) {x : Int32} {off : Int} {tgt : Nat} {T F : ρ} (hd : decode cc pc = .ok (.ifCond .lt off, 3)) (ht : (pc : Int) + off = (tgt : Int)) (hf : (if x < 0 then T else F) = r) (kt : x < 0 → T = r → JW p l e R s m args below meth c nL D dA A E Q cells slots tgt L S w) (kf : ¬ x < 0 → F = r → JW p l e R s m args below meth c nL D dA A E Q cells slots (pc + 3) L S w) : JW p l e R s m args below meth c nL D dA A E Q cells slots pc L (.int x :: S) w := fun ad H locs ls hE hP hD hS hl => lv_if_lt C.1 C.2.1 hd ht (fun h => kt h (by rw [if_pos h] at hf; exact hf) ad H locs ls hE hP hD hS hl) (fun h => kf h (by rw [if_neg h] at hf; exact hf) ad H locs ls hE hP hD hS hl)
theorem J_icmp_lt (C : jcx p s m args meth c cc nL own ret D dA A E) {x y : Int32} {off : Int} {tgt : Nat} {T F : ρ} (hd : decode cc pc = .ok (.if_icmp .lt off, 3)) (ht : (pc : Int) + off = (tgt : Int)) (hf : (if x < y then T else F) = r) (kt : x < y → T = r → JW p l e R s m args below meth c nL D dA A E Q cells slots tgt L S w) (kf : ¬ x < y → F = r → JW p l e R s m args below meth c nL D dA A E Q cells slots (pc + 3) L S w) : JW p l e R s m args below meth c nL D dA A E Q cells slots pc L (.int y :: .int x :: S) w := fun ad H locs ls hE hP hD hS hl => lv_icmp_lt C.1 C.2.1 hd ht (fun h => kt h (by rw [if_pos h] at hf; exact hf) ad H locs ls hE hP hD hS hl) (fun h => kf h (by rw [if_neg h] at hf; exact hf) ad H locs ls hE hP hD hS hl)
theorem J_if_ge (C : jcx p s m args meth c cc nL own ret D dA A E) {x : Int32} {off : Int} {tgt : Nat} {T F : ρ} (hd : decode cc pc = .ok (.ifCond .ge off, 3)) (ht : (pc : Int) + off = (tgt : Int)) (hf : (if 0 ≤ x then T else F) = r) (kt : 0 ≤ x → T = r → JW p l e R s m args below meth c nL D dA A E Q cells slots tgt L S w) (kf : ¬ 0 ≤ x → F = r → JW p l e R s m args below meth c nL D dA A E Q cells slots (pc + 3) L S w) : JW p l e R s m args below meth c nL D dA A E Q cells slots pc L (.int x :: S) w := fun ad H locs ls hE hP hD hS hl => lv_if_ge C.1 C.2.1 hd ht (fun h => kt h (by rw [if_pos h] at hf; exact hf) ad H locs ls hE hP hD hS hl) (fun h => kf h (by rw [if_neg h] at hf; exact hf) ad H locs ls hE hP hD hS hl)
theorem J_icmp_ge (C : jcx p s m args meth c cc nL own ret D dA A E) {x y : Int32} {off : Int} {tgt : Nat} {T F : ρ} (hd : decode cc pc = .ok (.if_icmp .ge off, 3)) (ht : (pc : Int) + off = (tgt : Int)) (hf : (if y ≤ x then T else F) = r) (kt : y ≤ x → T = r → JW p l e R s m args below meth c nL D dA A E Q cells slots tgt L S w) (kf : ¬ y ≤ x → F = r → JW p l e R s m args below meth c nL D dA A E Q cells slots (pc + 3) L S w) : JW p l e R s m args below meth c nL D dA A E Q cells slots pc L (.int y :: .int x :: S) w := fun ad H locs ls hE hP hD hS hl => lv_icmp_ge C.1 C.2.1 hd ht (fun h => kt h (by rw [if_pos h] at hf; exact hf) ad H locs ls hE hP hD hS hl) (fun h => kf h (by rw [if_neg h] at hf; exact hf) ad H locs ls hE hP hD hS hl)
theorem J_if_gt (C : jcx p s m args meth c cc nL own ret D dA A E) {x : Int32} {off : Int} {tgt : Nat} {T F : ρ} (hd : decode cc pc = .ok (.ifCond .gt off, 3)) (ht : (pc : Int) + off = (tgt : Int)) (hf : (if 0 < x then T else F) = r) (kt : 0 < x → T = r → JW p l e R s m args below meth c nL D dA A E Q cells slots tgt L S w) (kf : ¬ 0 < x → F = r → JW p l e R s m args below meth c nL D dA A E Q cells slots (pc + 3) L S w) : JW p l e R s m args below meth c nL D dA A E Q cells slots pc L (.int x :: S) w := fun ad H locs ls hE hP hD hS hl => lv_if_gt C.1 C.2.1 hd ht (fun h => kt h (by rw [if_pos h] at hf; exact hf) ad H locs ls hE hP hD hS hl) (fun h => kf h (by rw [if_neg h] at hf; exact hf) ad H locs ls hE hP hD hS hl)
theorem J_icmp_gt (C : jcx p s m args meth c cc nL own ret D dA A E) {x y : Int32} {off : Int} {tgt : Nat} {T F : ρ} (hd : decode cc pc = .ok (.if_icmp .gt off, 3)) (ht : (pc : Int) + off = (tgt : Int)) (hf : (if y < x then T else F) = r) (kt : y < x → T = r → JW p l e R s m args below meth c nL D dA A E Q cells slots tgt L S w) (kf : ¬ y < x → F = r → JW p l e R s m args below meth c nL D dA A E Q cells slots (pc + 3) L S w) : JW p l e R s m args below meth c nL D dA A E Q cells slots pc L (.int y :: .int x :: S) w := fun ad H locs ls hE hP hD hS hl => lv_icmp_gt C.1 C.2.1 hd ht (fun h => kt h (by rw [if_pos h] at hf; exact hf) ad H locs ls hE hP hD hS hl) (fun h => kf h (by rw [if_neg h] at hf; exact hf) ad H locs ls hE hP hD hS hl)
theorem J_if_le (C : jcx p s m args meth c cc nL own ret D dA A E) {x : Int32} {off : Int} {tgt : Nat} {T F : ρ} (hd : decode cc pc = .ok (.ifCond .le off, 3)) (ht : (pc : Int) + off = (tgt : Int)) (hf : (if x ≤ 0 then T else F) = r) (kt : x ≤ 0 → T = r → JW p l e R s m args below meth c nL D dA A E Q cells slots tgt L S w) (kf : ¬ x ≤ 0 → F = r → JW p l e R s m args below meth c nL D dA A E Q cells slots (pc + 3) L S w) : JW p l e R s m args below meth c nL D dA A E Q cells slots pc L (.int x :: S) w := fun ad H locs ls hE hP hD hS hl => lv_if_le C.1 C.2.1 hd ht (fun h => kt h (by rw [if_pos h] at hf; exact hf) ad H locs ls hE hP hD hS hl) (fun h => kf h (by rw [if_neg h] at hf; exact hf) ad H locs ls hE hP hD hS hl)
theorem J_icmp_le (C : jcx p s m args meth c cc nL own ret D dA A E) {x y : Int32} {off : Int} {tgt : Nat} {T F : ρ} (hd : decode cc pc = .ok (.if_icmp .le off, 3)) (ht : (pc : Int) + off = (tgt : Int)) (hf : (if x ≤ y then T else F) = r) (kt : x ≤ y → T = r → JW p l e R s m args below meth c nL D dA A E Q cells slots tgt L S w) (kf : ¬ x ≤ y → F = r → JW p l e R s m args below meth c nL D dA A E Q cells slots (pc + 3) L S w) : JW p l e R s m args below meth c nL D dA A E Q cells slots pc L (.int y :: .int x :: S) w := fun ad H locs ls hE hP hD hS hl => lv_icmp_le C.1 C.2.1 hd ht (fun h => kt h (by rw [if_pos h] at hf; exact hf) ad H locs ls hE hP hD hS hl) (fun h => kf h (by rw [if_neg h] at hf; exact hf) ad H locs ls hE hP hD hS hl)
theorem J_goto (C : jcx p s m args meth c cc nL own ret D dA A E) {off : Int} {tgt : Nat} (hd : decode cc pc = .ok (.goto off, 3)) (ht : (pc : Int) + off = (tgt : Int)) (k : JW p l e R s m args below meth c nL D dA A E Q cells slots tgt L S w) : JW p l e R s m args below meth c nL D dA A E Q cells slots pc L S w := fun ad H locs ls hE hP hD hS hl => lv_goto C.1 C.2.1 hd ht (k ad H locs ls hE hP hD hS hl)
theorem J_ifnull (C : jcx p s m args meth c cc nL own ret D dA A E) {x : Nat} {off : Int} (hd : decode cc pc = .ok (.ifnull off, 3)) (k : JW p l e R s m args below meth c nL D dA A E Q cells slots (pc + 3) L S w) : JW p l e R s m args below meth c nL D dA A E Q cells slots pc L (.ref x :: S) w := fun ad H locs ls hE hP hD hS hl => lv_ifnull C.1 C.2.1 hd (k ad H locs ls hE hP hD hS hl)
theorem J_ifnullN (C : jcx p s m args meth c cc nL own ret D dA A E) {off : Int} {tgt : Nat} (hd : decode cc pc = .ok (.ifnull off, 3)) (ht : (pc : Int) + off = (tgt : Int)) (k : JW p l e R s m args below meth c nL D dA A E Q cells slots tgt L S w) : JW p l e R s m args below meth c nL D dA A E Q cells slots pc L (.null :: S) w := fun ad H locs ls hE hP hD hS hl => lv_ifnullN C.1 C.2.1 hd ht (k ad H locs ls hE hP hD hS hl)
theorem J_ifnonnull (C : jcx p s m args meth c cc nL own ret D dA A E) {x : Nat} {off : Int} {tgt : Nat} (hd : decode cc pc = .ok (.ifnonnull off, 3)) (ht : (pc : Int) + off = (tgt : Int)) (k : JW p l e R s m args below meth c nL D dA A E Q cells slots tgt L S w) : JW p l e R s m args below meth c nL D dA A E Q cells slots pc L (.ref x :: S) w := fun ad H locs ls hE hP hD hS hl => lv_ifnonnull C.1 C.2.1 hd ht (k ad H locs ls hE hP hD hS hl)
theorem J_ifnonnullN (C : jcx p s m args meth c cc nL own ret D dA A E) {off : Int} (hd : decode cc pc = .ok (.ifnonnull off, 3)) (k : JW p l e R s m args below meth c nL D dA A E Q cells slots (pc + 3) L S w) : JW p l e R s m args below meth c nL D dA A E Q cells slots pc L (.null :: S) w := fun ad H locs ls hE hP hD hS hl => lv_ifnonnullN C.1 C.2.1 hd (k ad H locs ls hE hP hD hS hl)
theorem J_null (C : jcx p s m args meth c cc nL own ret D dA A E) (hd : decode cc pc = .ok (.aconst_null, 1)) (k : JW p l e R s m args below meth c nL D dA A E Q cells slots (pc + 1) L (.null :: S) w) : JW p l e R s m args below meth c nL D dA A E Q cells slots pc L S w := fun ad H locs ls hE hP hD hS hl => lv_null C.1 C.2.1 hd (k ad H locs ls hE hP hD hS hl)
/-- a case, no step -/
theorem J_case {x v : Int32} {T F : ρ} (hf : (if x = v then T else F) = r) (kt : x = v → T = r → JW p l e R s m args below meth c nL D dA A E Q cells slots pc L (.int x :: S) w) (kf : ¬ x = v → F = r → JW p l e R s m args below meth c nL D dA A E Q cells slots pc L (.int x :: S) w) : JW p l e R s m args below meth c nL D dA A E Q cells slots pc L (.int x :: S) w := by
  by_cases h : x = v
  · rw [if_pos h] at hf; exact kt h hf
  · rw [if_neg h] at hf; exact kf h hf
theorem J_tabIn (C : jcx p s m args meth c cc nL own ret D dA A E) {x : Int32} {dflt lo hi off : Int} {offs : Array Int} {len tgt : Nat} (hd : decode cc pc = .ok (.tableswitch dflt lo hi offs, len)) (h1 : ¬ x.toInt < lo) (h2 : ¬ hi < x.toInt) (ho : offs[(x.toInt - lo).toNat]? = some off) (ht : (pc : Int) + off = (tgt : Int)) (k : JW p l e R s m args below meth c nL D dA A E Q cells slots tgt L S w) : JW p l e R s m args below meth c nL D dA A E Q cells slots pc L (.int x :: S) w := fun ad H locs ls hE hP hD hS hl => lv_tableIn C.1 C.2.1 hd h1 h2 ho ht (k ad H locs ls hE hP hD hS hl)
theorem J_tabOut (C : jcx p s m args meth c cc nL own ret D dA A E) {x : Int32} {dflt lo hi : Int} {offs : Array Int} {len tgt : Nat} (hd : decode cc pc = .ok (.tableswitch dflt lo hi offs, len)) (h : x.toInt < lo ∨ hi < x.toInt) (ht : (pc : Int) + dflt = (tgt : Int)) (k : JW p l e R s m args below meth c nL D dA A E Q cells slots tgt L S w) : JW p l e R s m args below meth c nL D dA A E Q cells slots pc L (.int x :: S) w := fun ad H locs ls hE hP hD hS hl => lv_tableOut C.1 C.2.1 hd h ht (k ad H locs ls hE hP hD hS hl)
theorem J_look (C : jcx p s m args meth c cc nL own ret D dA A E) {x : Int32} {dflt off : Int} {ps : Array (Int × Int)} {len tgt : Nat} (hd : decode cc pc = .ok (.lookupswitch dflt ps, len)) (hp : (ps.toList.zip (ps.toList.drop 1)).all (fun (a, next) => a.1 < next.1) = true) (ho : Op.lookupswitch.offset ps.toList dflt x.toInt = off) (ht : (pc : Int) + off = (tgt : Int)) (k : JW p l e R s m args below meth c nL D dA A E Q cells slots tgt L S w) : JW p l e R s m args below meth c nL D dA A E Q cells slots pc L (.int x :: S) w := fun ad H locs ls hE hP hD hS hl => lv_lookup C.1 C.2.1 hd hp ho ht (k ad H locs ls hE hP hD hS hl)
theorem J_getI (C : jcx p s m args meth c cc nL own ret D dA A E) {Cn : String} {T : u_T} {N ci index b k0 : Nat} {K : Int32 → Option ρ} (hd : decode cc pc = .ok (.getfield index, 3)) (hc : vwCl[ci]? = some (Cn, T, N)) (hin : ∀ x ∈ u_ws Cn T N, x ∈ GT) (hk0 : k0 < N) (hk : Cond.fieldLink own index (T k0).1 (T k0).2.1 (T k0).2.2.1 ∈ GT) (hf : (gI w ci b k0).bind K = some r) (k : ∀ v, K v = some r → JW p l e R s m args below meth c nL D dA A E Q cells slots (pc + 3) L (.int v :: S) w) : JW p l e R s m args below meth c nL D dA A E Q cells slots pc L (.ref b :: S) w := by
  obtain ⟨v, h1, h2⟩ := bind_ok hf
  obtain ⟨fs, h3, h4⟩ := gI_spec h1
  intro ad H locs ls hE hP hD hS hl
  exact va_get (C := Cn) (T := T) (N := N) C.1 C.2.1 C.2.2.2.2.1 hin C.2.2.2.1 C.2.2.2.2.2.1 hP b (wi_at h3) hc k0 hk0 (C.2.2.2.2.1 _ hk) (fun _ h => h) (v := rv ad (.int v)) (by rw [List.getElem?_map, h4]; rfl) hd (k v h2 ad H locs ls hE hP hD hS hl)
theorem J_getIN (C : jcx p s m args meth c cc nL own ret D dA A E) {Cn : String} {T : u_T} {N ci index b k0 : Nat} {K : Int32 → Option ρ} (hd : decode cc pc = .ok (.getfield index, 3)) (hc : vwCl[ci]? = some (Cn, T, N)) (hin : ∀ x ∈ u_ws Cn T N, x ∈ GT) (hk0 : k0 < N) {host : String} (hk : Cond.fieldLinkNest own index (T k0).1 (T k0).2.1 (T k0).2.2.1 host ∈ NT) (hf : (gI w ci b k0).bind K = some r) (k : ∀ v, K v = some r → JW p l e R s m args below meth c nL D dA A E Q cells slots (pc + 3) L (.int v :: S) w) : JW p l e R s m args below meth c nL D dA A E Q cells slots pc L (.ref b :: S) w := by
  obtain ⟨v, h1, h2⟩ := bind_ok hf
  obtain ⟨fs, h3, h4⟩ := gI_spec h1
  intro ad H locs ls hE hP hD hS hl
  exact va_getN (C := Cn) (T := T) (N := N) C.1 C.2.1 C.2.2.2.2.1 hin C.2.2.2.1 C.2.2.2.2.2.1 hP b (wi_at h3) hc k0 hk0 (va_Nw.use rfl ((C.2.2.2.2.2.2.2.2.2 ad hE).1 _ hk)) (fun _ h => h) (v := rv ad (.int v)) (by rw [List.getElem?_map, h4]; rfl) hd (k v h2 ad H locs ls hE hP hD hS hl)
theorem J_getJ (C : jcx p s m args meth c cc nL own ret D dA A E) {Cn : String} {T : u_T} {N ci index b k0 : Nat} {K : Int64 → Option ρ} (hd : decode cc pc = .ok (.getfield index, 3)) (hc : vwCl[ci]? = some (Cn, T, N)) (hin : ∀ x ∈ u_ws Cn T N, x ∈ GT) (hk0 : k0 < N) (hk : Cond.fieldLink own index (T k0).1 (T k0).2.1 (T k0).2.2.1 ∈ GT) (hf : (gJ w ci b k0).bind K = some r) (k : ∀ v, K v = some r → JW p l e R s m args below meth c nL D dA A E Q cells slots (pc + 3) L (.long v :: S) w) : JW p l e R s m args below meth c nL D dA A E Q cells slots pc L (.ref b :: S) w := by
  obtain ⟨v, h1, h2⟩ := bind_ok hf
  obtain ⟨fs, h3, h4⟩ := gJ_spec h1
  intro ad H locs ls hE hP hD hS hl
  exact va_get (C := Cn) (T := T) (N := N) C.1 C.2.1 C.2.2.2.2.1 hin C.2.2.2.1 C.2.2.2.2.2.1 hP b (wi_at h3) hc k0 hk0 (C.2.2.2.2.1 _ hk) (fun _ h => h) (v := rv ad (.long v)) (by rw [List.getElem?_map, h4]; rfl) hd (k v h2 ad H locs ls hE hP hD hS hl)
theorem J_getJN (C : jcx p s m args meth c cc nL own ret D dA A E) {Cn : String} {T : u_T} {N ci index b k0 : Nat} {K : Int64 → Option ρ} (hd : decode cc pc = .ok (.getfield index, 3)) (hc : vwCl[ci]? = some (Cn, T, N)) (hin : ∀ x ∈ u_ws Cn T N, x ∈ GT) (hk0 : k0 < N) {host : String} (hk : Cond.fieldLinkNest own index (T k0).1 (T k0).2.1 (T k0).2.2.1 host ∈ NT) (hf : (gJ w ci b k0).bind K = some r) (k : ∀ v, K v = some r → JW p l e R s m args below meth c nL D dA A E Q cells slots (pc + 3) L (.long v :: S) w) : JW p l e R s m args below meth c nL D dA A E Q cells slots pc L (.ref b :: S) w := by
  obtain ⟨v, h1, h2⟩ := bind_ok hf
  obtain ⟨fs, h3, h4⟩ := gJ_spec h1
  intro ad H locs ls hE hP hD hS hl
  exact va_getN (C := Cn) (T := T) (N := N) C.1 C.2.1 C.2.2.2.2.1 hin C.2.2.2.1 C.2.2.2.2.2.1 hP b (wi_at h3) hc k0 hk0 (va_Nw.use rfl ((C.2.2.2.2.2.2.2.2.2 ad hE).1 _ hk)) (fun _ h => h) (v := rv ad (.long v)) (by rw [List.getElem?_map, h4]; rfl) hd (k v h2 ad H locs ls hE hP hD hS hl)
theorem J_getR (C : jcx p s m args meth c cc nL own ret D dA A E) {Cn : String} {T : u_T} {N ci index b k0 : Nat} {K : Nat → Option ρ} (hd : decode cc pc = .ok (.getfield index, 3)) (hc : vwCl[ci]? = some (Cn, T, N)) (hin : ∀ x ∈ u_ws Cn T N, x ∈ GT) (hk0 : k0 < N) (hk : Cond.fieldLink own index (T k0).1 (T k0).2.1 (T k0).2.2.1 ∈ GT) (hf : (gR w ci b k0).bind K = some r) (k : ∀ v, K v = some r → JW p l e R s m args below meth c nL D dA A E Q cells slots (pc + 3) L (.ref v :: S) w) : JW p l e R s m args below meth c nL D dA A E Q cells slots pc L (.ref b :: S) w := by
  obtain ⟨v, h1, h2⟩ := bind_ok hf
  obtain ⟨fs, h3, h4⟩ := gR_spec h1
  intro ad H locs ls hE hP hD hS hl
  exact va_get (C := Cn) (T := T) (N := N) C.1 C.2.1 C.2.2.2.2.1 hin C.2.2.2.1 C.2.2.2.2.2.1 hP b (wi_at h3) hc k0 hk0 (C.2.2.2.2.1 _ hk) (fun _ h => h) (v := rv ad (.ref v)) (by rw [List.getElem?_map, h4]; rfl) hd (k v h2 ad H locs ls hE hP hD hS hl)
theorem J_getRN (C : jcx p s m args meth c cc nL own ret D dA A E) {Cn : String} {T : u_T} {N ci index b k0 : Nat} {K : Nat → Option ρ} (hd : decode cc pc = .ok (.getfield index, 3)) (hc : vwCl[ci]? = some (Cn, T, N)) (hin : ∀ x ∈ u_ws Cn T N, x ∈ GT) (hk0 : k0 < N) {host : String} (hk : Cond.fieldLinkNest own index (T k0).1 (T k0).2.1 (T k0).2.2.1 host ∈ NT) (hf : (gR w ci b k0).bind K = some r) (k : ∀ v, K v = some r → JW p l e R s m args below meth c nL D dA A E Q cells slots (pc + 3) L (.ref v :: S) w) : JW p l e R s m args below meth c nL D dA A E Q cells slots pc L (.ref b :: S) w := by
  obtain ⟨v, h1, h2⟩ := bind_ok hf
  obtain ⟨fs, h3, h4⟩ := gR_spec h1
  intro ad H locs ls hE hP hD hS hl
  exact va_getN (C := Cn) (T := T) (N := N) C.1 C.2.1 C.2.2.2.2.1 hin C.2.2.2.1 C.2.2.2.2.2.1 hP b (wi_at h3) hc k0 hk0 (va_Nw.use rfl ((C.2.2.2.2.2.2.2.2.2 ad hE).1 _ hk)) (fun _ h => h) (v := rv ad (.ref v)) (by rw [List.getElem?_map, h4]; rfl) hd (k v h2 ad H locs ls hE hP hD hS hl)
theorem J_put (C : jcx p s m args meth c cc nL own ret D dA A E) {Cn : String} {T : u_T} {N ci index b k0 : Nat} {x : Value} {ty : FieldType} {K : MW → Option ρ} (hd : decode cc pc = .ok (.putfield index, 3)) (hc : vwCl[ci]? = some (Cn, T, N)) (hin : ∀ x ∈ u_ws Cn T N, x ∈ GT) (ty0 : Nat → FieldType) (hty : ∀ k, k < N → parseFieldDescriptor (T k).2.2.1 = some (ty0 k)) (hnm : ∀ a, a < N → ∀ b, b < N → a ≠ b → (T a).2.1 ≠ (T b).2.1) (hk0 : k0 < N) (hk : Cond.fieldLink own index (T k0).1 (T k0).2.1 (T k0).2.2.1 ∈ GT) (hfin : (T k0).2.2.2 = false) (hds : parseFieldDescriptor (T k0).2.2.1 = some ty) (hnar : ∀ ad, narrow ty (rv ad x) = rv ad x) (hfit : ∀ ad, fits ty (rv ad x) = true) (hf : (pV w ci b k0 x).bind K = some r) (k : ∀ w1, K w1 = some r → JW p l e R s m args below meth c nL D dA A E Q cells slots (pc + 3) L S w1) : JW p l e R s m args below meth c nL D dA A E Q cells slots pc L (x :: .ref b :: S) w := by
  obtain ⟨w1, h1, h2⟩ := bind_ok hf
  obtain ⟨fs, h3, h4, rfl⟩ := pV_spec h1
  intro ad H locs ls hE hP hD hS hl
  have ew : (wi dA ad w).set b (ad b, .inr (ci, (fs.map (rv ad)).set k0 (rv ad x))) = wi dA ad (w.set b (.inr (ci, fs.set k0 x))) := by
    rw [← wi_set]; show _ = List.set _ _ (ad b, Sum.inr (ci, List.map (rv ad) (fs.set k0 x))); rw [List.map_set]
  exact va_put (C := Cn) (T := T) (N := N) C.1 C.2.1 C.2.2.2.2.1 hin ty0 hty hnm C.2.2.2.1 C.2.2.2.2.2.1 hP hD hS b (wi_at h3) hc k0 hk0 (C.2.2.2.2.1 _ hk) (fun _ h => h) hfin (v := rv ad x) hds (hnar ad) (hfit ad) (by rw [List.length_map]; exact h4) hd (fun H1 locs1 hP hD hS => k _ h2 ad H1 locs1 ls hE (by rw [← ew]; exact hP) (by rw [← ew]; exact hD) hS hl)
theorem J_putN (C : jcx p s m args meth c cc nL own ret D dA A E) {Cn : String} {T : u_T} {N ci index b k0 : Nat} {x : Value} {ty : FieldType} {K : MW → Option ρ} (hd : decode cc pc = .ok (.putfield index, 3)) (hc : vwCl[ci]? = some (Cn, T, N)) (hin : ∀ x ∈ u_ws Cn T N, x ∈ GT) (ty0 : Nat → FieldType) (hty : ∀ k, k < N → parseFieldDescriptor (T k).2.2.1 = some (ty0 k)) (hnm : ∀ a, a < N → ∀ b, b < N → a ≠ b → (T a).2.1 ≠ (T b).2.1) (hk0 : k0 < N) {host : String} (hk : Cond.fieldLinkNest own index (T k0).1 (T k0).2.1 (T k0).2.2.1 host ∈ NT) (hfin : (T k0).2.2.2 = false) (hds : parseFieldDescriptor (T k0).2.2.1 = some ty) (hnar : ∀ ad, narrow ty (rv ad x) = rv ad x) (hfit : ∀ ad, fits ty (rv ad x) = true) (hf : (pV w ci b k0 x).bind K = some r) (k : ∀ w1, K w1 = some r → JW p l e R s m args below meth c nL D dA A E Q cells slots (pc + 3) L S w1) : JW p l e R s m args below meth c nL D dA A E Q cells slots pc L (x :: .ref b :: S) w := by
  obtain ⟨w1, h1, h2⟩ := bind_ok hf
  obtain ⟨fs, h3, h4, rfl⟩ := pV_spec h1
  intro ad H locs ls hE hP hD hS hl
  have ew : (wi dA ad w).set b (ad b, .inr (ci, (fs.map (rv ad)).set k0 (rv ad x))) = wi dA ad (w.set b (.inr (ci, fs.set k0 x))) := by
    rw [← wi_set]; show _ = List.set _ _ (ad b, Sum.inr (ci, List.map (rv ad) (fs.set k0 x))); rw [List.map_set]
  exact va_putN (C := Cn) (T := T) (N := N) C.1 C.2.1 C.2.2.2.2.1 hin ty0 hty hnm C.2.2.2.1 C.2.2.2.2.2.1 hP hD hS b (wi_at h3) hc k0 hk0 (va_Nw.use rfl ((C.2.2.2.2.2.2.2.2.2 ad hE).1 _ hk)) (fun _ h => h) hfin (v := rv ad x) hds (hnar ad) (hfit ad) (by rw [List.length_map]; exact h4) hd (fun H1 locs1 hP hD hS => k _ h2 ad H1 locs1 ls hE (by rw [← ew]; exact hP) (by rw [← ew]; exact hD) hS hl)
theorem J_putF (C : jcx p s m args meth c cc nL own ret D dA A E) {Cn : String} {T : u_T} {N ci index b k0 : Nat} {x : Value} {ty : FieldType} {K : MW → Option ρ} (hd : decode cc pc = .ok (.putfield index, 3)) (hc : vwCl[ci]? = some (Cn, T, N)) (hin : ∀ x ∈ u_ws Cn T N, x ∈ GT) (ty0 : Nat → FieldType) (hty : ∀ k, k < N → parseFieldDescriptor (T k).2.2.1 = some (ty0 k)) (hnm : ∀ a, a < N → ∀ b, b < N → a ≠ b → (T a).2.1 ≠ (T b).2.1) (hk0 : k0 < N) (hk : Cond.fieldLink own index (T k0).1 (T k0).2.1 (T k0).2.2.1 ∈ GT) (hini : meth.name = "<init>") (hdc : (T k0).1 = own) (hfin : (T k0).2.2.2 = true) (hds : parseFieldDescriptor (T k0).2.2.1 = some ty) (hnar : ∀ ad, narrow ty (rv ad x) = rv ad x) (hfit : ∀ ad, fits ty (rv ad x) = true) (hf : (pV w ci b k0 x).bind K = some r) (k : ∀ w1, K w1 = some r → JW p l e R s m args below meth c nL D dA A E Q cells slots (pc + 3) L S w1) : JW p l e R s m args below meth c nL D dA A E Q cells slots pc L (x :: .ref b :: S) w := by
  obtain ⟨w1, h1, h2⟩ := bind_ok hf
  obtain ⟨fs, h3, h4, rfl⟩ := pV_spec h1
  intro ad H locs ls hE hP hD hS hl
  have ew : (wi dA ad w).set b (ad b, .inr (ci, (fs.map (rv ad)).set k0 (rv ad x))) = wi dA ad (w.set b (.inr (ci, fs.set k0 x))) := by
    rw [← wi_set]; show _ = List.set _ _ (ad b, Sum.inr (ci, List.map (rv ad) (fs.set k0 x))); rw [List.map_set]
  exact va_putF (C := Cn) (T := T) (N := N) C.1 C.2.1 C.2.2.2.2.1 hin ty0 hty hnm C.2.2.2.1 C.2.2.2.2.2.1 hP hD hS b (wi_at h3) hc k0 hk0 (C.2.2.2.2.1 _ hk) (fun _ h => h) hfin hini hdc (v := rv ad x) hds (hnar ad) (hfit ad) (by rw [List.length_map]; exact h4) hd (fun H1 locs1 hP hD hS => k _ h2 ad H1 locs1 ls hE (by rw [← ew]; exact hP) (by rw [← ew]; exact hD) hS hl)
theorem J_iald (C : jcx p s m args meth c cc nL own ret D dA A E) {a : Nat} {i : Int32} {K : Int32 → Option ρ} (hd : decode cc pc = .ok (.iaload, 1)) (hf : (aI w .int a i).bind K = some r) (k : ∀ v, K v = some r → JW p l e R s m args below meth c nL D dA A E Q cells slots (pc + 1) L (.int v :: S) w) : JW p l e R s m args below meth c nL D dA A E Q cells slots pc L (.int i :: .ref a :: S) w := by
  obtain ⟨v, h1, h2⟩ := bind_ok hf
  obtain ⟨n, f, h3, h4, rfl⟩ := aI_spec h1
  intro ad H locs ls hE hP hD hS hl
  exact va_iald C.1 C.2.1 C.2.2.2.2.2.1 hP a 0 (wi_at h3) rfl h4 hd (k _ h2 ad H locs ls hE hP hD hS hl)
theorem J_bald (C : jcx p s m args meth c cc nL own ret D dA A E) {a : Nat} {i : Int32} {K : Int32 → Option ρ} (hd : decode cc pc = .ok (.baload, 1)) (hf : (aI w .byte a i).bind K = some r) (k : ∀ v, K v = some r → JW p l e R s m args below meth c nL D dA A E Q cells slots (pc + 1) L (.int v :: S) w) : JW p l e R s m args below meth c nL D dA A E Q cells slots pc L (.int i :: .ref a :: S) w := by
  obtain ⟨v, h1, h2⟩ := bind_ok hf
  obtain ⟨n, f, h3, h4, rfl⟩ := aI_spec h1
  intro ad H locs ls hE hP hD hS hl
  exact va_bald C.1 C.2.1 C.2.2.2.2.2.1 hP a 1 (wi_at h3) rfl h4 hd (k _ h2 ad H locs ls hE hP hD hS hl)
theorem J_zald (C : jcx p s m args meth c cc nL own ret D dA A E) {a : Nat} {i : Int32} {K : Int32 → Option ρ} (hd : decode cc pc = .ok (.baload, 1)) (hf : (aI w .boolean a i).bind K = some r) (k : ∀ v, K v = some r → JW p l e R s m args below meth c nL D dA A E Q cells slots (pc + 1) L (.int v :: S) w) : JW p l e R s m args below meth c nL D dA A E Q cells slots pc L (.int i :: .ref a :: S) w := by
  obtain ⟨v, h1, h2⟩ := bind_ok hf
  obtain ⟨n, f, h3, h4, rfl⟩ := aI_spec h1
  intro ad H locs ls hE hP hD hS hl
  exact va_zald C.1 C.2.1 C.2.2.2.2.2.1 hP a 2 (wi_at h3) rfl h4 hd (k _ h2 ad H locs ls hE hP hD hS hl)
theorem J_iast (C : jcx p s m args meth c cc nL own ret D dA A E) {a : Nat} {i x : Int32} {K : MW → Option ρ} (hd : decode cc pc = .ok (.iastore, 1)) (hf : (sI w .int a i x).bind K = some r) (k : ∀ w1, K w1 = some r → JW p l e R s m args below meth c nL D dA A E Q cells slots (pc + 1) L S w1) : JW p l e R s m args below meth c nL D dA A E Q cells slots pc L (.int x :: .int i :: .ref a :: S) w := by
  obtain ⟨w1, h1, h2⟩ := bind_ok hf
  obtain ⟨n, f, h3, h4, rfl⟩ := sI_spec h1
  intro ad H locs ls hE hP hD hS hl
  exact va_iast C.1 C.2.1 C.2.2.2.2.2.1 hP hD hS a 0 (wi_at h3) rfl h4 hd (fun H1 locs1 hP hD hS => k _ h2 ad H1 locs1 ls hE (by rw [← wi_set]; exact hP) (by rw [← wi_set]; exact hD) hS hl)
theorem J_bast (C : jcx p s m args meth c cc nL own ret D dA A E) {a : Nat} {i x : Int32} {K : MW → Option ρ} (hd : decode cc pc = .ok (.bastore, 1)) (hf : (sI w .byte a i (vp_nar .byte x)).bind K = some r) (k : ∀ w1, K w1 = some r → JW p l e R s m args below meth c nL D dA A E Q cells slots (pc + 1) L S w1) : JW p l e R s m args below meth c nL D dA A E Q cells slots pc L (.int x :: .int i :: .ref a :: S) w := by
  obtain ⟨w1, h1, h2⟩ := bind_ok hf
  obtain ⟨n, f, h3, h4, rfl⟩ := sI_spec h1
  intro ad H locs ls hE hP hD hS hl
  exact va_bast C.1 C.2.1 C.2.2.2.2.2.1 hP hD hS a 1 (wi_at h3) rfl h4 hd (fun H1 locs1 hP hD hS => k _ h2 ad H1 locs1 ls hE (by rw [← wi_set]; exact hP) (by rw [← wi_set]; exact hD) hS hl)
theorem J_zast (C : jcx p s m args meth c cc nL own ret D dA A E) {a : Nat} {i x : Int32} {K : MW → Option ρ} (hd : decode cc pc = .ok (.bastore, 1)) (hf : (sI w .boolean a i (vp_nar .boolean x)).bind K = some r) (k : ∀ w1, K w1 = some r → JW p l e R s m args below meth c nL D dA A E Q cells slots (pc + 1) L S w1) : JW p l e R s m args below meth c nL D dA A E Q cells slots pc L (.int x :: .int i :: .ref a :: S) w := by
  obtain ⟨w1, h1, h2⟩ := bind_ok hf
  obtain ⟨n, f, h3, h4, rfl⟩ := sI_spec h1
  intro ad H locs ls hE hP hD hS hl
  exact va_zast C.1 C.2.1 C.2.2.2.2.2.1 hP hD hS a 2 (wi_at h3) rfl h4 hd (fun H1 locs1 hP hD hS => k _ h2 ad H1 locs1 ls hE (by rw [← wi_set]; exact hP) (by rw [← wi_set]; exact hD) hS hl)
def aRn (w : MW) (ty : FieldType) (a : Nat) (i : Int32) : Option Nat := (aR w ty a i).bind id
theorem J_aald (C : jcx p s m args meth c cc nL own ret D dA A E) {a : Nat} {i : Int32} {Cn : String} (t0 : Nat) (ht0 : ∀ dA, (tyL dA)[t0]? = some (dA (.object Cn), .object Cn)) {K : Nat → Option ρ} (hd : decode cc pc = .ok (.aaload, 1)) (hf : (aRn w (.object Cn) a i).bind K = some r) (k : ∀ v, K v = some r → JW p l e R s m args below meth c nL D dA A E Q cells slots (pc + 1) L (.ref v :: S) w) : JW p l e R s m args below meth c nL D dA A E Q cells slots pc L (.int i :: .ref a :: S) w := by
  obtain ⟨v, h1, h2⟩ := bind_ok hf
  obtain ⟨v', h0, h1⟩ := bind_ok h1
  obtain ⟨n, f, h3, h4, h5⟩ := aR_spec h0
  intro ad H locs ls hE hP hD hS hl
  refine va_aldq C.1 C.2.1 C.2.2.2.2.2.1 hP a t0 (wi_at h3) (ht0 dA) h4 hd ?_
  have eV : va_rf ((f i.toNatClampNeg).map ad) = .ref (ad v) := by rw [← h5, show v' = some v from h1]; rfl
  show W p l e R s m args below meth c H locs cells slots Q (F0 m (pc + 1) ls (va_rf ((f i.toNatClampNeg).map ad) :: _))
  rw [eV]
  exact k _ h2 ad H locs ls hE hP hD hS hl
theorem J_aast (C : jcx p s m args meth c cc nL own ret D dA A E) {a b : Nat} {i : Int32} {Cn : String} {T : u_T} {N : Nat} (t0 ci : Nat) (ht0 : ∀ dA, (tyL dA)[t0]? = some (dA (.object Cn), .object Cn)) (hc : vwCl[ci]? = some (Cn, T, N)) {K : MW → Option ρ} (hd : decode cc pc = .ok (.aastore, 1)) (hf : (sR w Cn ci a i b).bind K = some r) (k : ∀ w1, K w1 = some r → JW p l e R s m args below meth c nL D dA A E Q cells slots (pc + 1) L S w1) : JW p l e R s m args below meth c nL D dA A E Q cells slots pc L (.ref b :: .int i :: .ref a :: S) w := by
  obtain ⟨w1, h1, h2⟩ := bind_ok hf
  obtain ⟨n, f, fs, h3, h5, h4, rfl⟩ := sR_spec h1
  intro ad H locs ls hE hP hD hS hl
  have ew : (wi dA ad w).set a (ad a, .inl (dA (.object Cn), n, .inr (.inr (.inr (.inr (va_up (fun j => (f j).map ad) i.toNatClampNeg (some (ad b)))))))) = wi dA ad (w.set a (.inl (.object Cn, n, .inr (.inr (.inr (.inr (va_up f i.toNatClampNeg (some b)))))))) := by
    rw [← wi_set]
    show List.set _ _ _ = List.set _ _ (ad a, Sum.inl (dA (.object Cn), n, Sum.inr (Sum.inr (Sum.inr (Sum.inr (fun j => (va_up f i.toNatClampNeg (some b) j).map ad))))))
    congr 9
    funext j
    by_cases hj : j = i.toNatClampNeg <;> simp [va_up, hj]
  exact va_astq C.1 C.2.1 C.2.2.2.2.2.1 hP hD hS a t0 b ci (r := (Cn, T, N)) (wi_at h3) (ht0 dA) (wi_at h5) hc h4 hd (fun H1 locs1 hP hD hS => k _ h2 ad H1 locs1 ls hE (by rw [← ew]; exact hP) (by rw [← ew]; exact hD) hS hl)
theorem J_alen (C : jcx p s m args meth c cc nL own ret D dA A E) {a : Nat} {ty : FieldType} (t0 : Nat) (ht0 : ∀ dA, (tyL dA)[t0]? = some (dA ty, ty)) {K : Int32 → Option ρ} (hd : decode cc pc = .ok (.arraylength, 1)) (hf : (aL w ty a).bind K = some r) (k : ∀ v, K v = some r → JW p l e R s m args below meth c nL D dA A E Q cells slots (pc + 1) L (.int v :: S) w) : JW p l e R s m args below meth c nL D dA A E Q cells slots pc L (.ref a :: S) w := by
  obtain ⟨v, h1, h2⟩ := bind_ok hf
  obtain ⟨y, h3, rfl⟩ := aL_spec h1
  intro ad H locs ls hE hP hD hS hl
  refine va_alen C.1 C.2.1 C.2.2.2.2.2.1 hP a t0 (wi_at h3) (ht0 dA) (v := Int32.ofNat y.1) ?_ hd (k _ h2 ad H locs ls hE hP hD hS hl)
  obtain ⟨n, f | f | f | f | f⟩ := y <;> rfl
theorem J_copy (C : jcx p s m args meth c cc nL own ret D dA A E) {a0 a1 index : Nat} {sp dp n : Int32} {ty : FieldType} (t0 : Nat) (ht0 : ∀ dA, (tyL dA)[t0]? = some (dA ty, ty)) (hpr : refKind ty = false) (hlk : Cond.methodLink own index arraycopyName ∈ GT) (hnt : Cond.native arraycopyName ∈ GT) (hst : Cond.static arraycopyName ∈ GT) (hini : Cond.initialized "java/lang/System" ∈ GT) (hfr : 1 ≤ R.frames) (hlo : ∀ ad, ((S.map (rv ad)).map fun v => v.category).sum + (nativeFrameWords "java/lang/System" "arraycopy" 5 + 11) ≤ R.locals) {K : MW → Option ρ} (hd : decode cc pc = .ok (.invokestatic index, 3)) (hf : (cpI w ty a0 sp a1 dp n).bind K = some r) (k : ∀ w1, K w1 = some r → JW p l e R s m args below meth c nL D dA A E Q cells slots (pc + 3) L S w1) : JW p l e R s m args below meth c nL D dA A E Q cells slots pc L (.int n :: .int dp :: .ref a1 :: .int sp :: .ref a0 :: S) w := by
  obtain ⟨w1, h1, h2⟩ := bind_ok hf
  obtain ⟨n0, f, n1, g, g0, g1, g2, g3, g4, g5, g6, g7, rfl⟩ := cpI_spec h1
  intro ad H locs ls hE hP hD hS hl
  exact va_copyi C.1 C.2.1 (C.2.2.1.trans hl.1.symm) C.2.2.2.1 (C.2.2.2.2.1 _ hlk) (C.2.2.2.2.1 _ hnt) (C.2.2.2.2.1 _ hst) (C.2.2.2.2.1 _ hini) C.2.2.2.2.2.1 hP hD hS a0 a1 t0 t0 (wi_at g0) (wi_at g1) (ht0 dA) (ht0 dA) hpr g2 g3 g4 g5 g6 g7 hfr (hlo ad) hd (fun H1 locs1 hP hD hS => k _ h2 ad H1 locs1 ls hE (by rw [← wi_set]; exact hP) (by rw [← wi_set]; exact hD) hS hl)
def imax (x y : Int32) : Int32 := if x < y then y else x
theorem J_max (C : jcx p s m args meth c cc nL own ret D dA A E) {index : Nat} {x y : Int32} (hd : decode cc pc = .ok (.invokestatic index, 3)) (hlk : Cond.methodLink own index Lib.Math.max.name ∈ GT) (hst : Cond.static Lib.Math.max.name ∈ GT) (hini : Cond.initialized "java/lang/Math" ∈ GT) (hco : Cond.code Lib.Math.max.name Lib.Math.max.code 2 (some .int) ∈ GT) (hfr : 1 ≤ R.frames) (hlo : ∀ ad, ((S.map (rv ad)).map fun v => v.category).sum + 13 ≤ R.locals) (hcs : cells ≤ R.cells ∧ slots ≤ R.slots) (k : JW p l e R s m args below meth c nL D dA A E Q cells slots (pc + 3) L (.int (imax x y) :: S) w) : JW p l e R s m args below meth c nL D dA A E Q cells slots pc L (.int y :: .int x :: S) w := fun ad H locs ls hE hP hD hS hl => va_mmax C.1 C.2.1 (C.2.2.1.trans hl.1.symm) C.2.2.2.1 (C.2.2.2.2.1 _ hlk) (C.2.2.2.2.1 _ hst) (C.2.2.2.2.1 _ hini) (C.2.2.2.2.1 _ hco) hfr (hlo ad) hcs.1 hcs.2 hd (k ad H locs ls hE hP hD hS hl)
def imin (x y : Int32) : Int32 := if y < x then y else x
theorem J_min (C : jcx p s m args meth c cc nL own ret D dA A E) {index : Nat} {x y : Int32} (hd : decode cc pc = .ok (.invokestatic index, 3)) (hlk : Cond.methodLink own index Lib.Math.min.name ∈ GT) (hst : Cond.static Lib.Math.min.name ∈ GT) (hini : Cond.initialized "java/lang/Math" ∈ GT) (hco : Cond.code Lib.Math.min.name Lib.Math.min.code 2 (some .int) ∈ GT) (hfr : 1 ≤ R.frames) (hlo : ∀ ad, ((S.map (rv ad)).map fun v => v.category).sum + 13 ≤ R.locals) (hcs : cells ≤ R.cells ∧ slots ≤ R.slots) (k : JW p l e R s m args below meth c nL D dA A E Q cells slots (pc + 3) L (.int (imin x y) :: S) w) : JW p l e R s m args below meth c nL D dA A E Q cells slots pc L (.int y :: .int x :: S) w := fun ad H locs ls hE hP hD hS hl => va_mmin C.1 C.2.1 (C.2.2.1.trans hl.1.symm) C.2.2.2.1 (C.2.2.2.2.1 _ hlk) (C.2.2.2.2.1 _ hst) (C.2.2.2.2.1 _ hini) (C.2.2.2.2.1 _ hco) hfr (hlo ad) hcs.1 hcs.2 hd (k ad H locs ls hE hP hD hS hl)
theorem J_objInit (C : jcx p s m args meth c cc nL own ret D dA A E) {index b : Nat} (hd : decode cc pc = .ok (.invokespecial index, 3)) (hlk : Cond.methodLink own index Lib.objectInit ∈ GT) (hin : Cond.instanceMethod Lib.objectInit ∈ GT) (hco : Cond.code Lib.objectInit ⟨#[0xb1]⟩ 1 none ∈ GT) (hfr : 1 ≤ R.frames) (hlo : ∀ ad, 2 * 0 + ((S.map (rv ad)).map fun v => v.category).sum + 12 ≤ R.locals) (k : JW p l e R s m args below meth c nL D dA A E Q cells slots (pc + 3) L S w) : JW p l e R s m args below meth c nL D dA A E Q cells slots pc L (.ref b :: S) w := fun ad H locs ls hE hP hD hS hl => W.objInit C.1 C.2.1 C.2.2.2.1 (C.2.2.2.2.1 _ hlk) (C.2.2.2.2.1 _ hin) (C.2.2.2.2.1 _ hco) rfl (hl.1.trans C.2.2.1.symm) rfl hd hfr (hlo ad) (k ad H locs ls hE hP hD hS hl)
end JR
end
section
theorem rv_args (ad : Nat → Nat) : ∀ (vs : List Value) (i : Nat), lv_args i (vs.map (rv ad)) = (lv_args i vs).map (fun q => (q.1, rv ad q.2))
  | [], _ => rfl
  | v :: vs, i => by
    have h := rv_cat ad v
    have ih := rv_args ad vs
    simp [lv_args, h, ih]
theorem rv_slots (ad : Nat → Nat) (vs : List Value) : (lg_sl (vs.map (rv ad))).length = (lg_sl vs).length := by
  induction vs with
  | nil => rfl
  | cons v vs ih =>
    have h := rv_cat ad v
    simp only [lg_sl, List.map_cons, List.flatMap_cons, List.length_append] at ih ⊢
    rw [ih]
    simp only [h]
    by_cases hc : v.category = 2 <;> simp [hc]
theorem rv_ext {ad ad' : Nat → Nat} {n : Nat} {v : Value} (h : rOK n v = true) (e : ∀ k, (k < n ∨ 10000 ≤ k) → ad' k = ad k) : rv ad' v = rv ad v := by
  cases v <;> try rfl
  rename_i k
  simp only [rOK, Bool.or_eq_true, decide_eq_true_eq] at h
  simp only [rv]
  rw [e k h]
theorem rvs_ext {ad ad' : Nat → Nat} {n : Nat} {vs : List Value} (h : vs.all (rOK n) = true) (e : ∀ k, (k < n ∨ 10000 ≤ k) → ad' k = ad k) : vs.map (rv ad') = vs.map (rv ad) := by
  apply List.map_congr_left
  intro v hv
  exact rv_ext (List.all_eq_true.mp h v hv) e
theorem cv_ext {dA : FieldType → ClassId} {ad ad' : Nat → Nat} {n : Nat} {x : MC} (h : cOK n x) (e : ∀ k, (k < n ∨ 10000 ≤ k) → ad' k = ad k) : cv dA ad' x = cv dA ad x := by
  rcases x with ⟨ty, k, f | f | f | f | f⟩ | ⟨ci, fs⟩
  · rfl
  · rfl
  · rfl
  · rfl
  · show Sum.inl (dA ty, k, Sum.inr (Sum.inr (Sum.inr (Sum.inr (fun j => (f j).map ad'))))) = Sum.inl (dA ty, k, Sum.inr (Sum.inr (Sum.inr (Sum.inr (fun j => (f j).map ad)))))
    have h1 : (fun j => (f j).map ad') = fun j => (f j).map ad := by
      funext j
      cases hj : f j with
      | none => rfl
      | some q => show some (ad' q) = some (ad q); rw [e q (Or.inl (h j q hj))]
    rw [h1]
  · show Sum.inr (ci, fs.map (rv ad')) = Sum.inr (ci, fs.map (rv ad))
    rw [rvs_ext h e]
theorem wi_ext {dA : FieldType → ClassId} {ad ad' : Nat → Nat} {w : MW} (h : wOK w) (e : ∀ k, (k < w.length ∨ 10000 ≤ k) → ad' k = ad k) : wi dA ad' w = wi dA ad w := by
  unfold wi
  apply List.ext_getElem?
  intro k
  rw [List.getElem?_mapIdx, List.getElem?_mapIdx]
  cases hk : w[k]? with
  | none => rfl
  | some x =>
    have hl : k < w.length := (List.getElem?_eq_some_iff.mp hk).1
    show some (ad' k, cv dA ad' x) = some (ad k, cv dA ad x)
    rw [e k (Or.inl hl), cv_ext (h.2 x (List.mem_of_getElem? hk)) e]
theorem nwC_spec {n0 : Nat} {w w1 : MW} {vs : List Value} {x : MC} (h : nwC n0 w vs x = some w1) : wOK w ∧ vs.all (rOK w.length) = true ∧ n0 ≤ w.length ∧ w1 = w ++ [x] := by
  unfold nwC at h
  split at h
  · rename_i hc; cases h; exact ⟨hc.1, hc.2.1, hc.2.2, rfl⟩
  · cases h
theorem nwC_eq {n0 : Nat} {w : MW} {vs : List Value} {x : MC} (h1 : wOK w) (h2 : vs.all (rOK w.length) = true) (h3 : n0 ≤ w.length) : nwC n0 w vs x = some (w ++ [x]) := by
  unfold nwC
  rw [if_pos ⟨h1, h2, h3⟩]
/-- a call that makes cells: the receiver, and the values held elsewhere -/
noncomputable def clA {α : Type} (n0 : Nat) (w : MW) (ci b : Nat) (vs : List Value) (x : Option α) : Option α := @ite _ (n0 ≤ w.length ∧ vs.all (rOK w.length) = true) (Classical.propDecidable _) (cl w ci b x) none
theorem clA_spec {α : Type} {n0 : Nat} {w : MW} {ci b : Nat} {vs : List Value} {x : Option α} {y : α} (h : clA n0 w ci b vs x = some y) : n0 ≤ w.length ∧ vs.all (rOK w.length) = true ∧ ∃ fs, w[b]? = some (.inr (ci, fs)) ∧ x = some y := by
  unfold clA at h
  split at h
  · rename_i hc; exact ⟨hc.1, hc.2, cl_spec h⟩
  · cases h
theorem clA_eq {α : Type} {n0 : Nat} {w : MW} {ci b : Nat} {vs : List Value} {x : Option α} (h1 : n0 ≤ w.length) (h2 : vs.all (rOK w.length) = true) : clA n0 w ci b vs x = cl w ci b x := by
  unfold clA
  rw [if_pos ⟨h1, h2⟩]
section JK
variable {p : Program} {l : Launch} {e : Env} {R : Room} {s : State} {m : MethodId} {args : Array Value} {below : List Frame} {meth : Method} {c : Code} {Q : State → Prop} {cells slots : Nat}
variable {cc : ByteArray} {nL : Nat} {own : String} {ret : Option FieldType} {D : va_G} {dA : FieldType → ClassId} {A : Nat → Prop} {E : (Nat → Nat) → Prop}
variable {pc : Nat} {L : List (Nat × Value)} {S : List Value} {w : MW} {ρ : Type} {r : ρ}
theorem Pj_blind {ad : Nat → Nat} {as : List Value} {sz : Nat} : FrameBlind (Pj D dA ad as w sz) := fun a U g mk h => ⟨h.1, h.2.1, h.2.2.1, va_K.moved (u := U) (U := U.calling g mk a) (Vm.Alike.refl U.vm) h.2.2.2.1, h.2.2.2.2.1, h.2.2.2.2.2.calling⟩
theorem Aj (C : jcx p s m args meth c cc nL own ret D dA A E) {ad : Nat → Nat} {H : Heap} {locs : List Loc} (hD : va_D A (wi dA ad w)) (hS : va_S A s.heap H locs) : ∀ q, va_A (wi dA ad w) H.size q → A q := by
  intro q h
  rcases h with ⟨k, x, h⟩ | h
  · exact hD.2 k _ h
  · exact C.2.2.2.2.2.2.2.2.1 q (Nat.le_trans hS.1 h)
theorem Pj_ok (C : jcx p s m args meth c cc nL own ret D dA A E) {ad : Nat → Nat} {H : Heap} {locs : List Loc} {as : List Value} (hE : E ad) (hP : va_P D vwCl (wi dA ad w) H) (hD : va_D A (wi dA ad w)) (hS : va_S A s.heap H locs) : ∀ U : State, U.heap = H → s.WarmedH U.vm → Pj D dA ad as w H.size (as.map (rv ad)).toArray U := fun U hU hW =>
  ⟨rfl, by rw [hU], by rw [hU]; exact hP, va_K.moved hW.alike C.2.2.2.2.2.1, hD.weaken (fun _ _ _ _ => trivial), by rw [hU]; exact (((C.2.2.2.2.2.2.2.2.2 ad hE).kept hS.2.1).warm hW).narrow (Aj C hD hS)⟩
theorem J_run (C : jcx p s m args meth c cc nL own ret D dA A E) {Sc : List Value} {v : Option Value} {w' : MW} (hr : ∀ (ad : Nat → Nat) (H : Heap) (locs : List Loc) (ls : Array Slot), E ad → va_P D vwCl (wi dA ad w) H → va_D A (wi dA ad w) → va_S A s.heap H locs → lv_has ls nL (L.map (fun q => (q.1, rv ad q.2))) → ∃ ar, va_Run p l e R s m args below meth c H locs cells slots 0 0 (F0 m pc ls (Sc.map (rv ad))) (S.map (rv ad)) (Qr D dA (EN ad) v w' (va_A (wi dA ad w) H.size) ar) (va_A (wi dA ad w) H.size)) (k : JW p l e R s m args below meth c nL D dA A E Q cells slots (pc + 3) L (v.toList ++ S) w') : JW p l e R s m args below meth c nL D dA A E Q cells slots pc L Sc w := by
  intro ad H locs ls hE hP hD hS hl T hT X
  obtain ⟨ar, hr⟩ := hr ad H locs ls hE hP hD hS hl
  obtain ⟨v1, st₀, t, T', L1, h0, X', hL, e1, e2, ⟨ad', had, hv, hP1, hD1, hz, hk⟩, st⟩ := hr T hT X
  have had : ad' = ad := had
  subst had
  have hv : v1 = v.map (rv ad') := by cases hv; rfl
  subst hv
  rw [h0] at hz hk
  have hA := Aj C hD hS
  have hS1 : va_S A s.heap T'.heap (locs ++ L1) := ⟨Nat.le_trans hS.1 (by rw [e1]; exact hz), fun q h1 h2 => by rw [e1, hk q (Nat.lt_of_lt_of_le h1 hS.1) (fun z => h2 (hA q z))]; exact hS.2.1 q h1 h2, fun q hq => by
    rcases List.mem_append.mp hq with h | h
    · exact hS.2.2 q h
    · exact hA _ (hL q h)⟩
  obtain ⟨t2, a1, b1⟩ := k ad' T'.heap (locs ++ L1) ls hE (by rw [e1]; exact hP1) (hD1.weaken (fun _ _ _ h => hA _ h)) hS1 hl T' rfl X'
  refine ⟨t2, st t2 ?_, b1⟩
  have eS : (v.toList ++ S).map (rv ad') = (v.map (rv ad')).toList ++ S.map (rv ad') := by cases v <;> rfl
  rw [eS] at a1
  exact a1
theorem J_runA (C : jcx p s m args meth c cc nL own ret D dA A E) {Sc : List Value} {v : Option Value} {w' : MW} {mc ms : Nat} (hEE : ∀ ad ad', E ad → EA w.length ad ad' → E ad') (hL0 : (L.map (fun q => q.2)).all (rOK w.length) = true) (hS0 : S.all (rOK w.length) = true) (hr : ∀ (ad : Nat → Nat) (H : Heap) (locs : List Loc) (ls : Array Slot), E ad → va_P D vwCl (wi dA ad w) H → va_D A (wi dA ad w) → va_S A s.heap H locs → lv_has ls nL (L.map (fun q => (q.1, rv ad q.2))) → ∃ ar, va_Run p l e R s m args below meth c H locs cells slots mc ms (F0 m pc ls (Sc.map (rv ad))) (S.map (rv ad)) (Qr D dA (EA w.length ad) v w' (va_A (wi dA ad w) H.size) ar) (va_A (wi dA ad w) H.size)) (k : JW p l e R s m args below meth c nL D dA A E Q (cells + mc) (slots + ms) (pc + 3) L (v.toList ++ S) w') : JW p l e R s m args below meth c nL D dA A E Q cells slots pc L Sc w := by
  intro ad H locs ls hE hP hD hS hl T hT X
  obtain ⟨ar, hr⟩ := hr ad H locs ls hE hP hD hS hl
  obtain ⟨v1, st₀, t, T', L1, h0, X', hL, e1, e2, ⟨ad', had, hv, hP1, hD1, hz, hk⟩, st⟩ := hr T hT X
  have hv : v1 = v.map (rv ad') := by cases hv; rfl
  subst hv
  rw [h0] at hz hk
  have hA := Aj C hD hS
  have hS1 : va_S A s.heap T'.heap (locs ++ L1) := ⟨Nat.le_trans hS.1 (by rw [e1]; exact hz), fun q h1 h2 => by rw [e1, hk q (Nat.lt_of_lt_of_le h1 hS.1) (fun z => h2 (hA q z))]; exact hS.2.1 q h1 h2, fun q hq => by
    rcases List.mem_append.mp hq with h | h
    · exact hS.2.2 q h
    · exact hA _ (hL q h)⟩
  have eL : L.map (fun q => (q.1, rv ad' q.2)) = L.map (fun q => (q.1, rv ad q.2)) := by
    apply List.map_congr_left
    intro q hq
    rw [rv_ext (List.all_eq_true.mp hL0 _ (List.mem_map_of_mem hq)) had]
  obtain ⟨t2, a1, b1⟩ := k ad' T'.heap (locs ++ L1) ls (hEE ad ad' hE had) (by rw [e1]; exact hP1) (hD1.weaken (fun _ _ _ h => hA _ h)) hS1 (by rw [eL]; exact hl) T' rfl X'
  refine ⟨t2, st t2 ?_, b1⟩
  have eS : (v.toList ++ S).map (rv ad') = (v.map (rv ad')).toList ++ S.map (rv ad) := by
    rw [List.map_append, rvs_ext hS0 had]; cases v <;> rfl
  rw [eS] at a1
  exact a1
theorem J_callV (C : jcx p s m args meth c cc nL own ret D dA A E) {y : MethodName} {bytes : ByteArray} {maxL index n : Nat} {ret' : Option FieldType} {rm : Room} {as : List Value} {v : Option Value} {w' : MW} {Sc : List Value} {b ci : Nat} {fs : List Value} (hd : decode cc pc = .ok (.invokevirtual index, 3)) (hM : CT l D dA y bytes maxL ret' rm (.ref b :: as) w v w') (hlk : Cond.methodLink own index y ∈ GT) (hco : Cond.code y bytes maxL ret' ∈ GT) (hini : Cond.initialized y.cls ∈ GT) (hins : Cond.instanceMethod y ∈ GT) (hsel : Cond.selects y.cls y y ∈ GT) {T : u_T} {N : Nat} (hci : vwCl[ci]? = some (y.cls, T, N)) (hy : y.cls ≠ "java/lang/invoke/MethodHandle" ∧ y.cls ≠ "java/lang/invoke/VarHandle" ∧ (parseMethodDescriptor y.desc).map (fun d => d.parameters.length) = some n) (hR : rm.frames + 1 ≤ R.frames ∧ 8 + (maxL + 11) + rm.locals ≤ R.locals) (hcs : cells ≤ R.cells ∧ slots ≤ R.slots) (hrm : rm.cells = 0 ∧ rm.slots = 0) (hb : w[b]? = some (.inr (ci, fs))) (hn : as.length = n) (hst : Sc = as.reverse ++ .ref b :: S) (hW : ∀ ad, ((S.map (rv ad)).map fun v => v.category).sum ≤ 8) (k : JW p l e R s m args below meth c nL D dA A E Q cells slots (pc + 3) L (v.toList ++ S) w') : JW p l e R s m args below meth c nL D dA A E Q cells slots pc L Sc w := by
  refine J_run C (fun ad H locs ls hE hP hD hS hl => ⟨((.ref b :: as).map (rv ad)).toArray, ?_⟩) k
  exact va_runV (C := y.cls) (b := ad b) (As := as.map (rv ad)) (rest := S.map (rv ad)) ⟨C.1, C.2.1, C.2.2.1, C.2.2.2.1, C.2.2.2.2.1⟩ (hM ad H.size) ⟨callB_of n C.2.2.2.2.1 (GT_in hco) rfl hrm.1 hrm.2 (C.2.2.2.2.1 _ hini) (C.2.2.2.2.1 _ hlk) hy hR, C.2.2.2.2.1 _ hins, C.2.2.2.2.1 _ hsel⟩ ⟨Pj_blind, va_recv C.2.2.2.2.2.1 hP (q := (y.cls, T, N)) hci (wi_at hb), Pj_ok C (as := .ref b :: as) hE hP hD hS⟩ rfl (by rw [List.length_map]; exact hn) hl.1 (by subst hst; simp [rv]) (by show 2 * 0 + _ ≤ 8; have := hW ad; omega) hd ⟨hcs.1, hcs.2⟩
theorem J_callS (C : jcx p s m args meth c cc nL own ret D dA A E) {y : MethodName} {bytes : ByteArray} {maxL index n : Nat} {ret' : Option FieldType} {rm : Room} {as : List Value} {v : Option Value} {w' : MW} {Sc : List Value} (hd : decode cc pc = .ok (.invokestatic index, 3)) (hM : CT l D dA y bytes maxL ret' rm (as) w v w') (hlk : Cond.methodLink own index y ∈ GT) (hco : Cond.code y bytes maxL ret' ∈ GT) (hini : Cond.initialized y.cls ∈ GT) (hsta : Cond.static y ∈ GT) (hy : y.cls ≠ "java/lang/invoke/MethodHandle" ∧ y.cls ≠ "java/lang/invoke/VarHandle" ∧ (parseMethodDescriptor y.desc).map (fun d => d.parameters.length) = some n) (hR : rm.frames + 1 ≤ R.frames ∧ 8 + (maxL + 11) + rm.locals ≤ R.locals) (hcs : cells ≤ R.cells ∧ slots ≤ R.slots) (hrm : rm.cells = 0 ∧ rm.slots = 0) (hn : as.length = n) (hst : Sc = as.reverse ++ S) (hW : ∀ ad, ((S.map (rv ad)).map fun v => v.category).sum ≤ 8) (k : JW p l e R s m args below meth c nL D dA A E Q cells slots (pc + 3) L (v.toList ++ S) w') : JW p l e R s m args below meth c nL D dA A E Q cells slots pc L Sc w := by
  refine J_run C (fun ad H locs ls hE hP hD hS hl => ⟨((as).map (rv ad)).toArray, ?_⟩) k
  exact va_runS (As := as.map (rv ad)) (rest := S.map (rv ad)) ⟨C.1, C.2.1, C.2.2.1, C.2.2.2.1, C.2.2.2.2.1⟩ (hM ad H.size) ⟨callB_of n C.2.2.2.2.1 (GT_in hco) rfl hrm.1 hrm.2 (C.2.2.2.2.1 _ hini) (C.2.2.2.2.1 _ hlk) hy hR, C.2.2.2.2.1 _ hsta⟩ ⟨Pj_blind, Pj_ok C (as := as) hE hP hD hS⟩ rfl (by rw [List.length_map]; exact hn) hl.1 (by subst hst; simp [rv]) (by show 2 * 0 + _ ≤ 8; have := hW ad; omega) hd ⟨hcs.1, hcs.2⟩
theorem J_callSN (C : jcx p s m args meth c cc nL own ret D dA A E) {y : MethodName} {bytes : ByteArray} {maxL index n : Nat} {ret' : Option FieldType} {rm : Room} {as : List Value} {v : Option Value} {w' : MW} {Sc : List Value} (hd : decode cc pc = .ok (.invokestatic index, 3)) (hM : CT l D dA y bytes maxL ret' rm (as) w v w') {host : String} (hlk : Cond.methodLinkNest own index y host ∈ NT) (hco : Cond.code y bytes maxL ret' ∈ GT) (hini : Cond.initialized y.cls ∈ GT) (hsta : Cond.static y ∈ GT) (hy : y.cls ≠ "java/lang/invoke/MethodHandle" ∧ y.cls ≠ "java/lang/invoke/VarHandle" ∧ (parseMethodDescriptor y.desc).map (fun d => d.parameters.length) = some n) (hR : rm.frames + 1 ≤ R.frames ∧ 8 + (maxL + 11) + rm.locals ≤ R.locals) (hcs : cells ≤ R.cells ∧ slots ≤ R.slots) (hrm : rm.cells = 0 ∧ rm.slots = 0) (hn : as.length = n) (hst : Sc = as.reverse ++ S) (hW : ∀ ad, ((S.map (rv ad)).map fun v => v.category).sum ≤ 8) (k : JW p l e R s m args below meth c nL D dA A E Q cells slots (pc + 3) L (v.toList ++ S) w') : JW p l e R s m args below meth c nL D dA A E Q cells slots pc L Sc w := by
  refine J_run C (fun ad H locs ls hE hP hD hS hl => ⟨((as).map (rv ad)).toArray, ?_⟩) k
  exact va_runSN (As := as.map (rv ad)) (rest := S.map (rv ad)) ⟨C.1, C.2.1, C.2.2.1, C.2.2.2.1, C.2.2.2.2.1⟩ (hM ad H.size) ⟨va_cnB n C.2.2.2.2.1 (GT_in hco) rfl hrm.1 hrm.2 ((C.2.2.2.2.2.2.2.2.2 ad hE).1 _ hlk) (C.2.2.2.2.1 _ hini) hy hR, C.2.2.2.2.1 _ hsta, trivial⟩ ⟨Pj_blind, Pj_ok C (as := as) hE hP hD hS⟩ rfl (by rw [List.length_map]; exact hn) hl.1 (by subst hst; simp [rv]) (by show 2 * 0 + _ ≤ 8; have := hW ad; omega) hd ⟨hcs.1, hcs.2⟩
theorem J_callI (C : jcx p s m args meth c cc nL own ret D dA A E) {y : MethodName} {bytes : ByteArray} {maxL index n : Nat} {rm : Room} {as : List Value} {v : Option Value} {w' : MW} {Sc : List Value} {b ci : Nat} {fs : List Value} (hd : decode cc pc = .ok (.invokespecial index, 3)) (hM : CT l D dA y bytes maxL none rm (.ref b :: as) w v w') (hlk : Cond.methodLink own index y ∈ GT) (hco : Cond.code y bytes maxL none ∈ GT) (hini : Cond.initialized y.cls ∈ GT) (hins : Cond.instanceMethod y ∈ GT) (hnm : y.name = "<init>") (hy : y.cls ≠ "java/lang/invoke/MethodHandle" ∧ y.cls ≠ "java/lang/invoke/VarHandle" ∧ (parseMethodDescriptor y.desc).map (fun d => d.parameters.length) = some n) (hR : rm.frames + 1 ≤ R.frames ∧ 8 + (maxL + 11) + rm.locals ≤ R.locals) (hcs : cells ≤ R.cells ∧ slots ≤ R.slots) (hrm : rm.cells = 0 ∧ rm.slots = 0) (hb : w[b]? = some (.inr (ci, fs))) (hn : as.length = n) (hst : Sc = as.reverse ++ .ref b :: S) (hW : ∀ ad, ((S.map (rv ad)).map fun v => v.category).sum ≤ 8) (k : JW p l e R s m args below meth c nL D dA A E Q cells slots (pc + 3) L (v.toList ++ S) w') : JW p l e R s m args below meth c nL D dA A E Q cells slots pc L Sc w := by
  refine J_run C (fun ad H locs ls hE hP hD hS hl => ⟨((.ref b :: as).map (rv ad)).toArray, ?_⟩) k
  exact va_runI (b := ad b) (As := as.map (rv ad)) (rest := S.map (rv ad)) ⟨C.1, C.2.1, C.2.2.1, C.2.2.2.1, C.2.2.2.2.1⟩ (hM ad H.size) ⟨callB_of n C.2.2.2.2.1 (GT_in hco) rfl hrm.1 hrm.2 (C.2.2.2.2.1 _ hini) (C.2.2.2.2.1 _ hlk) hy hR, hnm, C.2.2.2.2.1 _ hins⟩ ⟨Pj_blind, Pj_ok C (as := .ref b :: as) hE hP hD hS⟩ rfl (by rw [List.length_map]; exact hn) hl.1 (by subst hst; simp [rv]) (by show 2 * 0 + _ ≤ 8; have := hW ad; omega) hd ⟨hcs.1, hcs.2⟩
theorem J_callIN (C : jcx p s m args meth c cc nL own ret D dA A E) {y : MethodName} {bytes : ByteArray} {maxL index n : Nat} {rm : Room} {as : List Value} {v : Option Value} {w' : MW} {Sc : List Value} {b ci : Nat} {fs : List Value} (hd : decode cc pc = .ok (.invokespecial index, 3)) (hM : CT l D dA y bytes maxL none rm (.ref b :: as) w v w') {host : String} (hlk : Cond.methodLinkNest own index y host ∈ NT) (hco : Cond.code y bytes maxL none ∈ GT) (hini : Cond.initialized y.cls ∈ GT) (hins : Cond.instanceMethod y ∈ GT) (hnm : y.name = "<init>") (hy : y.cls ≠ "java/lang/invoke/MethodHandle" ∧ y.cls ≠ "java/lang/invoke/VarHandle" ∧ (parseMethodDescriptor y.desc).map (fun d => d.parameters.length) = some n) (hR : rm.frames + 1 ≤ R.frames ∧ 8 + (maxL + 11) + rm.locals ≤ R.locals) (hcs : cells ≤ R.cells ∧ slots ≤ R.slots) (hrm : rm.cells = 0 ∧ rm.slots = 0) (hb : w[b]? = some (.inr (ci, fs))) (hn : as.length = n) (hst : Sc = as.reverse ++ .ref b :: S) (hW : ∀ ad, ((S.map (rv ad)).map fun v => v.category).sum ≤ 8) (k : JW p l e R s m args below meth c nL D dA A E Q cells slots (pc + 3) L (v.toList ++ S) w') : JW p l e R s m args below meth c nL D dA A E Q cells slots pc L Sc w := by
  refine J_run C (fun ad H locs ls hE hP hD hS hl => ⟨((.ref b :: as).map (rv ad)).toArray, ?_⟩) k
  exact va_runIN (b := ad b) (As := as.map (rv ad)) (rest := S.map (rv ad)) ⟨C.1, C.2.1, C.2.2.1, C.2.2.2.1, C.2.2.2.2.1⟩ (hM ad H.size) ⟨va_cnB n C.2.2.2.2.1 (GT_in hco) rfl hrm.1 hrm.2 ((C.2.2.2.2.2.2.2.2.2 ad hE).1 _ hlk) (C.2.2.2.2.1 _ hini) hy hR, hnm, C.2.2.2.2.1 _ hins⟩ ⟨Pj_blind, Pj_ok C (as := .ref b :: as) hE hP hD hS⟩ rfl (by rw [List.length_map]; exact hn) hl.1 (by subst hst; simp [rv]) (by show 2 * 0 + _ ≤ 8; have := hW ad; omega) hd ⟨hcs.1, hcs.2⟩
theorem J_callIA (C : jcx p s m args meth c cc nL own ret D dA A E) {y : MethodName} {bytes : ByteArray} {maxL index n : Nat} {rm : Room} {as : List Value} {v : Option Value} {w' : MW} {Sc : List Value} {b ci : Nat} {fs : List Value} {mc ms : Nat} (hd : decode cc pc = .ok (.invokespecial index, 3)) (hM : CA l D dA y bytes maxL none rm mc ms (.ref b :: as) w v w') (hlk : Cond.methodLink own index y ∈ GT) (hco : Cond.code y bytes maxL none ∈ GT) (hini : Cond.initialized y.cls ∈ GT) (hins : Cond.instanceMethod y ∈ GT) (hnm : y.name = "<init>") (hy : y.cls ≠ "java/lang/invoke/MethodHandle" ∧ y.cls ≠ "java/lang/invoke/VarHandle" ∧ (parseMethodDescriptor y.desc).map (fun d => d.parameters.length) = some n) (hR : rm.frames + 1 ≤ R.frames ∧ 8 + (maxL + 11) + rm.locals ≤ R.locals) (hcs : cells + mc ≤ R.cells ∧ slots + ms ≤ R.slots) (hrm : rm.cells = mc ∧ rm.slots = ms) (hb : w[b]? = some (.inr (ci, fs))) (hn : as.length = n) (hst : Sc = as.reverse ++ .ref b :: S) (hW : ∀ ad, ((S.map (rv ad)).map fun v => v.category).sum ≤ 8) {n0 : Nat} (hEE : ∀ (w1 : MW) (ad ad' : Nat → Nat), n0 ≤ w1.length → E ad → EA w1.length ad ad' → E ad') (hn0 : n0 ≤ w.length) (vs : List Value) (hvs : L.map (fun q => q.2) ++ S = vs) (hv0 : vs.all (rOK w.length) = true) (k : JW p l e R s m args below meth c nL D dA A E Q (cells + mc) (slots + ms) (pc + 3) L (v.toList ++ S) w') : JW p l e R s m args below meth c nL D dA A E Q cells slots pc L Sc w := by
  refine J_runA C (fun ad ad' => hEE w ad ad' hn0) (by rw [← hvs, List.all_append, Bool.and_eq_true] at hv0; exact hv0.1) (by rw [← hvs, List.all_append, Bool.and_eq_true] at hv0; exact hv0.2) (fun ad H locs ls hE hP hD hS hl => ⟨((.ref b :: as).map (rv ad)).toArray, ?_⟩) k
  exact va_runI (b := ad b) (As := as.map (rv ad)) (rest := S.map (rv ad)) ⟨C.1, C.2.1, C.2.2.1, C.2.2.2.1, C.2.2.2.2.1⟩ (hM ad H.size) ⟨callB_of n C.2.2.2.2.1 (GT_in hco) rfl hrm.1 hrm.2 (C.2.2.2.2.1 _ hini) (C.2.2.2.2.1 _ hlk) hy hR, hnm, C.2.2.2.2.1 _ hins⟩ ⟨Pj_blind, Pj_ok C (as := .ref b :: as) hE hP hD hS⟩ rfl (by rw [List.length_map]; exact hn) hl.1 (by subst hst; simp [rv]) (by show 2 * 0 + _ ≤ 8; have := hW ad; omega) hd ⟨hcs.1, hcs.2⟩
theorem J_callINA (C : jcx p s m args meth c cc nL own ret D dA A E) {y : MethodName} {bytes : ByteArray} {maxL index n : Nat} {rm : Room} {as : List Value} {v : Option Value} {w' : MW} {Sc : List Value} {b ci : Nat} {fs : List Value} {mc ms : Nat} (hd : decode cc pc = .ok (.invokespecial index, 3)) (hM : CA l D dA y bytes maxL none rm mc ms (.ref b :: as) w v w') {host : String} (hlk : Cond.methodLinkNest own index y host ∈ NT) (hco : Cond.code y bytes maxL none ∈ GT) (hini : Cond.initialized y.cls ∈ GT) (hins : Cond.instanceMethod y ∈ GT) (hnm : y.name = "<init>") (hy : y.cls ≠ "java/lang/invoke/MethodHandle" ∧ y.cls ≠ "java/lang/invoke/VarHandle" ∧ (parseMethodDescriptor y.desc).map (fun d => d.parameters.length) = some n) (hR : rm.frames + 1 ≤ R.frames ∧ 8 + (maxL + 11) + rm.locals ≤ R.locals) (hcs : cells + mc ≤ R.cells ∧ slots + ms ≤ R.slots) (hrm : rm.cells = mc ∧ rm.slots = ms) (hb : w[b]? = some (.inr (ci, fs))) (hn : as.length = n) (hst : Sc = as.reverse ++ .ref b :: S) (hW : ∀ ad, ((S.map (rv ad)).map fun v => v.category).sum ≤ 8) {n0 : Nat} (hEE : ∀ (w1 : MW) (ad ad' : Nat → Nat), n0 ≤ w1.length → E ad → EA w1.length ad ad' → E ad') (hn0 : n0 ≤ w.length) (vs : List Value) (hvs : L.map (fun q => q.2) ++ S = vs) (hv0 : vs.all (rOK w.length) = true) (k : JW p l e R s m args below meth c nL D dA A E Q (cells + mc) (slots + ms) (pc + 3) L (v.toList ++ S) w') : JW p l e R s m args below meth c nL D dA A E Q cells slots pc L Sc w := by
  refine J_runA C (fun ad ad' => hEE w ad ad' hn0) (by rw [← hvs, List.all_append, Bool.and_eq_true] at hv0; exact hv0.1) (by rw [← hvs, List.all_append, Bool.and_eq_true] at hv0; exact hv0.2) (fun ad H locs ls hE hP hD hS hl => ⟨((.ref b :: as).map (rv ad)).toArray, ?_⟩) k
  exact va_runIN (b := ad b) (As := as.map (rv ad)) (rest := S.map (rv ad)) ⟨C.1, C.2.1, C.2.2.1, C.2.2.2.1, C.2.2.2.2.1⟩ (hM ad H.size) ⟨va_cnB n C.2.2.2.2.1 (GT_in hco) rfl hrm.1 hrm.2 ((C.2.2.2.2.2.2.2.2.2 ad hE).1 _ hlk) (C.2.2.2.2.1 _ hini) hy hR, hnm, C.2.2.2.2.1 _ hins⟩ ⟨Pj_blind, Pj_ok C (as := .ref b :: as) hE hP hD hS⟩ rfl (by rw [List.length_map]; exact hn) hl.1 (by subst hst; simp [rv]) (by show 2 * 0 + _ ≤ 8; have := hW ad; omega) hd ⟨hcs.1, hcs.2⟩
/-- a callee's words, in one -/
def YV (y : MethodName) (bytes : ByteArray) (maxL : Nat) (ret' : Option FieldType) (rm : Room) (ci n : Nat) : Prop := Cond.code y bytes maxL ret' ∈ GT ∧ Cond.initialized y.cls ∈ GT ∧ Cond.instanceMethod y ∈ GT ∧ Cond.selects y.cls y y ∈ GT ∧ (∃ (T : u_T) (N : Nat), vwCl[ci]? = some (y.cls, T, N)) ∧ (y.cls ≠ "java/lang/invoke/MethodHandle" ∧ y.cls ≠ "java/lang/invoke/VarHandle" ∧ (parseMethodDescriptor y.desc).map (fun d => d.parameters.length) = some n) ∧ (rm.cells = 0 ∧ rm.slots = 0)
def YS (y : MethodName) (bytes : ByteArray) (maxL : Nat) (ret' : Option FieldType) (rm : Room) (n : Nat) : Prop := Cond.code y bytes maxL ret' ∈ GT ∧ Cond.initialized y.cls ∈ GT ∧ Cond.static y ∈ GT ∧ (y.cls ≠ "java/lang/invoke/MethodHandle" ∧ y.cls ≠ "java/lang/invoke/VarHandle" ∧ (parseMethodDescriptor y.desc).map (fun d => d.parameters.length) = some n) ∧ (rm.cells = 0 ∧ rm.slots = 0)
def YI (y : MethodName) (bytes : ByteArray) (maxL : Nat) (rm : Room) (mc ms n : Nat) : Prop := Cond.code y bytes maxL none ∈ GT ∧ Cond.initialized y.cls ∈ GT ∧ Cond.instanceMethod y ∈ GT ∧ y.name = "<init>" ∧ (y.cls ≠ "java/lang/invoke/MethodHandle" ∧ y.cls ≠ "java/lang/invoke/VarHandle" ∧ (parseMethodDescriptor y.desc).map (fun d => d.parameters.length) = some n) ∧ (rm.cells = mc ∧ rm.slots = ms)
theorem J_cV (C : jcx p s m args meth c cc nL own ret D dA A E) {y : MethodName} {bytes : ByteArray} {maxL index n : Nat} {ret' : Option FieldType} {rm : Room} {as : List Value} {v : Option Value} {w' : MW} {Sc : List Value} {b ci : Nat} {fs : List Value} (hd : decode cc pc = .ok (.invokevirtual index, 3)) (hM : CT l D dA y bytes maxL ret' rm (.ref b :: as) w v w') (hlk : Cond.methodLink own index y ∈ GT) (Y : YV y bytes maxL ret' rm ci n) (hR : rm.frames + 1 ≤ R.frames ∧ 8 + (maxL + 11) + rm.locals ≤ R.locals) (hcs : cells ≤ R.cells ∧ slots ≤ R.slots) (hb : w[b]? = some (.inr (ci, fs))) (hn : as.length = n) (hst : Sc = as.reverse ++ .ref b :: S) (hW : ∀ ad, ((S.map (rv ad)).map fun v => v.category).sum ≤ 8) (k : JW p l e R s m args below meth c nL D dA A E Q cells slots (pc + 3) L (v.toList ++ S) w') : JW p l e R s m args below meth c nL D dA A E Q cells slots pc L Sc w := by
  obtain ⟨y1, y2, y3, y4, ⟨T, N, y5⟩, y6, y7⟩ := Y
  exact J_callV C hd hM hlk y1 y2 y3 y4 y5 y6 hR hcs y7 hb hn hst hW k
theorem J_cS (C : jcx p s m args meth c cc nL own ret D dA A E) {y : MethodName} {bytes : ByteArray} {maxL index n : Nat} {ret' : Option FieldType} {rm : Room} {as : List Value} {v : Option Value} {w' : MW} {Sc : List Value} (hd : decode cc pc = .ok (.invokestatic index, 3)) (hM : CT l D dA y bytes maxL ret' rm as w v w') (hlk : Cond.methodLink own index y ∈ GT) (Y : YS y bytes maxL ret' rm n) (hR : rm.frames + 1 ≤ R.frames ∧ 8 + (maxL + 11) + rm.locals ≤ R.locals) (hcs : cells ≤ R.cells ∧ slots ≤ R.slots) (hn : as.length = n) (hst : Sc = as.reverse ++ S) (hW : ∀ ad, ((S.map (rv ad)).map fun v => v.category).sum ≤ 8) (k : JW p l e R s m args below meth c nL D dA A E Q cells slots (pc + 3) L (v.toList ++ S) w') : JW p l e R s m args below meth c nL D dA A E Q cells slots pc L Sc w := by
  obtain ⟨y1, y2, y3, y6, y7⟩ := Y
  exact J_callS C hd hM hlk y1 y2 y3 y6 hR hcs y7 hn hst hW k
theorem J_cSN (C : jcx p s m args meth c cc nL own ret D dA A E) {y : MethodName} {bytes : ByteArray} {maxL index n : Nat} {ret' : Option FieldType} {rm : Room} {as : List Value} {v : Option Value} {w' : MW} {Sc : List Value} {host : String} (hd : decode cc pc = .ok (.invokestatic index, 3)) (hM : CT l D dA y bytes maxL ret' rm as w v w') (hlk : Cond.methodLinkNest own index y host ∈ NT) (Y : YS y bytes maxL ret' rm n) (hR : rm.frames + 1 ≤ R.frames ∧ 8 + (maxL + 11) + rm.locals ≤ R.locals) (hcs : cells ≤ R.cells ∧ slots ≤ R.slots) (hn : as.length = n) (hst : Sc = as.reverse ++ S) (hW : ∀ ad, ((S.map (rv ad)).map fun v => v.category).sum ≤ 8) (k : JW p l e R s m args below meth c nL D dA A E Q cells slots (pc + 3) L (v.toList ++ S) w') : JW p l e R s m args below meth c nL D dA A E Q cells slots pc L Sc w := by
  obtain ⟨y1, y2, y3, y6, y7⟩ := Y
  exact J_callSN C hd hM hlk y1 y2 y3 y6 hR hcs y7 hn hst hW k
theorem J_cI (C : jcx p s m args meth c cc nL own ret D dA A E) {y : MethodName} {bytes : ByteArray} {maxL index n : Nat} {rm : Room} {as : List Value} {v : Option Value} {w' : MW} {Sc : List Value} {b ci : Nat} {fs : List Value} (hd : decode cc pc = .ok (.invokespecial index, 3)) (hM : CT l D dA y bytes maxL none rm (.ref b :: as) w v w') (hlk : Cond.methodLink own index y ∈ GT) (Y : YI y bytes maxL rm 0 0 n) (hR : rm.frames + 1 ≤ R.frames ∧ 8 + (maxL + 11) + rm.locals ≤ R.locals) (hcs : cells ≤ R.cells ∧ slots ≤ R.slots) (hb : w[b]? = some (.inr (ci, fs))) (hn : as.length = n) (hst : Sc = as.reverse ++ .ref b :: S) (hW : ∀ ad, ((S.map (rv ad)).map fun v => v.category).sum ≤ 8) (k : JW p l e R s m args below meth c nL D dA A E Q cells slots (pc + 3) L (v.toList ++ S) w') : JW p l e R s m args below meth c nL D dA A E Q cells slots pc L Sc w := by
  obtain ⟨y1, y2, y3, y4, y6, y7⟩ := Y
  exact J_callI C hd hM hlk y1 y2 y3 y4 y6 hR hcs y7 hb hn hst hW k
theorem J_cIA (C : jcx p s m args meth c cc nL own ret D dA A E) {y : MethodName} {bytes : ByteArray} {maxL index n : Nat} {rm : Room} {as : List Value} {v : Option Value} {w' : MW} {Sc : List Value} {b ci mc ms : Nat} {fs : List Value} (hd : decode cc pc = .ok (.invokespecial index, 3)) (hM : CA l D dA y bytes maxL none rm mc ms (.ref b :: as) w v w') (hlk : Cond.methodLink own index y ∈ GT) (Y : YI y bytes maxL rm mc ms n) (hR : rm.frames + 1 ≤ R.frames ∧ 8 + (maxL + 11) + rm.locals ≤ R.locals) (hcs : cells + mc ≤ R.cells ∧ slots + ms ≤ R.slots) (hb : w[b]? = some (.inr (ci, fs))) (hn : as.length = n) (hst : Sc = as.reverse ++ .ref b :: S) (hW : ∀ ad, ((S.map (rv ad)).map fun v => v.category).sum ≤ 8) {n0 : Nat} (hEE : ∀ (w1 : MW) (ad ad' : Nat → Nat), n0 ≤ w1.length → E ad → EA w1.length ad ad' → E ad') (hn0 : n0 ≤ w.length) (vs : List Value) (hvs : L.map (fun q => q.2) ++ S = vs) (hv0 : vs.all (rOK w.length) = true) (k : JW p l e R s m args below meth c nL D dA A E Q (cells + mc) (slots + ms) (pc + 3) L (v.toList ++ S) w') : JW p l e R s m args below meth c nL D dA A E Q cells slots pc L Sc w := by
  obtain ⟨y1, y2, y3, y4, y6, y7⟩ := Y
  exact J_callIA C hd hM hlk y1 y2 y3 y4 y6 hR hcs y7 hb hn hst hW hEE hn0 vs hvs hv0 k
theorem J_cIN (C : jcx p s m args meth c cc nL own ret D dA A E) {y : MethodName} {bytes : ByteArray} {maxL index n : Nat} {rm : Room} {as : List Value} {v : Option Value} {w' : MW} {Sc : List Value} {b ci : Nat} {fs : List Value} (hd : decode cc pc = .ok (.invokespecial index, 3)) (hM : CT l D dA y bytes maxL none rm (.ref b :: as) w v w') {host : String} (hlk : Cond.methodLinkNest own index y host ∈ NT) (Y : YI y bytes maxL rm 0 0 n) (hR : rm.frames + 1 ≤ R.frames ∧ 8 + (maxL + 11) + rm.locals ≤ R.locals) (hcs : cells ≤ R.cells ∧ slots ≤ R.slots) (hb : w[b]? = some (.inr (ci, fs))) (hn : as.length = n) (hst : Sc = as.reverse ++ .ref b :: S) (hW : ∀ ad, ((S.map (rv ad)).map fun v => v.category).sum ≤ 8) (k : JW p l e R s m args below meth c nL D dA A E Q cells slots (pc + 3) L (v.toList ++ S) w') : JW p l e R s m args below meth c nL D dA A E Q cells slots pc L Sc w := by
  obtain ⟨y1, y2, y3, y4, y6, y7⟩ := Y
  exact J_callIN C hd hM hlk y1 y2 y3 y4 y6 hR hcs y7 hb hn hst hW k
theorem J_cINA (C : jcx p s m args meth c cc nL own ret D dA A E) {y : MethodName} {bytes : ByteArray} {maxL index n : Nat} {rm : Room} {as : List Value} {v : Option Value} {w' : MW} {Sc : List Value} {b ci mc ms : Nat} {fs : List Value} (hd : decode cc pc = .ok (.invokespecial index, 3)) (hM : CA l D dA y bytes maxL none rm mc ms (.ref b :: as) w v w') {host : String} (hlk : Cond.methodLinkNest own index y host ∈ NT) (Y : YI y bytes maxL rm mc ms n) (hR : rm.frames + 1 ≤ R.frames ∧ 8 + (maxL + 11) + rm.locals ≤ R.locals) (hcs : cells + mc ≤ R.cells ∧ slots + ms ≤ R.slots) (hb : w[b]? = some (.inr (ci, fs))) (hn : as.length = n) (hst : Sc = as.reverse ++ .ref b :: S) (hW : ∀ ad, ((S.map (rv ad)).map fun v => v.category).sum ≤ 8) {n0 : Nat} (hEE : ∀ (w1 : MW) (ad ad' : Nat → Nat), n0 ≤ w1.length → E ad → EA w1.length ad ad' → E ad') (hn0 : n0 ≤ w.length) (vs : List Value) (hvs : L.map (fun q => q.2) ++ S = vs) (hv0 : vs.all (rOK w.length) = true) (k : JW p l e R s m args below meth c nL D dA A E Q (cells + mc) (slots + ms) (pc + 3) L (v.toList ++ S) w') : JW p l e R s m args below meth c nL D dA A E Q cells slots pc L Sc w := by
  obtain ⟨y1, y2, y3, y4, y6, y7⟩ := Y
  exact J_callINA C hd hM hlk y1 y2 y3 y4 y6 hR hcs y7 hb hn hst hW hEE hn0 vs hvs hv0 k
theorem J_iret (C : jcx p s m args meth c cc nL own ret D dA A E) {x y : Int32} {ty : FieldType} {w' : MW} (hr : ret = some ty) (hn : narrow ty (.int x) = .int x) (hd : decode cc pc = .ok (.ireturn, 1)) (hf : some (x, w) = some (y, w')) : JW p l e R s m args below meth c nL D dA A E (MQ below (Qr D dA E (some (.int y)) w' A) args s cells slots A) cells slots pc L [.int x] w := by
  cases hf
  intro ad H locs ls hE hP hD hS hl
  exact W.zret C.1 C.2.1 (C.2.2.2.2.2.2.1.trans hr) hn (fun t ht hW => ⟨ad, hE, rfl, by rw [ht]; exact hP, hD, hS.F ht⟩) hS.2.2 hd C.2.2.2.2.2.2.2.1
theorem J_iretP (C : jcx p s m args meth c cc nL own ret D dA A E) {x y : Int32} {ty : FieldType} (hr : ret = some ty) (hn : narrow ty (.int x) = .int x) (hd : decode cc pc = .ok (.ireturn, 1)) (hf : some x = some y) : JW p l e R s m args below meth c nL D dA A E (MQ below (Qr D dA E (some (.int y)) w A) args s cells slots A) cells slots pc L [.int x] w := J_iret C hr hn hd (by rw [Option.some.inj hf])
theorem J_iretT (C : jcx p s m args meth c cc nL own ret D dA A E) {x y : Int32} {ty : FieldType} (hr : ret = some ty) (hn : narrow ty (.int x) = .int x) (hd : decode cc pc = .ok (.ireturn, 1)) (hf : x = y) : JW p l e R s m args below meth c nL D dA A E (MQ below (Qr D dA E (some (.int y)) w A) args s cells slots A) cells slots pc L [.int x] w := J_iret C hr hn hd (by rw [hf])
theorem J_vret (C : jcx p s m args meth c cc nL own ret D dA A E) {w' : MW} (hr : ret = none) (hd : decode cc pc = .ok (.return_, 1)) (hf : some w = some w') : JW p l e R s m args below meth c nL D dA A E (MQ below (Qr D dA E none w' A) args s cells slots A) cells slots pc L [] w := by
  cases hf
  intro ad H locs ls hE hP hD hS hl
  exact W.vret C.1 C.2.1 (C.2.2.2.2.2.2.1.trans hr) (fun t ht hW => ⟨ad, hE, rfl, by rw [ht]; exact hP, hD, hS.F ht⟩) hS.2.2 hd C.2.2.2.2.2.2.2.1
theorem J_aret (C : jcx p s m args meth c cc nL own ret D dA A E) {x y : Nat} {ty : FieldType} {w' : MW} (hr : ret = some ty) (ho : (∃ n, ty = .object n) ∨ ∃ t, ty = .array t) (hd : decode cc pc = .ok (.areturn, 1)) (hf : some (x, w) = some (y, w')) : JW p l e R s m args below meth c nL D dA A E (MQ below (Qr D dA E (some (.ref y)) w' A) args s cells slots A) cells slots pc L [.ref x] w := by
  cases hf
  intro ad H locs ls hE hP hD hS hl
  exact W.aret C.1 C.2.1 (C.2.2.2.2.2.2.1.trans hr) ho (Or.inr ⟨_, rfl⟩) (fun t ht hW => ⟨ad, hE, rfl, by rw [ht]; exact hP, hD, hS.F ht⟩) hS.2.2 hd C.2.2.2.2.2.2.2.1
theorem J_aretP (C : jcx p s m args meth c cc nL own ret D dA A E) {x y : Nat} {ty : FieldType} (hr : ret = some ty) (ho : (∃ n, ty = .object n) ∨ ∃ t, ty = .array t) (hd : decode cc pc = .ok (.areturn, 1)) (hf : some x = some y) : JW p l e R s m args below meth c nL D dA A E (MQ below (Qr D dA E (some (.ref y)) w A) args s cells slots A) cells slots pc L [.ref x] w := J_aret C hr ho hd (by rw [Option.some.inj hf])
theorem J_aretO (C : jcx p s m args meth c cc nL own ret D dA A E) {x : Nat} {y : Option Nat} {ty : FieldType} (hr : ret = some ty) (ho : (∃ n, ty = .object n) ∨ ∃ t, ty = .array t) (hd : decode cc pc = .ok (.areturn, 1)) (hf : some (some x) = some y) : JW p l e R s m args below meth c nL D dA A E (MQ below (Qr D dA E (some (va_rf y)) w A) args s cells slots A) cells slots pc L [.ref x] w := by
  cases hf
  exact J_aret C hr ho hd rfl
theorem J_aretON (C : jcx p s m args meth c cc nL own ret D dA A E) {y : Option Nat} {ty : FieldType} (hr : ret = some ty) (ho : (∃ n, ty = .object n) ∨ ∃ t, ty = .array t) (hd : decode cc pc = .ok (.areturn, 1)) (hf : some (none : Option Nat) = some y) : JW p l e R s m args below meth c nL D dA A E (MQ below (Qr D dA E (some (va_rf y)) w A) args s cells slots A) cells slots pc L [.null] w := by
  cases hf
  intro ad H locs ls hE hP hD hS hl
  exact W.aret C.1 C.2.1 (C.2.2.2.2.2.2.1.trans hr) ho (Or.inl rfl) (fun t ht hW => ⟨ad, hE, rfl, by rw [ht]; exact hP, hD, hS.F ht⟩) hS.2.2 hd C.2.2.2.2.2.2.2.1
theorem J_widen {k n : Nat} (h1 : cells ≤ k) (h2 : slots ≤ n) (kk : JW p l e R s m args below meth c nL D dA A E Q k n pc L S w) : JW p l e R s m args below meth c nL D dA A E Q cells slots pc L S w := fun ad H locs ls hE hP hD hS hl => W.widen h1 h2 (kk ad H locs ls hE hP hD hS hl)
theorem J_new (C : jcx p s m args meth c cc nL own ret D dA A E) {Cn : String} {T : u_T} {N ci index : Nat} {fs : List Value} {K : MW → Option ρ} (hd : decode cc pc = .ok (.new index, 3)) (hc : vwCl[ci]? = some (Cn, T, N)) (hin : ∀ x ∈ u_ws Cn T N, x ∈ GT) (ty0 : Nat → FieldType) (hty : ∀ k, k < N → parseFieldDescriptor (T k).2.2.1 = some (ty0 k)) (hcl : Cond.classLink own index Cn ∈ GT) (hins : Cond.instantiable Cn N ∈ GT) (hini : Cond.initialized Cn ∈ GT) (hfs : ∀ j, j < N → defaultValue (ty0 j) = vp_V fs j) (hrf : ∀ ad, fs.map (rv ad) = fs) (hcs : cells + 1 ≤ R.cells ∧ slots + N ≤ R.slots) {n0 : Nat} (hEE : ∀ (w1 : MW) (ad ad' : Nat → Nat), n0 ≤ w1.length → E ad → EA w1.length ad ad' → E ad') (vs : List Value) (hvs : L.map (fun q => q.2) ++ S = vs) (hf : (nwC n0 w vs (.inr (ci, fs))).bind K = some r) (k : ∀ w1, K w1 = some r → JW p l e R s m args below meth c nL D dA A E Q (cells + 1) (slots + N) (pc + 3) L (.ref w.length :: S) w1) : JW p l e R s m args below meth c nL D dA A E Q cells slots pc L S w := by
  obtain ⟨w1, h1, h2⟩ := bind_ok hf
  obtain ⟨g1, g2, g3, rfl⟩ := nwC_spec h1
  intro ad H locs ls hE hP hD hS hl
  refine va_new (ci := ci) (fs := fs) (C := Cn) (T := T) (N := N) C.1 C.2.1 C.2.2.2.2.1 hin ty0 hty C.2.2.2.1 (C.2.2.2.2.1 _ hcl) (C.2.2.2.2.1 _ hins) (C.2.2.2.2.1 _ hini) C.2.2.2.2.2.1 hP hD hS C.2.2.2.2.2.2.2.2.1 hc hfs hcs.1 hcs.2 hd (fun q H1 hP1 hD1 hS1 => ?_)
  have hvs1 := hvs
  rw [← hvs1, List.all_append, Bool.and_eq_true] at g2
  have had : EA w.length ad (fun k => if k = w.length then q else ad k) := fun k hk => by
    have := g1.1
    rcases hk with hk | hk
    · exact if_neg (by omega)
    · exact if_neg (by omega)
  generalize hg : (fun k => if k = w.length then q else ad k) = ad' at had
  have hq : ad' w.length = q := by rw [← hg]; exact if_pos rfl
  have ew : wi dA ad w ++ [(q, .inr (ci, fs))] = wi dA ad' (w ++ [.inr (ci, fs)]) := by
    rw [← wi_push, hq, wi_ext g1 had]; show _ = _ ++ [(q, Sum.inr (ci, fs.map (rv ad')))]; rw [hrf]
  have eL : L.map (fun q => (q.1, rv ad' q.2)) = L.map (fun q => (q.1, rv ad q.2)) := by
    apply List.map_congr_left
    intro z hz
    rw [rv_ext (List.all_eq_true.mp g2.1 _ (List.mem_map_of_mem hz)) had]
  have eS : (.ref w.length :: S).map (rv ad') = .ref q :: S.map (rv ad) := by
    show Value.ref (ad' w.length) :: S.map (rv ad') = _
    rw [hq, rvs_ext g2.2 had]
  have := k _ h2 ad' H1 locs ls (hEE w ad ad' g3 hE had) (by rw [← ew]; exact hP1) (by rw [← ew]; exact hD1) hS1 (by rw [eL]; exact hl)
  rw [eS] at this
  exact this
theorem J_newa (C : jcx p s m args meth c cc nL own ret D dA A E) {aty : ArrayType} {ty : FieldType} {x : Int32} {N : Nat} {K : MW → Option ρ} (t0 : Nat) (ht0 : ∀ dA, (tyL dA)[t0]? = some (dA ty, ty)) (hd : decode cc pc = .ok (.newarray aty, 2)) (hty : newarray.typeOf aty = ty) (hw : Cond.arrayClass (newarray.typeOf aty) ∈ GT) (hz : ∀ cA : ClassId, vp_cell cA (N, .inl (fun _ => 0)) = arrV cA N (fun _ => defaultValue ty)) (hra : ∀ cA : ClassId, ∀ U : State, va_RA U cA ty → U.vm.findClass ("[" ++ ty.toString) = some cA) (hn : ¬ x < 0) (hN : x.toNatClampNeg = N) (hby : N * componentBytes ty ≤ 536870912) (hcs : cells + 1 ≤ R.cells ∧ slots + N ≤ R.slots) {n0 : Nat} (hEE : ∀ (w1 : MW) (ad ad' : Nat → Nat), n0 ≤ w1.length → E ad → EA w1.length ad ad' → E ad') (vs : List Value) (hvs : L.map (fun q => q.2) ++ S = vs) (hf : (nwC n0 w vs (.inl (ty, N, .inl (fun _ => 0)))).bind K = some r) (k : ∀ w1, K w1 = some r → JW p l e R s m args below meth c nL D dA A E Q (cells + 1) (slots + N) (pc + 2) L (.ref w.length :: S) w1) : JW p l e R s m args below meth c nL D dA A E Q cells slots pc L (.int x :: S) w := by
  obtain ⟨w1, h1, h2⟩ := bind_ok hf
  obtain ⟨g1, g2, g3, rfl⟩ := nwC_spec h1
  intro ad H locs ls hE hP hD hS hl
  refine va_newa (atype := aty) (a0 := (N, .inl (fun _ => 0))) C.1 C.2.1 (C.2.2.2.2.1 _ hw) hty C.2.2.2.2.2.1 hP hD hS C.2.2.2.2.2.2.2.2.1 hz hn hN hby hcs.1 hcs.2 hd (fun q cA H1 hK1 hP1 hD1 hS1 => ?_)
  have eA : cA = dA ty := by
    have h5 := hra cA s (hK1.2 (tyL dA).length (cA, ty) (by simp)).2
    have h6 := hra (dA ty) s (C.2.2.2.2.2.1.2 t0 _ (ht0 dA)).2
    exact Option.some.inj (h5.symm.trans h6)
  subst eA
  have hvs1 := hvs
  rw [← hvs1, List.all_append, Bool.and_eq_true] at g2
  have had : EA w.length ad (fun k => if k = w.length then q else ad k) := fun k hk => by
    have := g1.1
    rcases hk with hk | hk
    · exact if_neg (by omega)
    · exact if_neg (by omega)
  generalize hg : (fun k => if k = w.length then q else ad k) = ad' at had
  have hq : ad' w.length = q := by rw [← hg]; exact if_pos rfl
  have ew : wi dA ad w ++ [(q, .inl (dA ty, N, .inl (fun _ => 0)))] = wi dA ad' (w ++ [.inl (ty, N, .inl (fun _ => 0))]) := by
    rw [← wi_push, hq, wi_ext g1 had]; rfl
  have eL : L.map (fun q => (q.1, rv ad' q.2)) = L.map (fun q => (q.1, rv ad q.2)) := by
    apply List.map_congr_left
    intro z hz
    rw [rv_ext (List.all_eq_true.mp g2.1 _ (List.mem_map_of_mem hz)) had]
  have eS : (.ref w.length :: S).map (rv ad') = .ref q :: S.map (rv ad) := by
    show Value.ref (ad' w.length) :: S.map (rv ad') = _
    rw [hq, rvs_ext g2.2 had]
  have := k _ h2 ad' H1 locs ls (hEE w ad ad' g3 hE had) (by rw [← ew]; exact hP1) (by rw [← ew]; exact hD1) hS1 (by rw [eL]; exact hl)
  rw [eS] at this
  exact this
theorem J_newq (C : jcx p s m args meth c cc nL own ret D dA A E) {Cn : String} {index : Nat} {x : Int32} {N : Nat} {K : MW → Option ρ} (t0 : Nat) (ht0 : ∀ dA, (tyL dA)[t0]? = some (dA (.object Cn), .object Cn)) (hmem : Cn ∈ [RX0, RX6, RX1]) (hd : decode cc pc = .ok (.anewarray index, 3)) (hcl : Cond.classLink own index Cn ∈ GT) (hn : ¬ x < 0) (hN : x.toNatClampNeg = N) (hby : N * 4 ≤ 536870912) (hcs : cells + 1 ≤ R.cells ∧ slots + N ≤ R.slots) {n0 : Nat} (hEE : ∀ (w1 : MW) (ad ad' : Nat → Nat), n0 ≤ w1.length → E ad → EA w1.length ad ad' → E ad') (vs : List Value) (hvs : L.map (fun q => q.2) ++ S = vs) (hf : (nwC n0 w vs (.inl (.object Cn, N, .inr (.inr (.inr (.inr (fun _ => none))))))).bind K = some r) (k : ∀ w1, K w1 = some r → JW p l e R s m args below meth c nL D dA A E Q (cells + 1) (slots + N) (pc + 3) L (.ref w.length :: S) w1) : JW p l e R s m args below meth c nL D dA A E Q cells slots pc L (.int x :: S) w := by
  obtain ⟨w1, h1, h2⟩ := bind_ok hf
  obtain ⟨g1, g2, g3, rfl⟩ := nwC_spec h1
  intro ad H locs ls hE hP hD hS hl
  refine va_newq (C := Cn) C.1 C.2.1 C.2.2.2.1 (C.2.2.2.2.1 _ hcl) ((C.2.2.2.2.2.2.2.2.2 ad hE).2.2.2.2.1 Cn hmem) C.2.2.2.2.2.1 hP hD hS C.2.2.2.2.2.2.2.2.1 hn hN hby hcs.1 hcs.2 hd (fun q cA H1 hK1 hP1 hD1 hS1 => ?_)
  have eA : cA = dA (.object Cn) := by
    obtain ⟨_, _, -, -, -, h5⟩ := (hK1.2 (tyL dA).length (cA, .object Cn) (by simp)).2
    obtain ⟨_, _, -, -, -, h6⟩ := (C.2.2.2.2.2.1.2 t0 _ (ht0 dA)).2
    exact Option.some.inj (h5.symm.trans h6)
  subst eA
  have hvs1 := hvs
  rw [← hvs1, List.all_append, Bool.and_eq_true] at g2
  have had : EA w.length ad (fun k => if k = w.length then q else ad k) := fun k hk => by
    have := g1.1
    rcases hk with hk | hk
    · exact if_neg (by omega)
    · exact if_neg (by omega)
  generalize hg : (fun k => if k = w.length then q else ad k) = ad' at had
  have hq : ad' w.length = q := by rw [← hg]; exact if_pos rfl
  have ew : wi dA ad w ++ [(q, .inl (dA (.object Cn), N, .inr (.inr (.inr (.inr (fun _ => none))))))] = wi dA ad' (w ++ [.inl (.object Cn, N, .inr (.inr (.inr (.inr (fun _ => none)))))]) := by
    rw [← wi_push, hq, wi_ext g1 had]; rfl
  have eL : L.map (fun q => (q.1, rv ad' q.2)) = L.map (fun q => (q.1, rv ad q.2)) := by
    apply List.map_congr_left
    intro z hz
    rw [rv_ext (List.all_eq_true.mp g2.1 _ (List.mem_map_of_mem hz)) had]
  have eS : (.ref w.length :: S).map (rv ad') = .ref q :: S.map (rv ad) := by
    show Value.ref (ad' w.length) :: S.map (rv ad') = _
    rw [hq, rvs_ext g2.2 had]
  have := k _ h2 ad' H1 locs ls (hEE w ad ad' g3 hE had) (by rw [← ew]; exact hP1) (by rw [← ew]; exact hD1) hS1 (by rw [eL]; exact hl)
  rw [eS] at this
  exact this
end JK
/-- a method's contract out of its body -/
theorem J_met {l : Launch} {D : va_G} {dA : FieldType → ClassId} {y : MethodName} {cc : ByteArray} {maxL : Nat} {ret : Option FieldType} {rm : Room} {as : List Value} {w w' : MW} {v : Option Value} {own : String} (hy : plainName y.cls = true) (ho : y.cls = own) (hlen : (lg_sl as).length ≤ maxL)
    (body : ∀ (p : Program) (e : Env) (s : State) (m : MethodId) (args : Array Value) (below : List Frame) (meth : Method) (c : Code) (A : Nat → Prop) (E : (Nat → Nat) → Prop), jcx p s m args meth c cc maxL own ret D dA A E → JW p l e rm s m args below meth c maxL D dA A E (MQ below (Qr D dA E v w' A) args s 0 0 A) 0 0 0 (lv_args 0 as) [] w) : CT l D dA y cc maxL ret rm as w v w' := by
  intro ad sz
  refine Met.ofW (cc := cc) (maxL := maxL) (ret := ret) hy rfl ?_
  intro p e s m args below meth c s₁ B hml hv
  obtain ⟨rfl, hsz, hP, hK, hD0, hSW⟩ := hv
  subst hsz
  have hD := hD0.self (sz := s.heap.size)
  have hown : s.vm.findClass own = some m.cls := ho ▸ findClass_of_methodNamed B.named
  have hts := atoms_spec (ws := .code y cc maxL ret :: GT) B.pre
  have hl := lv_entry (as.map (rv ad)) (n := maxL) (by rw [rv_slots]; exact hlen)
  rw [lg_entry_eq]
  rw [rv_args] at hl
  exact body p e s m _ below meth c (va_A (wi dA ad w) s.heap.size) (EN ad) ⟨B.exec, B.bytes, hml, hown, fun x hx => hts x (List.mem_cons_of_mem _ hx), hK, B.returns, B.notSynchronized, fun q h => Or.inr h, fun ad' h => by rw [show ad' = ad from h]; exact hSW⟩ ad s.heap [] _ rfl hP hD va_S.rf hl
theorem J_metA {l : Launch} {D : va_G} {dA : FieldType → ClassId} {y : MethodName} {cc : ByteArray} {maxL : Nat} {ret : Option FieldType} {rm : Room} {mc ms : Nat} {as : List Value} {w w' : MW} {v : Option Value} {own : String} (hy : plainName y.cls = true) (ho : y.cls = own) (hlen : (lg_sl as).length ≤ maxL)
    (body : ∀ (p : Program) (e : Env) (s : State) (m : MethodId) (args : Array Value) (below : List Frame) (meth : Method) (c : Code) (A : Nat → Prop) (E : (Nat → Nat) → Prop), jcx p s m args meth c cc maxL own ret D dA A E → meth.name = y.name → (∀ (w1 : MW) (ad ad' : Nat → Nat), w.length ≤ w1.length → E ad → EA w1.length ad ad' → E ad') → JW p l e rm s m args below meth c maxL D dA A E (MQ below (Qr D dA E v w' A) args s mc ms A) 0 0 0 (lv_args 0 as) [] w) : CA l D dA y cc maxL ret rm mc ms as w v w' := by
  intro ad sz
  refine Met.ofW (cc := cc) (maxL := maxL) (ret := ret) hy rfl ?_
  intro p e s m args below meth c s₁ B hml hv
  obtain ⟨rfl, hsz, hP, hK, hD0, hSW⟩ := hv
  subst hsz
  have hD := hD0.self (sz := s.heap.size)
  have hown : s.vm.findClass own = some m.cls := ho ▸ findClass_of_methodNamed B.named
  have hts := atoms_spec (ws := .code y cc maxL ret :: GT) B.pre
  have hl := lv_entry (as.map (rv ad)) (n := maxL) (by rw [rv_slots]; exact hlen)
  rw [lg_entry_eq]
  rw [rv_args] at hl
  exact body p e s m _ below meth c (va_A (wi dA ad w) s.heap.size) (EA w.length ad) ⟨B.exec, B.bytes, hml, hown, fun x hx => hts x (List.mem_cons_of_mem _ hx), hK, B.returns, B.notSynchronized, fun q h => Or.inr h, fun ad' h => hSW.ad (fun k hk => h k (Or.inr hk))⟩ (name_of_methodNamed B.named B.method).1 (fun w1 a1 a2 h1 h2 h3 k hk => (h3 k (hk.elim (fun h => Or.inl (Nat.lt_of_lt_of_le h h1)) Or.inr)).trans (h2 k hk)) ad s.heap [] _ (fun _ _ => rfl) hP hD va_S.rf hl
end
section
def zr (ty : FieldType) (x : Int32) : Option Int32 := if narrow ty (.int x) = .int x then some x else none
theorem zr_spec {ty : FieldType} {x z : Int32} (h : zr ty x = some z) : narrow ty (.int x) = .int x ∧ z = x := by
  unfold zr at h
  split at h
  · rename_i hc; cases h; exact ⟨hc, rfl⟩
  · cases h
def stL (b : Nat) : Option Int32 := if 10000 ≤ b ∧ b < 10013 then some (nI (sLn.getD (b - 10000) 0)) else none
def stC (b : Nat) (i : Int32) : Option Int32 := if 10000 ≤ b ∧ b < 10013 ∧ 0 ≤ i ∧ i.toNatClampNeg < sLn.getD (b - 10000) 0 then some ((sBy.getD (b - 10000) []).getD i.toNatClampNeg 0) else none
section JX
variable {p : Program} {l : Launch} {e : Env} {R : Room} {s : State} {m : MethodId} {args : Array Value} {below : List Frame} {meth : Method} {c : Code} {Q : State → Prop} {cells slots : Nat}
variable {cc : ByteArray} {nL : Nat} {own : String} {ret : Option FieldType} {D : va_G} {dA : FieldType → ClassId} {A : Nat → Prop} {E : (Nat → Nat) → Prop}
variable {pc : Nat} {L : List (Nat × Value)} {S : List Value} {w : MW} {ρ : Type} {r : ρ}
theorem J_storeL (C : jcx p s m args meth c cc nL own ret D dA A E) {n : Fin 4} {i : Nat} {v : Int32} (hd : decode cc pc = .ok (.istore_n n, 1)) (hi : (n : Nat) = i) (hn : i < nL) (L1 : List (Nat × Value)) (hL : lst i (.int v) L = L1) (k : JW p l e R s m args below meth c nL D dA A E Q cells slots (pc + 1) L1 S w) : JW p l e R s m args below meth c nL D dA A E Q cells slots pc L (.int v :: S) w := by
  subst hL
  exact fun ad H locs ls hE hP hD hS hl => lv_istore_n C.1 C.2.1 hd hi hl hn rfl (fun ls hl => k ad H locs ls hE hP hD hS (by rw [lvm_fil] at hl; exact hl))
theorem J_idivL (C : jcx p s m args meth c cc nL own ret D dA A E) {x y : Int32} (hd : decode cc pc = .ok (.idiv, 1)) (h : ¬ y = 0) (k : JW p l e R s m args below meth c nL D dA A E Q cells slots (pc + 1) L (.int (x / y) :: S) w) : JW p l e R s m args below meth c nL D dA A E Q cells slots pc L (.int y :: .int x :: S) w := fun ad H locs ls hE hP hD hS hl => lv_idiv C.1 C.2.1 hd h (k ad H locs ls hE hP hD hS hl)
theorem J_iremL (C : jcx p s m args meth c cc nL own ret D dA A E) {x y : Int32} (hd : decode cc pc = .ok (.irem, 1)) (h : ¬ y = 0) (k : JW p l e R s m args below meth c nL D dA A E Q cells slots (pc + 1) L (.int (x - x / y * y) :: S) w) : JW p l e R s m args below meth c nL D dA A E Q cells slots pc L (.int y :: .int x :: S) w := fun ad H locs ls hE hP hD hS hl => lv_irem C.1 C.2.1 hd h (k ad H locs ls hE hP hD hS hl)
theorem J_iincL (C : jcx p s m args meth c cc nL own ret D dA A E) {i : Nat} {n : Int} {x v : Int32} (hd : decode cc pc = .ok (.iinc i n, 3)) (j : Nat) (hj : L[j]? = some (i, .int x)) (hv : x + Int32.ofInt n = v) (hn : i < nL) (L1 : List (Nat × Value)) (hL : lst i (.int v) L = L1) (k : JW p l e R s m args below meth c nL D dA A E Q cells slots (pc + 3) L1 S w) : JW p l e R s m args below meth c nL D dA A E Q cells slots pc L S w := fun ad H locs ls hE hP hD hS hl => lv_iinc C.1 C.2.1 hd hl (k := j) (by rw [List.getElem?_map, hj]; rfl) hv hn rfl (fun ls hl => k ad H locs ls hE hP hD hS (by rw [← hL]; rw [lvm_fil] at hl; exact hl))
theorem J_gets (C : jcx p s m args meth c cc nL own ret D dA A E) {Cn n d : String} {index : Nat} {x : Value} (hd : decode cc pc = .ok (.getstatic index, 3)) (hZ : ∀ ad, E ad → va_Z Cn n d (rv ad x) A s s.heap) (hk : Cond.fieldLink own index Cn n d ∈ GT) (k : JW p l e R s m args below meth c nL D dA A E Q cells slots (pc + 3) L (x :: S) w) : JW p l e R s m args below meth c nL D dA A E Q cells slots pc L S w := fun ad H locs ls hE hP hD hS hl => va_gets C.1 C.2.1 (hZ ad hE) hS C.2.2.2.1 (C.2.2.2.2.1 _ hk) (fun _ h => h) hd (k ad H locs ls hE hP hD hS hl)
theorem J_sV (C : jcx p s m args meth c cc nL own ret D dA A E) {index : Nat} (i : Nat) (hi : i < 13) (hd : decode cc pc = .ok (.getfield index, 3)) (hk : Cond.fieldLink own index "java/lang/String" "value" "[B" ∈ GT) (k : JW p l e R s m args below meth c nL D dA A E Q cells slots (pc + 3) L (.ref (20000 + i) :: S) w) : JW p l e R s m args below meth c nL D dA A E Q cells slots pc L (.ref (10000 + i) :: S) w := fun ad H locs ls hE hP hD hS hl => vk_getf C.1 C.2.1 ((C.2.2.2.2.2.2.2.2.2 ad hE).2.2.1.1 i hi).2.2.1 hS C.2.2.2.1 (C.2.2.2.2.1 _ hk) (fun _ h => h) hd (k ad H locs ls hE hP hD hS hl)
theorem J_sC (C : jcx p s m args meth c cc nL own ret D dA A E) {index : Nat} (i : Nat) (hi : i < 13) (hd : decode cc pc = .ok (.getfield index, 3)) (hk : Cond.fieldLink own index "java/lang/String" "coder" "B" ∈ GT) (k : JW p l e R s m args below meth c nL D dA A E Q cells slots (pc + 3) L (.int 0 :: S) w) : JW p l e R s m args below meth c nL D dA A E Q cells slots pc L (.ref (10000 + i) :: S) w := fun ad H locs ls hE hP hD hS hl => vk_getf C.1 C.2.1 ((C.2.2.2.2.2.2.2.2.2 ad hE).2.2.1.1 i hi).2.1 hS C.2.2.2.1 (C.2.2.2.2.1 _ hk) (fun _ h => h) hd (k ad H locs ls hE hP hD hS hl)
theorem J_sL (C : jcx p s m args meth c cc nL own ret D dA A E) (i : Nat) (hi : i < 13) (hd : decode cc pc = .ok (.arraylength, 1)) (k : JW p l e R s m args below meth c nL D dA A E Q cells slots (pc + 1) L (.int (nI (sLn.getD i 0)) :: S) w) : JW p l e R s m args below meth c nL D dA A E Q cells slots pc L (.ref (20000 + i) :: S) w := fun ad H locs ls hE hP hD hS hl => va_tlen C.1 C.2.1 ((C.2.2.2.2.2.2.2.2.2 ad hE).2.2.1.1 i hi).2.2.2 hS rfl hd (k ad H locs ls hE hP hD hS hl)
theorem J_sB (C : jcx p s m args meth c cc nL own ret D dA A E) {x : Int32} (i : Nat) (hi : i < 13) (hx : vp_in x (sLn.getD i 0)) (hd : decode cc pc = .ok (.baload, 1)) (k : JW p l e R s m args below meth c nL D dA A E Q cells slots (pc + 1) L (.int ((sBy.getD i []).getD x.toNatClampNeg 0) :: S) w) : JW p l e R s m args below meth c nL D dA A E Q cells slots pc L (.int x :: .ref (20000 + i) :: S) w := fun ad H locs ls hE hP hD hS hl => va_tb C.1 C.2.1 ((C.2.2.2.2.2.2.2.2.2 ad hE).2.2.1.1 i hi).2.2.2 hS hx rfl hd (k ad H locs ls hE hP hD hS hl)
theorem J_cVS (C : jcx p s m args meth c cc nL own ret D dA A E) {y : MethodName} {bytes : ByteArray} {maxL index n : Nat} {ret' : Option FieldType} {rm : Room} {as : List Value} {v : Option Value} {Sc : List Value} (i : Nat) (hi : i < 13) (hd : decode cc pc = .ok (.invokevirtual index, 3)) (hM : CT l D dA y bytes maxL ret' rm (.ref (10000 + i) :: as) w v w) (hlk : Cond.methodLink own index y ∈ GT) (hco : Cond.code y bytes maxL ret' ∈ GT) (hini : Cond.initialized y.cls ∈ GT) (hins : Cond.instanceMethod y ∈ GT) (hsel : Cond.selects "java/lang/String" y y ∈ GT) (hy : y.cls ≠ "java/lang/invoke/MethodHandle" ∧ y.cls ≠ "java/lang/invoke/VarHandle" ∧ (parseMethodDescriptor y.desc).map (fun d => d.parameters.length) = some n) (hR : rm.frames + 1 ≤ R.frames ∧ 8 + (maxL + 11) + rm.locals ≤ R.locals) (hcs : cells ≤ R.cells ∧ slots ≤ R.slots) (hrm : rm.cells = 0 ∧ rm.slots = 0) (hn : as.length = n) (hst : Sc = as.reverse ++ .ref (10000 + i) :: S) (hW : ∀ ad, ((S.map (rv ad)).map fun v => v.category).sum ≤ 8) (k : JW p l e R s m args below meth c nL D dA A E Q cells slots (pc + 3) L (v.toList ++ S) w) : JW p l e R s m args below meth c nL D dA A E Q cells slots pc L Sc w := by
  refine J_run C (fun ad H locs ls hE hP hD hS hl => ⟨((.ref (10000 + i) :: as).map (rv ad)).toArray, ?_⟩) k
  exact va_runV (C := "java/lang/String") (b := ad (10000 + i)) (As := as.map (rv ad)) (rest := S.map (rv ad)) ⟨C.1, C.2.1, C.2.2.1, C.2.2.2.1, C.2.2.2.2.1⟩ (hM ad H.size) ⟨callB_of n C.2.2.2.2.1 (GT_in hco) rfl hrm.1 hrm.2 (C.2.2.2.2.1 _ hini) (C.2.2.2.2.1 _ hlk) hy hR, C.2.2.2.2.1 _ hins, C.2.2.2.2.1 _ hsel⟩ ⟨Pj_blind, vk_recv (adK := fun i => ad (10000 + i)) (i := i) (C.2.2.2.2.2.2.2.2.2 ad hE).2.2.1 hi hS, Pj_ok C (as := .ref (10000 + i) :: as) hE hP hD hS⟩ rfl (by rw [List.length_map]; exact hn) hl.1 (by subst hst; simp [rv]) (by show 2 * 0 + _ ≤ 8; have := hW ad; omega) hd ⟨hcs.1, hcs.2⟩
end JX
theorem str_ch : ∀ i, i < 13 → ∀ k, k < 5 → (i2cF ((sBy.getD i []).getD k 0 &&& 255) = (sBy.getD i []).getD k 0 ∧ narrow .char (.int ((sBy.getD i []).getD k 0)) = .int ((sBy.getD i []).getD k 0)) := by decide +kernel
theorem str_ln : ∀ i, i < 13 → sLn.getD i 0 ≤ 5 := by decide +kernel
abbrev rm00 : Room := { frames := 0, cells := 0, slots := 0, locals := 0 }
set_option maxRecDepth 100000 in
theorem cs_coder {l : Launch} {D : va_G} {dA : FieldType → ClassId} (w : MW) (i : Nat) (hi : i < 13) : CT l D dA yJ0_coder_7d493 cJ0_coder_7d493 1 (some .byte) rm00 [.ref (10000 + i)] w (some (.int 0)) w := by
  refine J_met (by decide) rfl (Nat.le_of_ble_eq_true rfl) (fun p e s m args below meth c A E C => ?_)
  refine J_sub [0] (L1 := [(0, .ref (10000 + i))]) rfl ?_
  refine J_gets (pc := 0) C dJ0_coder_7d493_0 (x := .int 1) (fun ad hE => (C.2.2.2.2.2.2.2.2.2 ad hE).2.2.2.1) (mGT 484 (by decide +kernel) (by decide)) ?_
  refine J_if_eq (ρ := Unit) (T := ()) (F := ()) (r := ()) (pc := 3) C dJ0_coder_7d493_3 (tgt := 13) (by decide) (by simp) (fun h _ => absurd h (by decide)) (fun _ _ => ?_)
  refine J_aload_n (pc := 6) C dJ0_coder_7d493_6 rfl 0 rfl ?_
  refine J_sC (pc := 7) C i hi dJ0_coder_7d493_7 (mGT 1460 (by decide +kernel) (by decide)) ?_
  refine J_goto (pc := 10) C dJ0_coder_7d493_10 (tgt := 14) (by decide) ?_
  exact J_iretP (pc := 14) C rfl (by decide) dJ0_coder_7d493_14 rfl
set_option maxRecDepth 100000 in
theorem cs_isLatin1 {l : Launch} {D : va_G} {dA : FieldType → ClassId} (w : MW) (i : Nat) (hi : i < 13) : CT l D dA yJ0_isLatin1_aae02 cJ0_isLatin1_aae02 1 (some .boolean) rm00 [.ref (10000 + i)] w (some (.int 1)) w := by
  refine J_met (by decide) rfl (Nat.le_of_ble_eq_true rfl) (fun p e s m args below meth c A E C => ?_)
  refine J_sub [0] (L1 := [(0, .ref (10000 + i))]) rfl ?_
  refine J_gets (pc := 0) C dJ0_isLatin1_aae02_0 (x := .int 1) (fun ad hE => (C.2.2.2.2.2.2.2.2.2 ad hE).2.2.2.1) (mGT 484 (by decide +kernel) (by decide)) ?_
  refine J_if_eq (ρ := Unit) (T := ()) (F := ()) (r := ()) (pc := 3) C dJ0_isLatin1_aae02_3 (tgt := 17) (by decide) (by simp) (fun h _ => absurd h (by decide)) (fun _ _ => ?_)
  refine J_aload_n (pc := 6) C dJ0_isLatin1_aae02_6 rfl 0 rfl ?_
  refine J_sC (pc := 7) C i hi dJ0_isLatin1_aae02_7 (mGT 1460 (by decide +kernel) (by decide)) ?_
  refine J_if_ne (ρ := Unit) (T := ()) (F := ()) (r := ()) (pc := 10) C dJ0_isLatin1_aae02_10 (tgt := 17) (by decide) (by simp) (fun h _ => absurd rfl h) (fun _ _ => ?_)
  refine J_iconst (pc := 13) C dJ0_isLatin1_aae02_13 (v := 1) (by decide) ?_
  refine J_goto (pc := 14) C dJ0_isLatin1_aae02_14 (tgt := 18) (by decide) ?_
  exact J_iretP (pc := 18) C rfl (by decide) dJ0_isLatin1_aae02_18 rfl
set_option maxRecDepth 100000 in
theorem cs_pre {l : Launch} {D : va_G} {dA : FieldType → ClassId} (w : MW) (a n : Int32) (x : Value) (hx : x.category = 1) (h1 : ¬ a < 0) (h2 : a < n) : CT l D dA yJ3_checkIndex_8e157 cJ3_checkIndex_8e157 3 (some .int) rm00 [.int a, .int n, x] w (some (.int a)) w := by
  refine J_met (by decide) rfl (by simp [lg_sl, hx, show (Value.int a).category = 1 from rfl, show (Value.int n).category = 1 from rfl]) (fun p e s m args below meth c A E C => ?_)
  refine J_sub [0, 1] (L1 := [(0, .int a), (1, .int n)]) rfl ?_
  refine J_iload_n (pc := 0) C dJ3_checkIndex_8e157_0 rfl 0 rfl ?_
  refine J_if_lt (ρ := Unit) (T := ()) (F := ()) (r := ()) (pc := 1) C dJ3_checkIndex_8e157_1 (tgt := 9) (by decide) (by simp) (fun h _ => absurd h h1) (fun _ _ => ?_)
  refine J_iload_n (pc := 4) C dJ3_checkIndex_8e157_4 rfl 0 rfl ?_
  refine J_iload_n (pc := 5) C dJ3_checkIndex_8e157_5 rfl 1 rfl ?_
  refine J_icmp_lt (ρ := Unit) (T := ()) (F := ()) (r := ()) (pc := 6) C dJ3_checkIndex_8e157_6 (tgt := 16) (by decide) (by simp) (fun _ _ => ?_) (fun h _ => absurd h2 h)
  refine J_iload_n (pc := 16) C dJ3_checkIndex_8e157_16 rfl 0 rfl ?_
  exact J_iretP (pc := 17) C rfl rfl dJ3_checkIndex_8e157_17 rfl
abbrev rm01 : Room := { frames := 1, cells := 0, slots := 0, locals := 22 }
set_option maxRecDepth 100000 in
theorem cs_chk {l : Launch} {D : va_G} {dA : FieldType → ClassId} (w : MW) (a n : Int32) (h1 : ¬ a < 0) (h2 : a < n) : CT l D dA yJ0_checkIndex_df160 cJ0_checkIndex_df160 2 none rm01 [.int a, .int n] w none w := by
  refine J_met (by decide) rfl (Nat.le_of_ble_eq_true rfl) (fun p e s m args below meth c A E C => ?_)
  refine J_sub [0, 1] (L1 := [(0, .int a), (1, .int n)]) rfl ?_
  refine J_iload_n (pc := 0) C dJ0_checkIndex_df160_0 rfl 0 rfl ?_
  refine J_iload_n (pc := 1) C dJ0_checkIndex_df160_1 rfl 1 rfl ?_
  have G : ∀ x : Value, x.category = 1 → (∀ ad, E ad → va_Z "jdk/internal/util/Preconditions" "SIOOBE_FORMATTER" "Ljava/util/function/BiFunction;" (rv ad x) A s s.heap) → JW p l e rm01 s m args below meth c 2 D dA A E (MQ below (Qr D dA E none w A) args s 0 0 A) 0 0 2 [(0, .int a), (1, .int n)] [.int n, .int a] w := by
    intro x hx hZ
    refine J_gets (pc := 2) C dJ0_checkIndex_df160_2 (x := x) hZ (mGT 500 (by decide +kernel) (by decide)) ?_
    refine J_cS (S := []) (n := 3) (pc := 5) C dJ0_checkIndex_df160_5 (cs_pre w a n x hx h1 h2) (mGT 502 (by decide +kernel) (by decide)) ⟨(mGT 504 (by decide +kernel) (by decide)), (mGT 92 (by decide +kernel) (by decide)), (mGT 503 (by decide +kernel) (by decide)), ⟨by decide, by decide, by decide +kernel⟩, ⟨rfl, rfl⟩⟩ ⟨Nat.le_of_ble_eq_true rfl, Nat.le_of_ble_eq_true rfl⟩ ⟨Nat.le_of_ble_eq_true rfl, Nat.le_of_ble_eq_true rfl⟩ rfl rfl (fun _ => Nat.le_of_ble_eq_true rfl) ?_
    refine J_pop (pc := 8) C dJ0_checkIndex_df160_8 rfl ?_
    exact J_vret (pc := 9) C rfl dJ0_checkIndex_df160_9 rfl
  by_cases hq : va_Z "jdk/internal/util/Preconditions" "SIOOBE_FORMATTER" "Ljava/util/function/BiFunction;" .null A s s.heap
  · exact G .null rfl (fun _ _ => hq)
  · exact G (.ref 30000) rfl (fun ad hE => ((C.2.2.2.2.2.2.2.2.2 ad hE).2.2.2.2.2).resolve_left hq)
abbrev rm02 : Room := { frames := 2, cells := 0, slots := 0, locals := 43 }
set_option maxRecDepth 100000 in
theorem cs_l1 {l : Launch} {D : va_G} {dA : FieldType → ClassId} (w : MW) (i k : Nat) (hi : i < 13) (hk : k < sLn.getD i 0) : CT l D dA yJ1_charAt_3b067 cJ1_charAt_3b067 2 (some .char) rm02 [.ref (20000 + i), .int (nI k)] w (some (.int ((sBy.getD i []).getD k 0))) w := by
  have hl := str_ln i hi
  have hc := str_ch i hi k (by omega)
  have ek : (nI k).toNatClampNeg = k := nI_clamp (by omega)
  refine J_met (by decide) rfl (Nat.le_of_ble_eq_true rfl) (fun p e s m args below meth c A E C => ?_)
  refine J_sub [0, 1] (L1 := [(0, .ref (20000 + i)), (1, .int (nI k))]) rfl ?_
  refine J_iload_n (pc := 0) C dJ1_charAt_3b067_0 rfl 1 rfl ?_
  refine J_aload_n (pc := 1) C dJ1_charAt_3b067_1 rfl 0 rfl ?_
  refine J_sL (pc := 2) C i hi dJ1_charAt_3b067_2 ?_
  refine J_cS (S := []) (n := 2) (pc := 3) C dJ1_charAt_3b067_3 (cs_chk w _ _ (nI_pos (by omega)) (nI_lt hk (by omega))) (mGT 497 (by decide +kernel) (by decide)) ⟨(mGT 499 (by decide +kernel) (by decide)), (mGT 90 (by decide +kernel) (by decide)), (mGT 498 (by decide +kernel) (by decide)), ⟨by decide, by decide, by decide +kernel⟩, ⟨rfl, rfl⟩⟩ ⟨Nat.le_of_ble_eq_true rfl, Nat.le_of_ble_eq_true rfl⟩ ⟨Nat.le_of_ble_eq_true rfl, Nat.le_of_ble_eq_true rfl⟩ rfl rfl (fun _ => Nat.le_of_ble_eq_true rfl) ?_
  refine J_aload_n (pc := 6) C dJ1_charAt_3b067_6 rfl 0 rfl ?_
  refine J_iload_n (pc := 7) C dJ1_charAt_3b067_7 rfl 1 rfl ?_
  refine J_sB (pc := 8) C i hi (vp_in_nI hk (by omega)) dJ1_charAt_3b067_8 ?_
  rw [ek]
  refine J_sipush (pc := 9) C dJ1_charAt_3b067_9 (v := 255) (by decide) ?_
  refine J_iand (pc := 12) C dJ1_charAt_3b067_12 ?_
  refine J_i2c (pc := 13) C dJ1_charAt_3b067_13 ?_
  rw [hc.1]
  exact J_iretP (pc := 14) C rfl hc.2 dJ1_charAt_3b067_14 rfl
abbrev rm03 : Room := { frames := 3, cells := 0, slots := 0, locals := 64 }
set_option maxRecDepth 100000 in
theorem cs_charAt {l : Launch} {D : va_G} {dA : FieldType → ClassId} (w : MW) (i k : Nat) (hi : i < 13) (hk : k < sLn.getD i 0) : CT l D dA yJ0_charAt_5068e cJ0_charAt_5068e 2 (some .char) rm03 [.ref (10000 + i), .int (nI k)] w (some (.int ((sBy.getD i []).getD k 0))) w := by
  have hl := str_ln i hi
  have hc := str_ch i hi k (by omega)
  refine J_met (by decide) rfl (Nat.le_of_ble_eq_true rfl) (fun p e s m args below meth c A E C => ?_)
  refine J_sub [0, 1] (L1 := [(0, .ref (10000 + i)), (1, .int (nI k))]) rfl ?_
  refine J_aload_n (pc := 0) C dJ0_charAt_5068e_0 rfl 0 rfl ?_
  refine J_cVS (S := []) (pc := 1) C i hi dJ0_charAt_5068e_1 (cs_isLatin1 w i hi) (mGT 490 (by decide +kernel) (by decide)) (mGT 493 (by decide +kernel) (by decide)) (mGT 90 (by decide +kernel) (by decide)) (mGT 491 (by decide +kernel) (by decide)) (mGT 492 (by decide +kernel) (by decide)) ⟨by decide, by decide, by decide +kernel⟩ ⟨Nat.le_of_ble_eq_true rfl, Nat.le_of_ble_eq_true rfl⟩ ⟨Nat.le_of_ble_eq_true rfl, Nat.le_of_ble_eq_true rfl⟩ ⟨rfl, rfl⟩ rfl rfl (fun _ => Nat.le_of_ble_eq_true rfl) ?_
  refine J_if_eq (ρ := Unit) (T := ()) (F := ()) (r := ()) (pc := 4) C dJ0_charAt_5068e_4 (tgt := 16) (by decide) (by simp) (fun h _ => absurd h (by decide)) (fun _ _ => ?_)
  refine J_aload_n (pc := 7) C dJ0_charAt_5068e_7 rfl 0 rfl ?_
  refine J_sV (pc := 8) C i hi dJ0_charAt_5068e_8 (mGT 1459 (by decide +kernel) (by decide)) ?_
  refine J_iload_n (pc := 11) C dJ0_charAt_5068e_11 rfl 1 rfl ?_
  refine J_cS (S := []) (n := 2) (pc := 12) C dJ0_charAt_5068e_12 (cs_l1 w i k hi hk) (mGT 494 (by decide +kernel) (by decide)) ⟨(mGT 496 (by decide +kernel) (by decide)), (mGT 91 (by decide +kernel) (by decide)), (mGT 495 (by decide +kernel) (by decide)), ⟨by decide, by decide, by decide +kernel⟩, ⟨rfl, rfl⟩⟩ ⟨Nat.le_of_ble_eq_true rfl, Nat.le_of_ble_eq_true rfl⟩ ⟨Nat.le_of_ble_eq_true rfl, Nat.le_of_ble_eq_true rfl⟩ rfl rfl (fun _ => Nat.le_of_ble_eq_true rfl) ?_
  exact J_iretP (pc := 15) C rfl hc.2 dJ0_charAt_5068e_15 rfl
abbrev rm04 : Room := { frames := 1, cells := 0, slots := 0, locals := 20 }
set_option maxRecDepth 100000 in
theorem cs_length {l : Launch} {D : va_G} {dA : FieldType → ClassId} (w : MW) (i : Nat) (hi : i < 13) : CT l D dA yJ0_length_8abf5 cJ0_length_8abf5 1 (some .int) rm04 [.ref (10000 + i)] w (some (.int (nI (sLn.getD i 0)))) w := by
  have hl := str_ln i hi
  refine J_met (by decide) rfl (Nat.le_of_ble_eq_true rfl) (fun p e s m args below meth c A E C => ?_)
  refine J_sub [0] (L1 := [(0, .ref (10000 + i))]) rfl ?_
  refine J_aload_n (pc := 0) C dJ0_length_8abf5_0 rfl 0 rfl ?_
  refine J_sV (pc := 1) C i hi dJ0_length_8abf5_1 (mGT 1459 (by decide +kernel) (by decide)) ?_
  refine J_sL (pc := 4) C i hi dJ0_length_8abf5_4 ?_
  refine J_aload_n (pc := 5) C dJ0_length_8abf5_5 rfl 0 rfl ?_
  refine J_cVS (S := [.int (nI (sLn.getD i 0))]) (pc := 6) C i hi dJ0_length_8abf5_6 (cs_coder w i hi) (mGT 480 (by decide +kernel) (by decide)) (mGT 483 (by decide +kernel) (by decide)) (mGT 90 (by decide +kernel) (by decide)) (mGT 481 (by decide +kernel) (by decide)) (mGT 482 (by decide +kernel) (by decide)) ⟨by decide, by decide, by decide +kernel⟩ ⟨Nat.le_of_ble_eq_true rfl, Nat.le_of_ble_eq_true rfl⟩ ⟨Nat.le_of_ble_eq_true rfl, Nat.le_of_ble_eq_true rfl⟩ ⟨rfl, rfl⟩ rfl rfl (fun _ => Nat.le_of_ble_eq_true rfl) ?_
  refine J_ishr (pc := 9) C dJ0_length_8abf5_9 ?_
  rw [sc_shr0 (by omega)]
  exact J_iretP (pc := 10) C rfl rfl dJ0_length_8abf5_10 rfl
section JY
variable {p : Program} {l : Launch} {e : Env} {R : Room} {s : State} {m : MethodId} {args : Array Value} {below : List Frame} {meth : Method} {c : Code} {Q : State → Prop} {cells slots : Nat}
variable {cc : ByteArray} {nL : Nat} {own : String} {ret : Option FieldType} {D : va_G} {dA : FieldType → ClassId} {A : Nat → Prop} {E : (Nat → Nat) → Prop}
variable {pc : Nat} {L : List (Nat × Value)} {S : List Value} {w : MW} {ρ : Type} {r : ρ}
theorem J_stL (C : jcx p s m args meth c cc nL own ret D dA A E) {index b : Nat} {K : Int32 → Option ρ} (hd : decode cc pc = .ok (.invokevirtual index, 3)) (hlk : Cond.methodLink own index yJ0_length_8abf5 ∈ GT) (hR : 6 ≤ R.frames ∧ 153 ≤ R.locals) (hcs : cells ≤ R.cells ∧ slots ≤ R.slots) (hW : ∀ ad, ((S.map (rv ad)).map fun v => v.category).sum ≤ 8) (hf : (stL b).bind K = some r) (k : ∀ v, K v = some r → JW p l e R s m args below meth c nL D dA A E Q cells slots (pc + 3) L (.int v :: S) w) : JW p l e R s m args below meth c nL D dA A E Q cells slots pc L (.ref b :: S) w := by
  obtain ⟨v, h1, h2⟩ := bind_ok hf
  unfold stL at h1
  split at h1
  · rename_i hb
    obtain ⟨i, rfl⟩ : ∃ i, b = 10000 + i := ⟨b - 10000, by omega⟩
    rw [Nat.add_sub_cancel_left] at h1
    have e1 := Option.some.inj h1
    rw [← e1] at h2
    exact J_cVS (S := S) (as := []) C i (by omega) hd (cs_length w i (by omega)) hlk (mGT 479 (by decide +kernel) (by decide)) (mGT 90 (by decide +kernel) (by decide)) (mGT 477 (by decide +kernel) (by decide)) (mGT 478 (by decide +kernel) (by decide)) ⟨by decide, by decide, by decide +kernel⟩ ⟨by show 1 + 1 ≤ _; omega, by show 8 + (1 + 11) + 20 ≤ _; omega⟩ hcs ⟨rfl, rfl⟩ rfl rfl hW (k _ h2)
  · cases h1
theorem J_stC (C : jcx p s m args meth c cc nL own ret D dA A E) {index b : Nat} {i : Int32} {K : Int32 → Option ρ} (hd : decode cc pc = .ok (.invokevirtual index, 3)) (hlk : Cond.methodLink own index yJ0_charAt_5068e ∈ GT) (hR : 6 ≤ R.frames ∧ 153 ≤ R.locals) (hcs : cells ≤ R.cells ∧ slots ≤ R.slots) (hW : ∀ ad, ((S.map (rv ad)).map fun v => v.category).sum ≤ 8) (hf : (stC b i).bind K = some r) (k : ∀ v, K v = some r → JW p l e R s m args below meth c nL D dA A E Q cells slots (pc + 3) L (.int v :: S) w) : JW p l e R s m args below meth c nL D dA A E Q cells slots pc L (.int i :: .ref b :: S) w := by
  obtain ⟨v, h1, h2⟩ := bind_ok hf
  unfold stC at h1
  split at h1
  · rename_i hb
    obtain ⟨j, rfl⟩ : ∃ j, b = 10000 + j := ⟨b - 10000, by omega⟩
    rw [Nat.add_sub_cancel_left] at hb h1
    obtain ⟨q, hq, rfl⟩ := nI_of (Int32.not_lt.mpr hb.2.2.1)
    rw [nI_clamp hq] at hb h1
    have e1 := Option.some.inj h1
    rw [← e1] at h2
    exact J_cVS (S := S) (as := [.int (nI q)]) (n := 1) C j (by omega) hd (cs_charAt w j q (by omega) hb.2.2.2) hlk (mGT 489 (by decide +kernel) (by decide)) (mGT 90 (by decide +kernel) (by decide)) (mGT 487 (by decide +kernel) (by decide)) (mGT 488 (by decide +kernel) (by decide)) ⟨by decide, by decide, by decide +kernel⟩ ⟨by show 3 + 1 ≤ _; omega, by show 8 + (2 + 11) + 64 ≤ _; omega⟩ hcs ⟨rfl, rfl⟩ rfl rfl hW (k _ h2)
  · cases h1
end JY
theorem J_metI {l : Launch} {D : va_G} {dA : FieldType → ClassId} {y : MethodName} {cc : ByteArray} {maxL : Nat} {ret : Option FieldType} {rm : Room} {as : List Value} {w w' : MW} {v : Option Value} {own : String} (hy : plainName y.cls = true) (ho : y.cls = own) (hlen : (lg_sl as).length ≤ maxL)
    (body : ∀ (p : Program) (e : Env) (s : State) (m : MethodId) (args : Array Value) (below : List Frame) (meth : Method) (c : Code) (A : Nat → Prop) (E : (Nat → Nat) → Prop), jcx p s m args meth c cc maxL own ret D dA A E → meth.name = y.name → JW p l e rm s m args below meth c maxL D dA A E (MQ below (Qr D dA E v w' A) args s 0 0 A) 0 0 0 (lv_args 0 as) [] w) : CT l D dA y cc maxL ret rm as w v w' := by
  intro ad sz
  refine Met.ofW (cc := cc) (maxL := maxL) (ret := ret) hy rfl ?_
  intro p e s m args below meth c s₁ B hml hv
  obtain ⟨rfl, hsz, hP, hK, hD0, hSW⟩ := hv
  subst hsz
  have hD := hD0.self (sz := s.heap.size)
  have hown : s.vm.findClass own = some m.cls := ho ▸ findClass_of_methodNamed B.named
  have hts := atoms_spec (ws := .code y cc maxL ret :: GT) B.pre
  have hl := lv_entry (as.map (rv ad)) (n := maxL) (by rw [rv_slots]; exact hlen)
  rw [lg_entry_eq]
  rw [rv_args] at hl
  exact body p e s m _ below meth c (va_A (wi dA ad w) s.heap.size) (EN ad) ⟨B.exec, B.bytes, hml, hown, fun x hx => hts x (List.mem_cons_of_mem _ hx), hK, B.returns, B.notSynchronized, fun q h => Or.inr h, fun ad' h => by rw [show ad' = ad from h]; exact hSW⟩ (name_of_methodNamed B.named B.method).1 ad s.heap [] _ rfl hP hD va_S.rf hl
end
