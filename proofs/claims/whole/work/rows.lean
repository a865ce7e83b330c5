section
-- ===== PART A: goes FIRST, ahead of the names: the tables' words, and 'selects' of the private methods out of them =====
/-- a private method of a class that the tables say can be made, by its rows of tables_1 -/
def lw_okq (q : MethodName × Nat) : Prop := (q.1.cls ≠ "java/lang/invoke/MethodHandle" ∧ q.1.cls ≠ "java/lang/invoke/VarHandle") ∧ Cond.instantiable q.1.cls q.2 ∈ tables_1 ∧ Cond.privateMethod q.1 ∈ tables_1 ∧ Cond.instanceMethod q.1 ∈ tables_1
theorem lw_p0 : lw_okq (⟨"MeltingHeaps$Script", "advance", "()V"⟩, 9) := ⟨⟨by decide +kernel, by decide +kernel⟩, List.mem_of_getElem? (i := 220) (by decide +kernel), List.mem_of_getElem? (i := 364) (by decide +kernel), List.mem_of_getElem? (i := 365) (by decide +kernel)⟩
theorem lw_p1 : lw_okq (⟨"MeltingHeaps$Script", "readWord", "()V"⟩, 9) := ⟨⟨by decide +kernel, by decide +kernel⟩, List.mem_of_getElem? (i := 220) (by decide +kernel), List.mem_of_getElem? (i := 378) (by decide +kernel), List.mem_of_getElem? (i := 379) (by decide +kernel)⟩
theorem lw_p2 : lw_okq (⟨"MeltingHeaps$Script", "readNumber", "()V"⟩, 9) := ⟨⟨by decide +kernel, by decide +kernel⟩, List.mem_of_getElem? (i := 220) (by decide +kernel), List.mem_of_getElem? (i := 385) (by decide +kernel), List.mem_of_getElem? (i := 386) (by decide +kernel)⟩
theorem lw_p3 : lw_okq (⟨"MeltingHeaps$Script", "doLine", "()V"⟩, 9) := ⟨⟨by decide +kernel, by decide +kernel⟩, List.mem_of_getElem? (i := 220) (by decide +kernel), List.mem_of_getElem? (i := 389) (by decide +kernel), List.mem_of_getElem? (i := 390) (by decide +kernel)⟩
theorem lw_p4 : lw_okq (⟨"MeltingHeaps$Script", "lineHere", "()I"⟩, 9) := ⟨⟨by decide +kernel, by decide +kernel⟩, List.mem_of_getElem? (i := 220) (by decide +kernel), List.mem_of_getElem? (i := 393) (by decide +kernel), List.mem_of_getElem? (i := 394) (by decide +kernel)⟩
theorem lw_p5 : lw_okq (⟨"MeltingHeaps$Script", "spells", "(Ljava/lang/String;)Z"⟩, 9) := ⟨⟨by decide +kernel, by decide +kernel⟩, List.mem_of_getElem? (i := 220) (by decide +kernel), List.mem_of_getElem? (i := 398) (by decide +kernel), List.mem_of_getElem? (i := 399) (by decide +kernel)⟩
theorem lw_p6 : lw_okq (⟨"MeltingHeaps$Script", "fail", "(II)V"⟩, 9) := ⟨⟨by decide +kernel, by decide +kernel⟩, List.mem_of_getElem? (i := 220) (by decide +kernel), List.mem_of_getElem? (i := 456) (by decide +kernel), List.mem_of_getElem? (i := 457) (by decide +kernel)⟩
theorem lw_p7 : lw_okq (⟨"MeltingHeaps$Script", "takeArgument", "(C)I"⟩, 9) := ⟨⟨by decide +kernel, by decide +kernel⟩, List.mem_of_getElem? (i := 220) (by decide +kernel), List.mem_of_getElem? (i := 469) (by decide +kernel), List.mem_of_getElem? (i := 470) (by decide +kernel)⟩
theorem lw_p8 : lw_okq (⟨"MeltingHeaps$Script", "takeNumber", "(I)I"⟩, 9) := ⟨⟨by decide +kernel, by decide +kernel⟩, List.mem_of_getElem? (i := 220) (by decide +kernel), List.mem_of_getElem? (i := 473) (by decide +kernel), List.mem_of_getElem? (i := 474) (by decide +kernel)⟩
theorem lw_p9 : lw_okq (⟨"MeltingHeaps$Script", "putItem", "(I)V"⟩, 9) := ⟨⟨by decide +kernel, by decide +kernel⟩, List.mem_of_getElem? (i := 220) (by decide +kernel), List.mem_of_getElem? (i := 477) (by decide +kernel), List.mem_of_getElem? (i := 478) (by decide +kernel)⟩
theorem lw_p10 : lw_okq (⟨"MeltingHeaps$Script", "act", "(I)I"⟩, 9) := ⟨⟨by decide +kernel, by decide +kernel⟩, List.mem_of_getElem? (i := 220) (by decide +kernel), List.mem_of_getElem? (i := 513) (by decide +kernel), List.mem_of_getElem? (i := 514) (by decide +kernel)⟩
theorem lw_p11 : lw_okq (⟨"MeltingHeaps$Weave", "endRun", "(I)V"⟩, 5) := ⟨⟨by decide +kernel, by decide +kernel⟩, List.mem_of_getElem? (i := 72) (by decide +kernel), List.mem_of_getElem? (i := 566) (by decide +kernel), List.mem_of_getElem? (i := 567) (by decide +kernel)⟩
theorem lw_p12 : lw_okq (⟨"MeltingHeaps$Tree", "addKey", "(I)V"⟩, 9) := ⟨⟨by decide +kernel, by decide +kernel⟩, List.mem_of_getElem? (i := 37) (by decide +kernel), List.mem_of_getElem? (i := 688) (by decide +kernel), List.mem_of_getElem? (i := 689) (by decide +kernel)⟩
theorem lw_p13 : lw_okq (⟨"MeltingHeaps$Tree", "link", "()V"⟩, 9) := ⟨⟨by decide +kernel, by decide +kernel⟩, List.mem_of_getElem? (i := 37) (by decide +kernel), List.mem_of_getElem? (i := 692) (by decide +kernel), List.mem_of_getElem? (i := 693) (by decide +kernel)⟩
theorem lw_p14 : lw_okq (⟨"MeltingHeaps$Tree", "climb", "()V"⟩, 9) := ⟨⟨by decide +kernel, by decide +kernel⟩, List.mem_of_getElem? (i := 37) (by decide +kernel), List.mem_of_getElem? (i := 701) (by decide +kernel), List.mem_of_getElem? (i := 702) (by decide +kernel)⟩
theorem lw_p15 : lw_okq (⟨"MeltingHeaps$Tree", "isNode", "(I)Z"⟩, 9) := ⟨⟨by decide +kernel, by decide +kernel⟩, List.mem_of_getElem? (i := 37) (by decide +kernel), List.mem_of_getElem? (i := 709) (by decide +kernel), List.mem_of_getElem? (i := 710) (by decide +kernel)⟩
def lw_privs_1 : List (MethodName × Nat) := [(⟨"MeltingHeaps$Script", "advance", "()V"⟩, 9), (⟨"MeltingHeaps$Script", "readWord", "()V"⟩, 9), (⟨"MeltingHeaps$Script", "readNumber", "()V"⟩, 9), (⟨"MeltingHeaps$Script", "doLine", "()V"⟩, 9), (⟨"MeltingHeaps$Script", "lineHere", "()I"⟩, 9), (⟨"MeltingHeaps$Script", "spells", "(Ljava/lang/String;)Z"⟩, 9), (⟨"MeltingHeaps$Script", "fail", "(II)V"⟩, 9), (⟨"MeltingHeaps$Script", "takeArgument", "(C)I"⟩, 9), (⟨"MeltingHeaps$Script", "takeNumber", "(I)I"⟩, 9), (⟨"MeltingHeaps$Script", "putItem", "(I)V"⟩, 9), (⟨"MeltingHeaps$Script", "act", "(I)I"⟩, 9), (⟨"MeltingHeaps$Weave", "endRun", "(I)V"⟩, 5), (⟨"MeltingHeaps$Tree", "addKey", "(I)V"⟩, 9), (⟨"MeltingHeaps$Tree", "link", "()V"⟩, 9), (⟨"MeltingHeaps$Tree", "climb", "()V"⟩, 9), (⟨"MeltingHeaps$Tree", "isNode", "(I)Z"⟩, 9)]
theorem lw_r1 : ∀ q ∈ lw_privs_1, lw_okq q := List.forall_mem_cons.mpr ⟨lw_p0, List.forall_mem_cons.mpr ⟨lw_p1, List.forall_mem_cons.mpr ⟨lw_p2, List.forall_mem_cons.mpr ⟨lw_p3, List.forall_mem_cons.mpr ⟨lw_p4, List.forall_mem_cons.mpr ⟨lw_p5, List.forall_mem_cons.mpr ⟨lw_p6, List.forall_mem_cons.mpr ⟨lw_p7, List.forall_mem_cons.mpr ⟨lw_p8, List.forall_mem_cons.mpr ⟨lw_p9, List.forall_mem_cons.mpr ⟨lw_p10, List.forall_mem_cons.mpr ⟨lw_p11, List.forall_mem_cons.mpr ⟨lw_p12, List.forall_mem_cons.mpr ⟨lw_p13, List.forall_mem_cons.mpr ⟨lw_p14, List.forall_mem_cons.mpr ⟨lw_p15, fun _ h => absurd h List.not_mem_nil⟩⟩⟩⟩⟩⟩⟩⟩⟩⟩⟩⟩⟩⟩⟩⟩
theorem lw_p16 : lw_okq (⟨"MeltingHeaps$Tree", "keyOf", "(I)I"⟩, 9) := ⟨⟨by decide +kernel, by decide +kernel⟩, List.mem_of_getElem? (i := 37) (by decide +kernel), List.mem_of_getElem? (i := 743) (by decide +kernel), List.mem_of_getElem? (i := 744) (by decide +kernel)⟩
theorem lw_p17 : lw_okq (⟨"MeltingHeaps$Store", "lightest", "(I)I"⟩, 8) := ⟨⟨by decide +kernel, by decide +kernel⟩, List.mem_of_getElem? (i := 29) (by decide +kernel), List.mem_of_getElem? (i := 843) (by decide +kernel), List.mem_of_getElem? (i := 844) (by decide +kernel)⟩
theorem lw_p18 : lw_okq (⟨"MeltingHeaps$Store", "takeIfCheaper", "(II)V"⟩, 8) := ⟨⟨by decide +kernel, by decide +kernel⟩, List.mem_of_getElem? (i := 29) (by decide +kernel), List.mem_of_getElem? (i := 866) (by decide +kernel), List.mem_of_getElem? (i := 867) (by decide +kernel)⟩
theorem lw_p19 : lw_okq (⟨"MeltingHeapsModel", "empties", "(I)V"⟩, 27) := ⟨⟨by decide +kernel, by decide +kernel⟩, List.mem_of_getElem? (i := 919) (by decide +kernel), List.mem_of_getElem? (i := 925) (by decide +kernel), List.mem_of_getElem? (i := 926) (by decide +kernel)⟩
theorem lw_p20 : lw_okq (⟨"MeltingHeapsModel", "refusesPut", "(II)I"⟩, 27) := ⟨⟨by decide +kernel, by decide +kernel⟩, List.mem_of_getElem? (i := 919) (by decide +kernel), List.mem_of_getElem? (i := 1016) (by decide +kernel), List.mem_of_getElem? (i := 1017) (by decide +kernel)⟩
theorem lw_p21 : lw_okq (⟨"MeltingHeapsModel", "placeOf", "(II)I"⟩, 27) := ⟨⟨by decide +kernel, by decide +kernel⟩, List.mem_of_getElem? (i := 919) (by decide +kernel), List.mem_of_getElem? (i := 1029) (by decide +kernel), List.mem_of_getElem? (i := 1030) (by decide +kernel)⟩
theorem lw_p22 : lw_okq (⟨"MeltingHeapsModel", "below", "(II)I"⟩, 27) := ⟨⟨by decide +kernel, by decide +kernel⟩, List.mem_of_getElem? (i := 919) (by decide +kernel), List.mem_of_getElem? (i := 1033) (by decide +kernel), List.mem_of_getElem? (i := 1034) (by decide +kernel)⟩
theorem lw_p23 : lw_okq (⟨"MeltingHeapsModel", "many", "(I)I"⟩, 27) := ⟨⟨by decide +kernel, by decide +kernel⟩, List.mem_of_getElem? (i := 919) (by decide +kernel), List.mem_of_getElem? (i := 1037) (by decide +kernel), List.mem_of_getElem? (i := 1038) (by decide +kernel)⟩
theorem lw_p24 : lw_okq (⟨"MeltingHeapsModel", "keyAt", "(II)I"⟩, 27) := ⟨⟨by decide +kernel, by decide +kernel⟩, List.mem_of_getElem? (i := 919) (by decide +kernel), List.mem_of_getElem? (i := 1041) (by decide +kernel), List.mem_of_getElem? (i := 1042) (by decide +kernel)⟩
theorem lw_p25 : lw_okq (⟨"MeltingHeapsModel", "total", "()I"⟩, 27) := ⟨⟨by decide +kernel, by decide +kernel⟩, List.mem_of_getElem? (i := 919) (by decide +kernel), List.mem_of_getElem? (i := 1045) (by decide +kernel), List.mem_of_getElem? (i := 1046) (by decide +kernel)⟩
theorem lw_p26 : lw_okq (⟨"MeltingHeapsModel", "begins", "(I)I"⟩, 27) := ⟨⟨by decide +kernel, by decide +kernel⟩, List.mem_of_getElem? (i := 919) (by decide +kernel), List.mem_of_getElem? (i := 1049) (by decide +kernel), List.mem_of_getElem? (i := 1050) (by decide +kernel)⟩
theorem lw_p27 : lw_okq (⟨"MeltingHeapsModel", "keeps", "()V"⟩, 27) := ⟨⟨by decide +kernel, by decide +kernel⟩, List.mem_of_getElem? (i := 919) (by decide +kernel), List.mem_of_getElem? (i := 1053) (by decide +kernel), List.mem_of_getElem? (i := 1054) (by decide +kernel)⟩
theorem lw_p28 : lw_okq (⟨"MeltingHeapsModel", "copies", "(III)V"⟩, 27) := ⟨⟨by decide +kernel, by decide +kernel⟩, List.mem_of_getElem? (i := 919) (by decide +kernel), List.mem_of_getElem? (i := 1057) (by decide +kernel), List.mem_of_getElem? (i := 1058) (by decide +kernel)⟩
theorem lw_p29 : lw_okq (⟨"MeltingHeapsModel", "puts", "(III)V"⟩, 27) := ⟨⟨by decide +kernel, by decide +kernel⟩, List.mem_of_getElem? (i := 919) (by decide +kernel), List.mem_of_getElem? (i := 1061) (by decide +kernel), List.mem_of_getElem? (i := 1062) (by decide +kernel)⟩
theorem lw_p30 : lw_okq (⟨"MeltingHeapsModel", "points", "(II)V"⟩, 27) := ⟨⟨by decide +kernel, by decide +kernel⟩, List.mem_of_getElem? (i := 919) (by decide +kernel), List.mem_of_getElem? (i := 1065) (by decide +kernel), List.mem_of_getElem? (i := 1066) (by decide +kernel)⟩
theorem lw_p31 : lw_okq (⟨"MeltingHeapsModel", "drops", "(II)V"⟩, 27) := ⟨⟨by decide +kernel, by decide +kernel⟩, List.mem_of_getElem? (i := 919) (by decide +kernel), List.mem_of_getElem? (i := 1073) (by decide +kernel), List.mem_of_getElem? (i := 1074) (by decide +kernel)⟩
def lw_privs_2 : List (MethodName × Nat) := [(⟨"MeltingHeaps$Tree", "keyOf", "(I)I"⟩, 9), (⟨"MeltingHeaps$Store", "lightest", "(I)I"⟩, 8), (⟨"MeltingHeaps$Store", "takeIfCheaper", "(II)V"⟩, 8), (⟨"MeltingHeapsModel", "empties", "(I)V"⟩, 27), (⟨"MeltingHeapsModel", "refusesPut", "(II)I"⟩, 27), (⟨"MeltingHeapsModel", "placeOf", "(II)I"⟩, 27), (⟨"MeltingHeapsModel", "below", "(II)I"⟩, 27), (⟨"MeltingHeapsModel", "many", "(I)I"⟩, 27), (⟨"MeltingHeapsModel", "keyAt", "(II)I"⟩, 27), (⟨"MeltingHeapsModel", "total", "()I"⟩, 27), (⟨"MeltingHeapsModel", "begins", "(I)I"⟩, 27), (⟨"MeltingHeapsModel", "keeps", "()V"⟩, 27), (⟨"MeltingHeapsModel", "copies", "(III)V"⟩, 27), (⟨"MeltingHeapsModel", "puts", "(III)V"⟩, 27), (⟨"MeltingHeapsModel", "points", "(II)V"⟩, 27), (⟨"MeltingHeapsModel", "drops", "(II)V"⟩, 27)]
theorem lw_r2 : ∀ q ∈ lw_privs_2, lw_okq q := List.forall_mem_cons.mpr ⟨lw_p16, List.forall_mem_cons.mpr ⟨lw_p17, List.forall_mem_cons.mpr ⟨lw_p18, List.forall_mem_cons.mpr ⟨lw_p19, List.forall_mem_cons.mpr ⟨lw_p20, List.forall_mem_cons.mpr ⟨lw_p21, List.forall_mem_cons.mpr ⟨lw_p22, List.forall_mem_cons.mpr ⟨lw_p23, List.forall_mem_cons.mpr ⟨lw_p24, List.forall_mem_cons.mpr ⟨lw_p25, List.forall_mem_cons.mpr ⟨lw_p26, List.forall_mem_cons.mpr ⟨lw_p27, List.forall_mem_cons.mpr ⟨lw_p28, List.forall_mem_cons.mpr ⟨lw_p29, List.forall_mem_cons.mpr ⟨lw_p30, List.forall_mem_cons.mpr ⟨lw_p31, fun _ h => absurd h List.not_mem_nil⟩⟩⟩⟩⟩⟩⟩⟩⟩⟩⟩⟩⟩⟩⟩⟩
theorem lw_p32 : lw_okq (⟨"MeltingHeapsModel", "refusesCut", "(III)I"⟩, 27) := ⟨⟨by decide +kernel, by decide +kernel⟩, List.mem_of_getElem? (i := 919) (by decide +kernel), List.mem_of_getElem? (i := 1081) (by decide +kernel), List.mem_of_getElem? (i := 1082) (by decide +kernel)⟩
theorem lw_p33 : lw_okq (⟨"MeltingHeapsModel", "areTwo", "(II)Z"⟩, 27) := ⟨⟨by decide +kernel, by decide +kernel⟩, List.mem_of_getElem? (i := 919) (by decide +kernel), List.mem_of_getElem? (i := 1085) (by decide +kernel), List.mem_of_getElem? (i := 1086) (by decide +kernel)⟩
theorem lw_p34 : lw_okq (⟨"MeltingHeapsModel", "counted", "(III)I"⟩, 27) := ⟨⟨by decide +kernel, by decide +kernel⟩, List.mem_of_getElem? (i := 919) (by decide +kernel), List.mem_of_getElem? (i := 1089) (by decide +kernel), List.mem_of_getElem? (i := 1090) (by decide +kernel)⟩
theorem lw_p35 : lw_okq (⟨"MeltingHeapsModel", "goOver", "(IIII)I"⟩, 27) := ⟨⟨by decide +kernel, by decide +kernel⟩, List.mem_of_getElem? (i := 919) (by decide +kernel), List.mem_of_getElem? (i := 1093) (by decide +kernel), List.mem_of_getElem? (i := 1094) (by decide +kernel)⟩
theorem lw_p36 : lw_okq (⟨"MeltingHeapsModel", "markAt", "(II)I"⟩, 27) := ⟨⟨by decide +kernel, by decide +kernel⟩, List.mem_of_getElem? (i := 919) (by decide +kernel), List.mem_of_getElem? (i := 1097) (by decide +kernel), List.mem_of_getElem? (i := 1098) (by decide +kernel)⟩
theorem lw_p37 : lw_okq (⟨"MeltingHeapsModel", "refusesJoin", "(II)I"⟩, 27) := ⟨⟨by decide +kernel, by decide +kernel⟩, List.mem_of_getElem? (i := 919) (by decide +kernel), List.mem_of_getElem? (i := 1105) (by decide +kernel), List.mem_of_getElem? (i := 1106) (by decide +kernel)⟩
theorem lw_p38 : lw_okq (⟨"MeltingHeapsModel", "refusesMelt", "(II)I"⟩, 27) := ⟨⟨by decide +kernel, by decide +kernel⟩, List.mem_of_getElem? (i := 919) (by decide +kernel), List.mem_of_getElem? (i := 1113) (by decide +kernel), List.mem_of_getElem? (i := 1114) (by decide +kernel)⟩
theorem lw_p39 : lw_okq (⟨"MeltingHeapsModel", "twins", "(II)I"⟩, 27) := ⟨⟨by decide +kernel, by decide +kernel⟩, List.mem_of_getElem? (i := 919) (by decide +kernel), List.mem_of_getElem? (i := 1117) (by decide +kernel), List.mem_of_getElem? (i := 1118) (by decide +kernel)⟩
theorem lw_p40 : lw_okq (⟨"MeltingHeapsModel", "laysRuns", "(II)V"⟩, 27) := ⟨⟨by decide +kernel, by decide +kernel⟩, List.mem_of_getElem? (i := 919) (by decide +kernel), List.mem_of_getElem? (i := 1121) (by decide +kernel), List.mem_of_getElem? (i := 1122) (by decide +kernel)⟩
theorem lw_p41 : lw_okq (⟨"MeltingHeapsModel", "goes", "(I)V"⟩, 27) := ⟨⟨by decide +kernel, by decide +kernel⟩, List.mem_of_getElem? (i := 919) (by decide +kernel), List.mem_of_getElem? (i := 1125) (by decide +kernel), List.mem_of_getElem? (i := 1126) (by decide +kernel)⟩
theorem lw_p42 : lw_okq (⟨"MeltingHeapsModel", "endsRun", "()V"⟩, 27) := ⟨⟨by decide +kernel, by decide +kernel⟩, List.mem_of_getElem? (i := 919) (by decide +kernel), List.mem_of_getElem? (i := 1129) (by decide +kernel), List.mem_of_getElem? (i := 1130) (by decide +kernel)⟩
theorem lw_p43 : lw_okq (⟨"MeltingHeapsModel", "refusesShift", "(II)I"⟩, 27) := ⟨⟨by decide +kernel, by decide +kernel⟩, List.mem_of_getElem? (i := 919) (by decide +kernel), List.mem_of_getElem? (i := 1137) (by decide +kernel), List.mem_of_getElem? (i := 1138) (by decide +kernel)⟩
theorem lw_p44 : lw_okq (⟨"MeltingHeapsModel", "shifts", "(II)V"⟩, 27) := ⟨⟨by decide +kernel, by decide +kernel⟩, List.mem_of_getElem? (i := 919) (by decide +kernel), List.mem_of_getElem? (i := 1141) (by decide +kernel), List.mem_of_getElem? (i := 1142) (by decide +kernel)⟩
theorem lw_p45 : lw_okq (⟨"MeltingHeapsModel", "finger", "(I)I"⟩, 27) := ⟨⟨by decide +kernel, by decide +kernel⟩, List.mem_of_getElem? (i := 919) (by decide +kernel), List.mem_of_getElem? (i := 1145) (by decide +kernel), List.mem_of_getElem? (i := 1146) (by decide +kernel)⟩
theorem lw_p46 : lw_okq (⟨"MeltingHeapsModel", "refusesMove", "(IIII)I"⟩, 27) := ⟨⟨by decide +kernel, by decide +kernel⟩, List.mem_of_getElem? (i := 919) (by decide +kernel), List.mem_of_getElem? (i := 1153) (by decide +kernel), List.mem_of_getElem? (i := 1154) (by decide +kernel)⟩
theorem lw_p47 : lw_okq (⟨"MeltingHeapsModel", "refusesMark", "(IIII)I"⟩, 27) := ⟨⟨by decide +kernel, by decide +kernel⟩, List.mem_of_getElem? (i := 919) (by decide +kernel), List.mem_of_getElem? (i := 1161) (by decide +kernel), List.mem_of_getElem? (i := 1162) (by decide +kernel)⟩
def lw_privs_3 : List (MethodName × Nat) := [(⟨"MeltingHeapsModel", "refusesCut", "(III)I"⟩, 27), (⟨"MeltingHeapsModel", "areTwo", "(II)Z"⟩, 27), (⟨"MeltingHeapsModel", "counted", "(III)I"⟩, 27), (⟨"MeltingHeapsModel", "goOver", "(IIII)I"⟩, 27), (⟨"MeltingHeapsModel", "markAt", "(II)I"⟩, 27), (⟨"MeltingHeapsModel", "refusesJoin", "(II)I"⟩, 27), (⟨"MeltingHeapsModel", "refusesMelt", "(II)I"⟩, 27), (⟨"MeltingHeapsModel", "twins", "(II)I"⟩, 27), (⟨"MeltingHeapsModel", "laysRuns", "(II)V"⟩, 27), (⟨"MeltingHeapsModel", "goes", "(I)V"⟩, 27), (⟨"MeltingHeapsModel", "endsRun", "()V"⟩, 27), (⟨"MeltingHeapsModel", "refusesShift", "(II)I"⟩, 27), (⟨"MeltingHeapsModel", "shifts", "(II)V"⟩, 27), (⟨"MeltingHeapsModel", "finger", "(I)I"⟩, 27), (⟨"MeltingHeapsModel", "refusesMove", "(IIII)I"⟩, 27), (⟨"MeltingHeapsModel", "refusesMark", "(IIII)I"⟩, 27)]
theorem lw_r3 : ∀ q ∈ lw_privs_3, lw_okq q := List.forall_mem_cons.mpr ⟨lw_p32, List.forall_mem_cons.mpr ⟨lw_p33, List.forall_mem_cons.mpr ⟨lw_p34, List.forall_mem_cons.mpr ⟨lw_p35, List.forall_mem_cons.mpr ⟨lw_p36, List.forall_mem_cons.mpr ⟨lw_p37, List.forall_mem_cons.mpr ⟨lw_p38, List.forall_mem_cons.mpr ⟨lw_p39, List.forall_mem_cons.mpr ⟨lw_p40, List.forall_mem_cons.mpr ⟨lw_p41, List.forall_mem_cons.mpr ⟨lw_p42, List.forall_mem_cons.mpr ⟨lw_p43, List.forall_mem_cons.mpr ⟨lw_p44, List.forall_mem_cons.mpr ⟨lw_p45, List.forall_mem_cons.mpr ⟨lw_p46, List.forall_mem_cons.mpr ⟨lw_p47, fun _ h => absurd h List.not_mem_nil⟩⟩⟩⟩⟩⟩⟩⟩⟩⟩⟩⟩⟩⟩⟩⟩
theorem lw_p48 : lw_okq (⟨"MeltingHeapsModel", "marked", "(IIIIZ)I"⟩, 27) := ⟨⟨by decide +kernel, by decide +kernel⟩, List.mem_of_getElem? (i := 919) (by decide +kernel), List.mem_of_getElem? (i := 1165) (by decide +kernel), List.mem_of_getElem? (i := 1166) (by decide +kernel)⟩
theorem lw_p49 : lw_okq (⟨"MeltingHeapsModel", "laysRow", "(I)V"⟩, 27) := ⟨⟨by decide +kernel, by decide +kernel⟩, List.mem_of_getElem? (i := 919) (by decide +kernel), List.mem_of_getElem? (i := 1173) (by decide +kernel), List.mem_of_getElem? (i := 1174) (by decide +kernel)⟩
theorem lw_p50 : lw_okq (⟨"MeltingHeapsModel", "farOf", "(II)I"⟩, 27) := ⟨⟨by decide +kernel, by decide +kernel⟩, List.mem_of_getElem? (i := 919) (by decide +kernel), List.mem_of_getElem? (i := 1177) (by decide +kernel), List.mem_of_getElem? (i := 1178) (by decide +kernel)⟩
theorem lw_p51 : lw_okq (⟨"MeltingHeapsModel", "depth", "(I)I"⟩, 27) := ⟨⟨by decide +kernel, by decide +kernel⟩, List.mem_of_getElem? (i := 919) (by decide +kernel), List.mem_of_getElem? (i := 1181) (by decide +kernel), List.mem_of_getElem? (i := 1182) (by decide +kernel)⟩
theorem lw_p52 : lw_okq (⟨"MeltingHeapsModel", "goesTo", "(I)V"⟩, 27) := ⟨⟨by decide +kernel, by decide +kernel⟩, List.mem_of_getElem? (i := 919) (by decide +kernel), List.mem_of_getElem? (i := 1185) (by decide +kernel), List.mem_of_getElem? (i := 1186) (by decide +kernel)⟩
theorem lw_p53 : lw_okq (⟨"MeltingHeapsModel", "ahead", "(II)I"⟩, 27) := ⟨⟨by decide +kernel, by decide +kernel⟩, List.mem_of_getElem? (i := 919) (by decide +kernel), List.mem_of_getElem? (i := 1189) (by decide +kernel), List.mem_of_getElem? (i := 1190) (by decide +kernel)⟩
theorem lw_p54 : lw_okq (⟨"MeltingHeapsModel", "high", "()I"⟩, 27) := ⟨⟨by decide +kernel, by decide +kernel⟩, List.mem_of_getElem? (i := 919) (by decide +kernel), List.mem_of_getElem? (i := 1206) (by decide +kernel), List.mem_of_getElem? (i := 1207) (by decide +kernel)⟩
theorem lw_p55 : lw_okq (⟨"MeltingHeapsModel", "summed", "(II)I"⟩, 27) := ⟨⟨by decide +kernel, by decide +kernel⟩, List.mem_of_getElem? (i := 919) (by decide +kernel), List.mem_of_getElem? (i := 1210) (by decide +kernel), List.mem_of_getElem? (i := 1211) (by decide +kernel)⟩
theorem lw_p56 : lw_okq (⟨"MeltingHeapsModel", "keyOf", "(I)I"⟩, 27) := ⟨⟨by decide +kernel, by decide +kernel⟩, List.mem_of_getElem? (i := 919) (by decide +kernel), List.mem_of_getElem? (i := 1222) (by decide +kernel), List.mem_of_getElem? (i := 1223) (by decide +kernel)⟩
theorem lw_p57 : lw_okq (⟨"MeltingHeapsModel", "unlike", "()I"⟩, 27) := ⟨⟨by decide +kernel, by decide +kernel⟩, List.mem_of_getElem? (i := 919) (by decide +kernel), List.mem_of_getElem? (i := 1242) (by decide +kernel), List.mem_of_getElem? (i := 1243) (by decide +kernel)⟩
theorem lw_p58 : lw_okq (⟨"MeltingHeapsModel", "huffman", "()I"⟩, 27) := ⟨⟨by decide +kernel, by decide +kernel⟩, List.mem_of_getElem? (i := 919) (by decide +kernel), List.mem_of_getElem? (i := 1247) (by decide +kernel), List.mem_of_getElem? (i := 1248) (by decide +kernel)⟩
theorem lw_p59 : lw_okq (⟨"MeltingHeapsModel", "fewest", "(I)I"⟩, 27) := ⟨⟨by decide +kernel, by decide +kernel⟩, List.mem_of_getElem? (i := 919) (by decide +kernel), List.mem_of_getElem? (i := 1251) (by decide +kernel), List.mem_of_getElem? (i := 1252) (by decide +kernel)⟩
theorem lw_p60 : lw_okq (⟨"MeltingHeapsModel", "tells", "(I)V"⟩, 27) := ⟨⟨by decide +kernel, by decide +kernel⟩, List.mem_of_getElem? (i := 919) (by decide +kernel), List.mem_of_getElem? (i := 1279) (by decide +kernel), List.mem_of_getElem? (i := 1280) (by decide +kernel)⟩
theorem lw_p61 : lw_okq (⟨"MeltingHeapsModel", "number", "(I)V"⟩, 27) := ⟨⟨by decide +kernel, by decide +kernel⟩, List.mem_of_getElem? (i := 919) (by decide +kernel), List.mem_of_getElem? (i := 1283) (by decide +kernel), List.mem_of_getElem? (i := 1284) (by decide +kernel)⟩
theorem lw_p62 : lw_okq (⟨"MeltingHeapsModel", "takes", "()V"⟩, 27) := ⟨⟨by decide +kernel, by decide +kernel⟩, List.mem_of_getElem? (i := 919) (by decide +kernel), List.mem_of_getElem? (i := 1307) (by decide +kernel), List.mem_of_getElem? (i := 1308) (by decide +kernel)⟩
theorem lw_p63 : lw_okq (⟨"MeltingHeapsModel", "byteAt", "(I)I"⟩, 27) := ⟨⟨by decide +kernel, by decide +kernel⟩, List.mem_of_getElem? (i := 919) (by decide +kernel), List.mem_of_getElem? (i := 1311) (by decide +kernel), List.mem_of_getElem? (i := 1312) (by decide +kernel)⟩
def lw_privs_4 : List (MethodName × Nat) := [(⟨"MeltingHeapsModel", "marked", "(IIIIZ)I"⟩, 27), (⟨"MeltingHeapsModel", "laysRow", "(I)V"⟩, 27), (⟨"MeltingHeapsModel", "farOf", "(II)I"⟩, 27), (⟨"MeltingHeapsModel", "depth", "(I)I"⟩, 27), (⟨"MeltingHeapsModel", "goesTo", "(I)V"⟩, 27), (⟨"MeltingHeapsModel", "ahead", "(II)I"⟩, 27), (⟨"MeltingHeapsModel", "high", "()I"⟩, 27), (⟨"MeltingHeapsModel", "summed", "(II)I"⟩, 27), (⟨"MeltingHeapsModel", "keyOf", "(I)I"⟩, 27), (⟨"MeltingHeapsModel", "unlike", "()I"⟩, 27), (⟨"MeltingHeapsModel", "huffman", "()I"⟩, 27), (⟨"MeltingHeapsModel", "fewest", "(I)I"⟩, 27), (⟨"MeltingHeapsModel", "tells", "(I)V"⟩, 27), (⟨"MeltingHeapsModel", "number", "(I)V"⟩, 27), (⟨"MeltingHeapsModel", "takes", "()V"⟩, 27), (⟨"MeltingHeapsModel", "byteAt", "(I)I"⟩, 27)]
theorem lw_r4 : ∀ q ∈ lw_privs_4, lw_okq q := List.forall_mem_cons.mpr ⟨lw_p48, List.forall_mem_cons.mpr ⟨lw_p49, List.forall_mem_cons.mpr ⟨lw_p50, List.forall_mem_cons.mpr ⟨lw_p51, List.forall_mem_cons.mpr ⟨lw_p52, List.forall_mem_cons.mpr ⟨lw_p53, List.forall_mem_cons.mpr ⟨lw_p54, List.forall_mem_cons.mpr ⟨lw_p55, List.forall_mem_cons.mpr ⟨lw_p56, List.forall_mem_cons.mpr ⟨lw_p57, List.forall_mem_cons.mpr ⟨lw_p58, List.forall_mem_cons.mpr ⟨lw_p59, List.forall_mem_cons.mpr ⟨lw_p60, List.forall_mem_cons.mpr ⟨lw_p61, List.forall_mem_cons.mpr ⟨lw_p62, List.forall_mem_cons.mpr ⟨lw_p63, fun _ h => absurd h List.not_mem_nil⟩⟩⟩⟩⟩⟩⟩⟩⟩⟩⟩⟩⟩⟩⟩⟩
theorem lw_p64 : lw_okq (⟨"MeltingHeapsModel", "isGood", "()Z"⟩, 27) := ⟨⟨by decide +kernel, by decide +kernel⟩, List.mem_of_getElem? (i := 919) (by decide +kernel), List.mem_of_getElem? (i := 1326) (by decide +kernel), List.mem_of_getElem? (i := 1327) (by decide +kernel)⟩
theorem lw_p65 : lw_okq (⟨"MeltingHeapsModel", "readsLine", "()V"⟩, 27) := ⟨⟨by decide +kernel, by decide +kernel⟩, List.mem_of_getElem? (i := 919) (by decide +kernel), List.mem_of_getElem? (i := 1330) (by decide +kernel), List.mem_of_getElem? (i := 1331) (by decide +kernel)⟩
theorem lw_p66 : lw_okq (⟨"MeltingHeapsModel", "hasWord", "(J)Z"⟩, 27) := ⟨⟨by decide +kernel, by decide +kernel⟩, List.mem_of_getElem? (i := 919) (by decide +kernel), List.mem_of_getElem? (i := 1335) (by decide +kernel), List.mem_of_getElem? (i := 1336) (by decide +kernel)⟩
theorem lw_p67 : lw_okq (⟨"MeltingHeapsModel", "readsSet", "()V"⟩, 27) := ⟨⟨by decide +kernel, by decide +kernel⟩, List.mem_of_getElem? (i := 919) (by decide +kernel), List.mem_of_getElem? (i := 1339) (by decide +kernel), List.mem_of_getElem? (i := 1340) (by decide +kernel)⟩
theorem lw_p68 : lw_okq (⟨"MeltingHeapsModel", "setNumber", "()I"⟩, 27) := ⟨⟨by decide +kernel, by decide +kernel⟩, List.mem_of_getElem? (i := 919) (by decide +kernel), List.mem_of_getElem? (i := 1343) (by decide +kernel), List.mem_of_getElem? (i := 1344) (by decide +kernel)⟩
theorem lw_p69 : lw_okq (⟨"MeltingHeapsModel", "numeral", "()I"⟩, 27) := ⟨⟨by decide +kernel, by decide +kernel⟩, List.mem_of_getElem? (i := 919) (by decide +kernel), List.mem_of_getElem? (i := 1347) (by decide +kernel), List.mem_of_getElem? (i := 1348) (by decide +kernel)⟩
theorem lw_p70 : lw_okq (⟨"MeltingHeapsModel", "fails", "(II)V"⟩, 27) := ⟨⟨by decide +kernel, by decide +kernel⟩, List.mem_of_getElem? (i := 919) (by decide +kernel), List.mem_of_getElem? (i := 1351) (by decide +kernel), List.mem_of_getElem? (i := 1352) (by decide +kernel)⟩
theorem lw_p71 : lw_okq (⟨"MeltingHeapsModel", "readsKeys", "(I)V"⟩, 27) := ⟨⟨by decide +kernel, by decide +kernel⟩, List.mem_of_getElem? (i := 919) (by decide +kernel), List.mem_of_getElem? (i := 1355) (by decide +kernel), List.mem_of_getElem? (i := 1356) (by decide +kernel)⟩
theorem lw_p72 : lw_okq (⟨"MeltingHeapsModel", "hasSign", "(I)Z"⟩, 27) := ⟨⟨by decide +kernel, by decide +kernel⟩, List.mem_of_getElem? (i := 919) (by decide +kernel), List.mem_of_getElem? (i := 1359) (by decide +kernel), List.mem_of_getElem? (i := 1360) (by decide +kernel)⟩
theorem lw_p73 : lw_okq (⟨"MeltingHeapsModel", "ends", "()V"⟩, 27) := ⟨⟨by decide +kernel, by decide +kernel⟩, List.mem_of_getElem? (i := 919) (by decide +kernel), List.mem_of_getElem? (i := 1363) (by decide +kernel), List.mem_of_getElem? (i := 1364) (by decide +kernel)⟩
theorem lw_p74 : lw_okq (⟨"MeltingHeapsModel", "readsAct", "(J)I"⟩, 27) := ⟨⟨by decide +kernel, by decide +kernel⟩, List.mem_of_getElem? (i := 919) (by decide +kernel), List.mem_of_getElem? (i := 1373) (by decide +kernel), List.mem_of_getElem? (i := 1374) (by decide +kernel)⟩
def lw_privs_5 : List (MethodName × Nat) := [(⟨"MeltingHeapsModel", "isGood", "()Z"⟩, 27), (⟨"MeltingHeapsModel", "readsLine", "()V"⟩, 27), (⟨"MeltingHeapsModel", "hasWord", "(J)Z"⟩, 27), (⟨"MeltingHeapsModel", "readsSet", "()V"⟩, 27), (⟨"MeltingHeapsModel", "setNumber", "()I"⟩, 27), (⟨"MeltingHeapsModel", "numeral", "()I"⟩, 27), (⟨"MeltingHeapsModel", "fails", "(II)V"⟩, 27), (⟨"MeltingHeapsModel", "readsKeys", "(I)V"⟩, 27), (⟨"MeltingHeapsModel", "hasSign", "(I)Z"⟩, 27), (⟨"MeltingHeapsModel", "ends", "()V"⟩, 27), (⟨"MeltingHeapsModel", "readsAct", "(J)I"⟩, 27)]
theorem lw_r5 : ∀ q ∈ lw_privs_5, lw_okq q := List.forall_mem_cons.mpr ⟨lw_p64, List.forall_mem_cons.mpr ⟨lw_p65, List.forall_mem_cons.mpr ⟨lw_p66, List.forall_mem_cons.mpr ⟨lw_p67, List.forall_mem_cons.mpr ⟨lw_p68, List.forall_mem_cons.mpr ⟨lw_p69, List.forall_mem_cons.mpr ⟨lw_p70, List.forall_mem_cons.mpr ⟨lw_p71, List.forall_mem_cons.mpr ⟨lw_p72, List.forall_mem_cons.mpr ⟨lw_p73, List.forall_mem_cons.mpr ⟨lw_p74, fun _ h => absurd h List.not_mem_nil⟩⟩⟩⟩⟩⟩⟩⟩⟩⟩⟩
def lw_privs : List (MethodName × Nat) := lw_privs_1 ++ (lw_privs_2 ++ (lw_privs_3 ++ (lw_privs_4 ++ (lw_privs_5))))
def lw_tbl : List Cond := k2_sels lw_privs ++ tables_1
theorem lw_privs_ok : ∀ q ∈ lw_privs, lw_okq q := by
  show ∀ q ∈ lw_privs_1 ++ (lw_privs_2 ++ (lw_privs_3 ++ (lw_privs_4 ++ (lw_privs_5)))), lw_okq q
  exact List.forall_mem_append.mpr ⟨lw_r1, List.forall_mem_append.mpr ⟨lw_r2, List.forall_mem_append.mpr ⟨lw_r3, List.forall_mem_append.mpr ⟨lw_r4, lw_r5⟩⟩⟩⟩
def RX0 : String := "MeltingHeaps$Heap"
def TX0 : u_T := fun k => match k with
  | 0 => ("MeltingHeaps$Heap", "entries", "[I", true)
  | 1 => ("MeltingHeaps$Heap", "size", "I", false)
  | _ => ("MeltingHeaps$Heap", "finger", "I", false)
def tyX0 : Nat → FieldType := fun k => match k with
  | 0 => .array .int
  | 1 => .int
  | _ => .int
abbrev wsX00 : List Cond := u_ws RX0 TX0 3
theorem nmX0 : ∀ a, a < 3 → ∀ b, b < 3 → a ≠ b → (TX0 a).2.1 ≠ (TX0 b).2.1 := by decide +kernel
theorem tyX0_ok : ∀ k, k < 3 → parseFieldDescriptor (TX0 k).2.2.1 = some (tyX0 k) := by decide +kernel
abbrev cX0_init : ByteArray := prog_2_method_1_code
def yX0_init : MethodName := ⟨RX0, "<init>", "()V"⟩
abbrev cX0_empty : ByteArray := prog_2_method_2_code
def yX0_empty : MethodName := ⟨RX0, "empty", "()V"⟩
abbrev cX0_keyAt : ByteArray := prog_2_method_3_code
def yX0_keyAt : MethodName := ⟨RX0, "keyAt", "(I)I"⟩
abbrev cX0_markAt : ByteArray := prog_2_method_4_code
def yX0_markAt : MethodName := ⟨RX0, "markAt", "(I)I"⟩
abbrev cX0_below : ByteArray := prog_2_method_5_code
def yX0_below : MethodName := ⟨RX0, "below", "(I)I"⟩
abbrev cX0_notAbove : ByteArray := prog_2_method_6_code
def yX0_notAbove : MethodName := ⟨RX0, "notAbove", "(I)I"⟩
abbrev cX0_rankOf : ByteArray := prog_2_method_7_code
def yX0_rankOf : MethodName := ⟨RX0, "rankOf", "(I)I"⟩
abbrev cX0_howManyBetween : ByteArray := prog_2_method_8_code
def yX0_howManyBetween : MethodName := ⟨RX0, "howManyBetween", "(II)I"⟩
abbrev cX0_markedBetween : ByteArray := prog_2_method_9_code
def yX0_markedBetween : MethodName := ⟨RX0, "markedBetween", "(II)I"⟩
abbrev cX0_leastDifference : ByteArray := prog_2_method_10_code
def yX0_leastDifference : MethodName := ⟨RX0, "leastDifference", "()I"⟩
abbrev cX0_stretches : ByteArray := prog_2_method_11_code
def yX0_stretches : MethodName := ⟨RX0, "stretches", "()I"⟩
abbrev cX0_sum : ByteArray := prog_2_method_12_code
def yX0_sum : MethodName := ⟨RX0, "sum", "()I"⟩
abbrev cX0_lastToldWith : ByteArray := prog_2_method_13_code
def yX0_lastToldWith : MethodName := ⟨RX0, "lastToldWith", "(I)I"⟩
abbrev cX0_openGap : ByteArray := prog_2_method_14_code
def yX0_openGap : MethodName := ⟨RX0, "openGap", "(II)Z"⟩
abbrev cX0_closeGap : ByteArray := prog_2_method_15_code
def yX0_closeGap : MethodName := ⟨RX0, "closeGap", "(II)V"⟩
abbrev cX0_insert : ByteArray := prog_2_method_16_code
def yX0_insert : MethodName := ⟨RX0, "insert", "(I)I"⟩
abbrev cX0_giveStretch : ByteArray := prog_2_method_17_code
def yX0_giveStretch : MethodName := ⟨RX0, "giveStretch", "(IILMeltingHeaps$Heap;)V"⟩
abbrev cX0_absorb : ByteArray := prog_2_method_18_code
def yX0_absorb : MethodName := ⟨RX0, "absorb", "(LMeltingHeaps$Heap;I)V"⟩
abbrev cX0_shiftAll : ByteArray := prog_2_method_19_code
def yX0_shiftAll : MethodName := ⟨RX0, "shiftAll", "(I)V"⟩
abbrev cX0_markBetween : ByteArray := prog_2_method_20_code
def yX0_markBetween : MethodName := ⟨RX0, "markBetween", "(III)I"⟩
def RX1 : String := "MeltingHeaps$Image"
def TX1 : u_T := fun k => match k with
  | 0 => ("MeltingHeaps$Image", "heaps", "LMeltingHeaps$Snapshot;", true)
  | 1 => ("MeltingHeaps$Image", "tape", "LMeltingHeaps$Row;", true)
  | 2 => ("MeltingHeaps$Image", "told", "LMeltingHeaps$Row;", true)
  | 3 => ("MeltingHeaps$Image", "taken", "Z", false)
  | 4 => ("MeltingHeaps$Image", "faultKind", "I", false)
  | _ => ("MeltingHeaps$Image", "faultPlace", "I", false)
def tyX1 : Nat → FieldType := fun k => match k with
  | 0 => .object "MeltingHeaps$Snapshot"
  | 1 => .object "MeltingHeaps$Row"
  | 2 => .object "MeltingHeaps$Row"
  | 3 => .boolean
  | 4 => .int
  | _ => .int
abbrev wsX10 : List Cond := u_ws RX1 TX1 6
theorem nmX1 : ∀ a, a < 6 → ∀ b, b < 6 → a ≠ b → (TX1 a).2.1 ≠ (TX1 b).2.1 := by decide +kernel
theorem tyX1_ok : ∀ k, k < 6 → parseFieldDescriptor (TX1 k).2.2.1 = some (tyX1 k) := by decide +kernel
abbrev cX1_init : ByteArray := prog_3_method_1_code
def yX1_init : MethodName := ⟨RX1, "<init>", "()V"⟩
def RX2 : String := "MeltingHeaps$Parade"
def TX2 : u_T := fun k => match k with
  | 0 => ("MeltingHeaps$Parade", "heaps", "[LMeltingHeaps$Heap;", true)
  | _ => ("MeltingHeaps$Parade", "heads", "[I", true)
def tyX2 : Nat → FieldType := fun k => match k with
  | 0 => .array (.object "MeltingHeaps$Heap")
  | _ => .array .int
abbrev wsX20 : List Cond := u_ws RX2 TX2 2
theorem nmX2 : ∀ a, a < 2 → ∀ b, b < 2 → a ≠ b → (TX2 a).2.1 ≠ (TX2 b).2.1 := by decide +kernel
theorem tyX2_ok : ∀ k, k < 2 → parseFieldDescriptor (TX2 k).2.2.1 = some (tyX2 k) := by decide +kernel
abbrev cX2_init : ByteArray := prog_4_method_1_code
def yX2_init : MethodName := ⟨RX2, "<init>", "([LMeltingHeaps$Heap;)V"⟩
abbrev cX2_begin : ByteArray := prog_4_method_2_code
def yX2_begin : MethodName := ⟨RX2, "begin", "()V"⟩
abbrev cX2_next : ByteArray := prog_4_method_3_code
def yX2_next : MethodName := ⟨RX2, "next", "()I"⟩
def RX3 : String := "MeltingHeaps$Past"
def TX3 : u_T := fun k => match k with
  | 0 => ("MeltingHeaps$Past", "rows", "[LMeltingHeaps$Snapshot;", true)
  | 1 => ("MeltingHeaps$Past", "next", "I", false)
  | _ => ("MeltingHeaps$Past", "held", "I", false)
def tyX3 : Nat → FieldType := fun k => match k with
  | 0 => .array (.object "MeltingHeaps$Snapshot")
  | 1 => .int
  | _ => .int
abbrev wsX30 : List Cond := u_ws RX3 TX3 3
theorem nmX3 : ∀ a, a < 3 → ∀ b, b < 3 → a ≠ b → (TX3 a).2.1 ≠ (TX3 b).2.1 := by decide +kernel
theorem tyX3_ok : ∀ k, k < 3 → parseFieldDescriptor (TX3 k).2.2.1 = some (tyX3 k) := by decide +kernel
abbrev cX3_init : ByteArray := prog_5_method_1_code
def yX3_init : MethodName := ⟨RX3, "<init>", "()V"⟩
abbrev cX3_prepare : ByteArray := prog_5_method_2_code
def yX3_prepare : MethodName := ⟨RX3, "prepare", "(LMeltingHeaps$Store;)V"⟩
abbrev cX3_settle : ByteArray := prog_5_method_3_code
def yX3_settle : MethodName := ⟨RX3, "settle", "(I)I"⟩
abbrev cX3_stepBack : ByteArray := prog_5_method_4_code
def yX3_stepBack : MethodName := ⟨RX3, "stepBack", "(LMeltingHeaps$Store;)V"⟩
abbrev cX3_forget : ByteArray := prog_5_method_5_code
def yX3_forget : MethodName := ⟨RX3, "forget", "()V"⟩
def RX4 : String := "MeltingHeaps$Row"
def TX4 : u_T := fun k => match k with
  | 0 => ("MeltingHeaps$Row", "bytes", "[B", true)
  | _ => ("MeltingHeaps$Row", "length", "I", false)
def tyX4 : Nat → FieldType := fun k => match k with
  | 0 => .array .byte
  | _ => .int
abbrev wsX40 : List Cond := u_ws RX4 TX4 2
theorem nmX4 : ∀ a, a < 2 → ∀ b, b < 2 → a ≠ b → (TX4 a).2.1 ≠ (TX4 b).2.1 := by decide +kernel
theorem tyX4_ok : ∀ k, k < 2 → parseFieldDescriptor (TX4 k).2.2.1 = some (tyX4 k) := by decide +kernel
abbrev cX4_init : ByteArray := prog_6_method_1_code
def yX4_init : MethodName := ⟨RX4, "<init>", "([B)V"⟩
abbrev cX4_byteAt : ByteArray := prog_6_method_2_code
def yX4_byteAt : MethodName := ⟨RX4, "byteAt", "(I)I"⟩
abbrev cX4_add : ByteArray := prog_6_method_3_code
def yX4_add : MethodName := ⟨RX4, "add", "(I)V"⟩
abbrev cX4_addFour : ByteArray := prog_6_method_4_code
def yX4_addFour : MethodName := ⟨RX4, "addFour", "(I)V"⟩
abbrev cX4_addNumber : ByteArray := prog_6_method_5_code
def yX4_addNumber : MethodName := ⟨RX4, "addNumber", "(I)V"⟩
abbrev cX4_copy : ByteArray := prog_6_method_6_code
def yX4_copy : MethodName := ⟨RX4, "copy", "(LMeltingHeaps$Row;)V"⟩
def RX5 : String := "MeltingHeaps$Script"
def TX5 : u_T := fun k => match k with
  | 0 => ("MeltingHeaps$Script", "tape", "LMeltingHeaps$Row;", true)
  | 1 => ("MeltingHeaps$Script", "store", "LMeltingHeaps$Store;", true)
  | 2 => ("MeltingHeaps$Script", "numbers", "[I", true)
  | 3 => ("MeltingHeaps$Script", "at", "I", false)
  | 4 => ("MeltingHeaps$Script", "kind", "I", false)
  | 5 => ("MeltingHeaps$Script", "place", "I", false)
  | 6 => ("MeltingHeaps$Script", "value", "I", false)
  | 7 => ("MeltingHeaps$Script", "faultKind", "I", false)
  | _ => ("MeltingHeaps$Script", "faultPlace", "I", false)
def tyX5 : Nat → FieldType := fun k => match k with
  | 0 => .object "MeltingHeaps$Row"
  | 1 => .object "MeltingHeaps$Store"
  | 2 => .array .int
  | 3 => .int
  | 4 => .int
  | 5 => .int
  | 6 => .int
  | 7 => .int
  | _ => .int
abbrev wsX50 : List Cond := u_ws RX5 TX5 9
theorem nmX5 : ∀ a, a < 9 → ∀ b, b < 9 → a ≠ b → (TX5 a).2.1 ≠ (TX5 b).2.1 := by decide +kernel
theorem tyX5_ok : ∀ k, k < 9 → parseFieldDescriptor (TX5 k).2.2.1 = some (tyX5 k) := by decide +kernel
abbrev cX5_init : ByteArray := prog_7_method_1_code
def yX5_init : MethodName := ⟨RX5, "<init>", "(LMeltingHeaps$Row;LMeltingHeaps$Store;)V"⟩
abbrev cX5_perform : ByteArray := prog_7_method_2_code
def yX5_perform : MethodName := ⟨RX5, "perform", "()V"⟩
abbrev cX5_doLine : ByteArray := prog_7_method_3_code
def yX5_doLine : MethodName := ⟨RX5, "doLine", "()V"⟩
abbrev cX5_fail : ByteArray := prog_7_method_4_code
def yX5_fail : MethodName := ⟨RX5, "fail", "(II)V"⟩
abbrev cX5_lineHere : ByteArray := prog_7_method_5_code
def yX5_lineHere : MethodName := ⟨RX5, "lineHere", "()I"⟩
abbrev cX5_spells : ByteArray := prog_7_method_6_code
def yX5_spells : MethodName := ⟨RX5, "spells", "(Ljava/lang/String;)Z"⟩
abbrev cX5_shapeOf : ByteArray := prog_7_method_7_code
def yX5_shapeOf : MethodName := ⟨RX5, "shapeOf", "(I)Ljava/lang/String;"⟩
abbrev cX5_takeArgument : ByteArray := prog_7_method_8_code
def yX5_takeArgument : MethodName := ⟨RX5, "takeArgument", "(C)I"⟩
abbrev cX5_takeNumber : ByteArray := prog_7_method_9_code
def yX5_takeNumber : MethodName := ⟨RX5, "takeNumber", "(I)I"⟩
abbrev cX5_putItem : ByteArray := prog_7_method_10_code
def yX5_putItem : MethodName := ⟨RX5, "putItem", "(I)V"⟩
abbrev cX5_act : ByteArray := prog_7_method_11_code
def yX5_act : MethodName := ⟨RX5, "act", "(I)I"⟩
abbrev cX5_advance : ByteArray := prog_7_method_12_code
def yX5_advance : MethodName := ⟨RX5, "advance", "()V"⟩
abbrev cX5_readWord : ByteArray := prog_7_method_13_code
def yX5_readWord : MethodName := ⟨RX5, "readWord", "()V"⟩
abbrev cX5_readNumber : ByteArray := prog_7_method_14_code
def yX5_readNumber : MethodName := ⟨RX5, "readNumber", "()V"⟩
abbrev cX5_isBlank : ByteArray := prog_7_method_15_code
def yX5_isBlank : MethodName := ⟨RX5, "isBlank", "(I)Z"⟩
abbrev cX5_isLetter : ByteArray := prog_7_method_16_code
def yX5_isLetter : MethodName := ⟨RX5, "isLetter", "(I)Z"⟩
abbrev cX5_isDigit : ByteArray := prog_7_method_17_code
def yX5_isDigit : MethodName := ⟨RX5, "isDigit", "(I)Z"⟩
def RX6 : String := "MeltingHeaps$Snapshot"
def TX6 : u_T := fun k => match k with
  | 0 => ("MeltingHeaps$Snapshot", "entries", "[I", true)
  | 1 => ("MeltingHeaps$Snapshot", "sizes", "[I", true)
  | _ => ("MeltingHeaps$Snapshot", "fingers", "[I", true)
def tyX6 : Nat → FieldType := fun k => match k with
  | 0 => .array .int
  | 1 => .array .int
  | _ => .array .int
abbrev wsX60 : List Cond := u_ws RX6 TX6 3
theorem nmX6 : ∀ a, a < 3 → ∀ b, b < 3 → a ≠ b → (TX6 a).2.1 ≠ (TX6 b).2.1 := by decide +kernel
theorem tyX6_ok : ∀ k, k < 3 → parseFieldDescriptor (TX6 k).2.2.1 = some (tyX6 k) := by decide +kernel
abbrev cX6_init : ByteArray := prog_8_method_1_code
def yX6_init : MethodName := ⟨RX6, "<init>", "()V"⟩
abbrev cX6_take : ByteArray := prog_8_method_2_code
def yX6_take : MethodName := ⟨RX6, "take", "(LMeltingHeaps$Store;)V"⟩
abbrev cX6_give : ByteArray := prog_8_method_3_code
def yX6_give : MethodName := ⟨RX6, "give", "(LMeltingHeaps$Store;)V"⟩
def RX7 : String := "MeltingHeaps$Store"
def TX7 : u_T := fun k => match k with
  | 0 => ("MeltingHeaps$Store", "heaps", "[LMeltingHeaps$Heap;", true)
  | 1 => ("MeltingHeaps$Store", "tree", "LMeltingHeaps$Tree;", true)
  | 2 => ("MeltingHeaps$Store", "weave", "LMeltingHeaps$Weave;", true)
  | 3 => ("MeltingHeaps$Store", "parade", "LMeltingHeaps$Parade;", true)
  | 4 => ("MeltingHeaps$Store", "weights", "[I", true)
  | 5 => ("MeltingHeaps$Store", "cheapestOne", "I", false)
  | 6 => ("MeltingHeaps$Store", "cheapestOther", "I", false)
  | _ => ("MeltingHeaps$Store", "cheapestCost", "I", false)
def tyX7 : Nat → FieldType := fun k => match k with
  | 0 => .array (.object "MeltingHeaps$Heap")
  | 1 => .object "MeltingHeaps$Tree"
  | 2 => .object "MeltingHeaps$Weave"
  | 3 => .object "MeltingHeaps$Parade"
  | 4 => .array .int
  | 5 => .int
  | 6 => .int
  | _ => .int
abbrev wsX70 : List Cond := u_ws RX7 TX7 8
theorem nmX7 : ∀ a, a < 8 → ∀ b, b < 8 → a ≠ b → (TX7 a).2.1 ≠ (TX7 b).2.1 := by decide +kernel
theorem tyX7_ok : ∀ k, k < 8 → parseFieldDescriptor (TX7 k).2.2.1 = some (tyX7 k) := by decide +kernel
abbrev cX7_init : ByteArray := prog_9_method_1_code
def yX7_init : MethodName := ⟨RX7, "<init>", "()V"⟩
abbrev cX7_empty : ByteArray := prog_9_method_2_code
def yX7_empty : MethodName := ⟨RX7, "empty", "()V"⟩
abbrev cX7_heapAt : ByteArray := prog_9_method_3_code
def yX7_heapAt : MethodName := ⟨RX7, "heapAt", "(I)LMeltingHeaps$Heap;"⟩
abbrev cX7_treeOf : ByteArray := prog_9_method_4_code
def yX7_treeOf : MethodName := ⟨RX7, "treeOf", "(LMeltingHeaps$Heap;)LMeltingHeaps$Tree;"⟩
abbrev cX7_weaveOf : ByteArray := prog_9_method_5_code
def yX7_weaveOf : MethodName := ⟨RX7, "weaveOf", "(LMeltingHeaps$Heap;LMeltingHeaps$Heap;)LMeltingHeaps$Weave;"⟩
abbrev cX7_total : ByteArray := prog_9_method_6_code
def yX7_total : MethodName := ⟨RX7, "total", "()I"⟩
abbrev cX7_putKey : ByteArray := prog_9_method_7_code
def yX7_putKey : MethodName := ⟨RX7, "putKey", "(II)I"⟩
abbrev cX7_dropKey : ByteArray := prog_9_method_8_code
def yX7_dropKey : MethodName := ⟨RX7, "dropKey", "(II)I"⟩
abbrev cX7_cutAbove : ByteArray := prog_9_method_9_code
def yX7_cutAbove : MethodName := ⟨RX7, "cutAbove", "(III)I"⟩
abbrev cX7_joinTo : ByteArray := prog_9_method_10_code
def yX7_joinTo : MethodName := ⟨RX7, "joinTo", "(II)I"⟩
abbrev cX7_whyNotJoin : ByteArray := prog_9_method_11_code
def yX7_whyNotJoin : MethodName := ⟨RX7, "whyNotJoin", "(LMeltingHeaps$Heap;LMeltingHeaps$Heap;)I"⟩
abbrev cX7_meltTo : ByteArray := prog_9_method_12_code
def yX7_meltTo : MethodName := ⟨RX7, "meltTo", "(II)I"⟩
abbrev cX7_whyNotMelt : ByteArray := prog_9_method_13_code
def yX7_whyNotMelt : MethodName := ⟨RX7, "whyNotMelt", "(LMeltingHeaps$Heap;LMeltingHeaps$Weave;)I"⟩
abbrev cX7_shiftBy : ByteArray := prog_9_method_14_code
def yX7_shiftBy : MethodName := ⟨RX7, "shiftBy", "(II)I"⟩
abbrev cX7_moveStretch : ByteArray := prog_9_method_15_code
def yX7_moveStretch : MethodName := ⟨RX7, "moveStretch", "(IIII)I"⟩
abbrev cX7_markStretch : ByteArray := prog_9_method_16_code
def yX7_markStretch : MethodName := ⟨RX7, "markStretch", "(IIIZ)I"⟩
abbrev cX7_seekFrom : ByteArray := prog_9_method_17_code
def yX7_seekFrom : MethodName := ⟨RX7, "seekFrom", "(II)I"⟩
abbrev cX7_notEmpty : ByteArray := prog_9_method_18_code
def yX7_notEmpty : MethodName := ⟨RX7, "notEmpty", "()I"⟩
abbrev cX7_allMarked : ByteArray := prog_9_method_19_code
def yX7_allMarked : MethodName := ⟨RX7, "allMarked", "()I"⟩
abbrev cX7_unlike : ByteArray := prog_9_method_20_code
def yX7_unlike : MethodName := ⟨RX7, "unlike", "()I"⟩
abbrev cX7_huffman : ByteArray := prog_9_method_21_code
def yX7_huffman : MethodName := ⟨RX7, "huffman", "()I"⟩
abbrev cX7_lightest : ByteArray := prog_9_method_22_code
def yX7_lightest : MethodName := ⟨RX7, "lightest", "(I)I"⟩
abbrev cX7_findCheapest : ByteArray := prog_9_method_23_code
def yX7_findCheapest : MethodName := ⟨RX7, "findCheapest", "()V"⟩
abbrev cX7_takeIfCheaper : ByteArray := prog_9_method_24_code
def yX7_takeIfCheaper : MethodName := ⟨RX7, "takeIfCheaper", "(II)V"⟩
def RX8 : String := "MeltingHeaps$Tree"
def TX8 : u_T := fun k => match k with
  | 0 => ("MeltingHeaps$Tree", "keys", "[I", true)
  | 1 => ("MeltingHeaps$Tree", "above", "[I", true)
  | 2 => ("MeltingHeaps$Tree", "left", "[I", true)
  | 3 => ("MeltingHeaps$Tree", "right", "[I", true)
  | 4 => ("MeltingHeaps$Tree", "depth", "[I", true)
  | 5 => ("MeltingHeaps$Tree", "under", "[I", true)
  | 6 => ("MeltingHeaps$Tree", "way", "[I", true)
  | 7 => ("MeltingHeaps$Tree", "size", "I", false)
  | _ => ("MeltingHeaps$Tree", "root", "I", false)
def tyX8 : Nat → FieldType := fun k => match k with
  | 0 => .array .int
  | 1 => .array .int
  | 2 => .array .int
  | 3 => .array .int
  | 4 => .array .int
  | 5 => .array .int
  | 6 => .array .int
  | 7 => .int
  | _ => .int
abbrev wsX80 : List Cond := u_ws RX8 TX8 9
theorem nmX8 : ∀ a, a < 9 → ∀ b, b < 9 → a ≠ b → (TX8 a).2.1 ≠ (TX8 b).2.1 := by decide +kernel
theorem tyX8_ok : ∀ k, k < 9 → parseFieldDescriptor (TX8 k).2.2.1 = some (tyX8 k) := by decide +kernel
abbrev cX8_init : ByteArray := prog_10_method_1_code
def yX8_init : MethodName := ⟨RX8, "<init>", "()V"⟩
abbrev cX8_grow : ByteArray := prog_10_method_2_code
def yX8_grow : MethodName := ⟨RX8, "grow", "(LMeltingHeaps$Heap;II)V"⟩
abbrev cX8_addKey : ByteArray := prog_10_method_3_code
def yX8_addKey : MethodName := ⟨RX8, "addKey", "(I)V"⟩
abbrev cX8_link : ByteArray := prog_10_method_4_code
def yX8_link : MethodName := ⟨RX8, "link", "()V"⟩
abbrev cX8_climb : ByteArray := prog_10_method_5_code
def yX8_climb : MethodName := ⟨RX8, "climb", "()V"⟩
abbrev cX8_isNode : ByteArray := prog_10_method_6_code
def yX8_isNode : MethodName := ⟨RX8, "isNode", "(I)Z"⟩
abbrev cX8_keyOf : ByteArray := prog_10_method_7_code
def yX8_keyOf : MethodName := ⟨RX8, "keyOf", "(I)I"⟩
abbrev cX8_rootKey : ByteArray := prog_10_method_8_code
def yX8_rootKey : MethodName := ⟨RX8, "rootKey", "()I"⟩
abbrev cX8_depthAt : ByteArray := prog_10_method_9_code
def yX8_depthAt : MethodName := ⟨RX8, "depthAt", "(I)I"⟩
abbrev cX8_keyAbove : ByteArray := prog_10_method_10_code
def yX8_keyAbove : MethodName := ⟨RX8, "keyAbove", "(I)I"⟩
abbrev cX8_keyAtLeft : ByteArray := prog_10_method_11_code
def yX8_keyAtLeft : MethodName := ⟨RX8, "keyAtLeft", "(I)I"⟩
abbrev cX8_keyAtRight : ByteArray := prog_10_method_12_code
def yX8_keyAtRight : MethodName := ⟨RX8, "keyAtRight", "(I)I"⟩
abbrev cX8_howManyBelow : ByteArray := prog_10_method_13_code
def yX8_howManyBelow : MethodName := ⟨RX8, "howManyBelow", "(I)I"⟩
abbrev cX8_high : ByteArray := prog_10_method_14_code
def yX8_high : MethodName := ⟨RX8, "high", "()I"⟩
abbrev cX8_allDepths : ByteArray := prog_10_method_15_code
def yX8_allDepths : MethodName := ⟨RX8, "allDepths", "()I"⟩
abbrev cX8_steps : ByteArray := prog_10_method_16_code
def yX8_steps : MethodName := ⟨RX8, "steps", "(II)I"⟩
def RX9 : String := "MeltingHeaps$Weave"
def TX9 : u_T := fun k => match k with
  | 0 => ("MeltingHeaps$Weave", "runs", "I", false)
  | 1 => ("MeltingHeaps$Weave", "twins", "I", false)
  | 2 => ("MeltingHeaps$Weave", "cost", "I", false)
  | 3 => ("MeltingHeaps$Weave", "longest", "I", false)
  | _ => ("MeltingHeaps$Weave", "keys", "I", false)
def tyX9 : Nat → FieldType := fun k => match k with
  | 0 => .int
  | 1 => .int
  | 2 => .int
  | 3 => .int
  | _ => .int
abbrev wsX90 : List Cond := u_ws RX9 TX9 5
theorem nmX9 : ∀ a, a < 5 → ∀ b, b < 5 → a ≠ b → (TX9 a).2.1 ≠ (TX9 b).2.1 := by decide +kernel
theorem tyX9_ok : ∀ k, k < 5 → parseFieldDescriptor (TX9 k).2.2.1 = some (tyX9 k) := by decide +kernel
abbrev cX9_init : ByteArray := prog_11_method_1_code
def yX9_init : MethodName := ⟨RX9, "<init>", "()V"⟩
abbrev cX9_weave : ByteArray := prog_11_method_2_code
def yX9_weave : MethodName := ⟨RX9, "weave", "(LMeltingHeaps$Heap;LMeltingHeaps$Heap;)V"⟩
abbrev cX9_endRun : ByteArray := prog_11_method_3_code
def yX9_endRun : MethodName := ⟨RX9, "endRun", "(I)V"⟩
def RX10 : String := "MeltingHeaps"
def TX10 : u_T := fun k => match k with
  | 0 => ("MeltingHeaps", "store", "LMeltingHeaps$Store;", true)
  | 1 => ("MeltingHeaps", "past", "LMeltingHeaps$Past;", true)
  | 2 => ("MeltingHeaps", "tape", "LMeltingHeaps$Row;", true)
  | 3 => ("MeltingHeaps", "told", "LMeltingHeaps$Row;", true)
  | 4 => ("MeltingHeaps", "script", "LMeltingHeaps$Script;", true)
  | 5 => ("MeltingHeaps", "beforeText", "LMeltingHeaps$Snapshot;", true)
  | 6 => ("MeltingHeaps", "images", "[LMeltingHeaps$Image;", true)
  | 7 => ("MeltingHeaps", "faultKind", "I", false)
  | _ => ("MeltingHeaps", "faultPlace", "I", false)
def tyX10 : Nat → FieldType := fun k => match k with
  | 0 => .object "MeltingHeaps$Store"
  | 1 => .object "MeltingHeaps$Past"
  | 2 => .object "MeltingHeaps$Row"
  | 3 => .object "MeltingHeaps$Row"
  | 4 => .object "MeltingHeaps$Script"
  | 5 => .object "MeltingHeaps$Snapshot"
  | 6 => .array (.object "MeltingHeaps$Image")
  | 7 => .int
  | _ => .int
abbrev wsX100 : List Cond := u_ws RX10 TX10 9
theorem nmX10 : ∀ a, a < 9 → ∀ b, b < 9 → a ≠ b → (TX10 a).2.1 ≠ (TX10 b).2.1 := by decide +kernel
theorem tyX10_ok : ∀ k, k < 9 → parseFieldDescriptor (TX10 k).2.2.1 = some (tyX10 k) := by decide +kernel
abbrev cX10_init : ByteArray := prog_1_method_1_code
def yX10_init : MethodName := ⟨RX10, "<init>", "()V"⟩
abbrev cX10_feed : ByteArray := prog_1_method_2_code
def yX10_feed : MethodName := ⟨RX10, "feed", "(IIIII)I"⟩
abbrev cX10_end : ByteArray := prog_1_method_3_code
def yX10_end : MethodName := ⟨RX10, "end", "(I)I"⟩
abbrev cX10_text : ByteArray := prog_1_method_4_code
def yX10_text : MethodName := ⟨RX10, "text", "()I"⟩
abbrev cX10_fault : ByteArray := prog_1_method_5_code
def yX10_fault : MethodName := ⟨RX10, "fault", "(I)I"⟩
abbrev cX10_put : ByteArray := prog_1_method_6_code
def yX10_put : MethodName := ⟨RX10, "put", "(II)I"⟩
abbrev cX10_drop : ByteArray := prog_1_method_7_code
def yX10_drop : MethodName := ⟨RX10, "drop", "(II)I"⟩
abbrev cX10_cut : ByteArray := prog_1_method_8_code
def yX10_cut : MethodName := ⟨RX10, "cut", "(III)I"⟩
abbrev cX10_join : ByteArray := prog_1_method_9_code
def yX10_join : MethodName := ⟨RX10, "join", "(II)I"⟩
abbrev cX10_melt : ByteArray := prog_1_method_10_code
def yX10_melt : MethodName := ⟨RX10, "melt", "(II)I"⟩
abbrev cX10_shift : ByteArray := prog_1_method_11_code
def yX10_shift : MethodName := ⟨RX10, "shift", "(II)I"⟩
abbrev cX10_move : ByteArray := prog_1_method_12_code
def yX10_move : MethodName := ⟨RX10, "move", "(IIII)I"⟩
abbrev cX10_mark : ByteArray := prog_1_method_13_code
def yX10_mark : MethodName := ⟨RX10, "mark", "(IIIZ)I"⟩
abbrev cX10_seek : ByteArray := prog_1_method_14_code
def yX10_seek : MethodName := ⟨RX10, "seek", "(II)I"⟩
abbrev cX10_undo : ByteArray := prog_1_method_15_code
def yX10_undo : MethodName := ⟨RX10, "undo", "()I"⟩
abbrev cX10_set : ByteArray := prog_1_method_16_code
def yX10_set : MethodName := ⟨RX10, "set", "(II)I"⟩
abbrev cX10_key : ByteArray := prog_1_method_17_code
def yX10_key : MethodName := ⟨RX10, "key", "(II)I"⟩
abbrev cX10_of : ByteArray := prog_1_method_18_code
def yX10_of : MethodName := ⟨RX10, "of", "(III)I"⟩
abbrev cX10_within : ByteArray := prog_1_method_19_code
def yX10_within : MethodName := ⟨RX10, "within", "(IIIZ)I"⟩
abbrev cX10_far : ByteArray := prog_1_method_20_code
def yX10_far : MethodName := ⟨RX10, "far", "(III)I"⟩
abbrev cX10_where : ByteArray := prog_1_method_21_code
def yX10_where : MethodName := ⟨RX10, "where", "(I)I"⟩
abbrev cX10_count : ByteArray := prog_1_method_22_code
def yX10_count : MethodName := ⟨RX10, "count", "(I)I"⟩
abbrev cX10_pair : ByteArray := prog_1_method_23_code
def yX10_pair : MethodName := ⟨RX10, "pair", "(III)I"⟩
abbrev cX10_cheapest : ByteArray := prog_1_method_24_code
def yX10_cheapest : MethodName := ⟨RX10, "cheapest", "(I)I"⟩
abbrev cX10_merged : ByteArray := prog_1_method_25_code
def yX10_merged : MethodName := ⟨RX10, "merged", "(I)I"⟩
abbrev cX10_would : ByteArray := prog_1_method_26_code
def yX10_would : MethodName := ⟨RX10, "would", "(IIZ)I"⟩
abbrev cX10_halves : ByteArray := prog_1_method_27_code
def yX10_halves : MethodName := ⟨RX10, "halves", "(I)I"⟩
abbrev cX10_tell : ByteArray := prog_1_method_28_code
def yX10_tell : MethodName := ⟨RX10, "tell", "(I)I"⟩
abbrev cX10_octet : ByteArray := prog_1_method_29_code
def yX10_octet : MethodName := ⟨RX10, "octet", "(I)I"⟩
abbrev cX10_image : ByteArray := prog_1_method_30_code
def yX10_image : MethodName := ⟨RX10, "image", "(I)Z"⟩
abbrev cX10_again : ByteArray := prog_1_method_31_code
def yX10_again : MethodName := ⟨RX10, "again", "(I)Z"⟩
abbrev cX10_isKey : ByteArray := prog_1_method_32_code
def yX10_isKey : MethodName := ⟨RX10, "isKey", "(I)Z"⟩
abbrev cX10_priority : ByteArray := prog_1_method_33_code
def yX10_priority : MethodName := ⟨RX10, "priority", "(I)I"⟩
def RX11 : String := "MeltingHeapsModel"
def TX11 : u_T := fun k => match k with
  | 0 => ("MeltingHeapsModel", "all", "[I", true)
  | 1 => ("MeltingHeapsModel", "tape", "[I", true)
  | 2 => ("MeltingHeapsModel", "told", "[I", true)
  | 3 => ("MeltingHeapsModel", "isImage", "[Z", true)
  | 4 => ("MeltingHeapsModel", "taped", "I", false)
  | 5 => ("MeltingHeapsModel", "toldMany", "I", false)
  | 6 => ("MeltingHeapsModel", "faultKind", "I", false)
  | 7 => ("MeltingHeapsModel", "faultPlace", "I", false)
  | 8 => ("MeltingHeapsModel", "undos", "I", false)
  | 9 => ("MeltingHeapsModel", "b", "I", false)
  | 10 => ("MeltingHeapsModel", "row", "[I", true)
  | 11 => ("MeltingHeapsModel", "rowMany", "I", false)
  | 12 => ("MeltingHeapsModel", "wayFrom", "I", false)
  | 13 => ("MeltingHeapsModel", "wayLast", "I", false)
  | 14 => ("MeltingHeapsModel", "wayAbove", "I", false)
  | 15 => ("MeltingHeapsModel", "wayDeep", "I", false)
  | 16 => ("MeltingHeapsModel", "runs", "I", false)
  | 17 => ("MeltingHeapsModel", "cost", "I", false)
  | 18 => ("MeltingHeapsModel", "longest", "I", false)
  | 19 => ("MeltingHeapsModel", "run", "I", false)
  | 20 => ("MeltingHeapsModel", "runOf", "I", false)
  | 21 => ("MeltingHeapsModel", "sizes", "[I", true)
  | 22 => ("MeltingHeapsModel", "size0", "I", false)
  | 23 => ("MeltingHeapsModel", "next", "I", false)
  | 24 => ("MeltingHeapsModel", "token", "I", false)
  | 25 => ("MeltingHeapsModel", "place", "I", false)
  | _ => ("MeltingHeapsModel", "value", "J", false)
def tyX11 : Nat → FieldType := fun k => match k with
  | 0 => .array .int
  | 1 => .array .int
  | 2 => .array .int
  | 3 => .array .boolean
  | 4 => .int
  | 5 => .int
  | 6 => .int
  | 7 => .int
  | 8 => .int
  | 9 => .int
  | 10 => .array .int
  | 11 => .int
  | 12 => .int
  | 13 => .int
  | 14 => .int
  | 15 => .int
  | 16 => .int
  | 17 => .int
  | 18 => .int
  | 19 => .int
  | 20 => .int
  | 21 => .array .int
  | 22 => .int
  | 23 => .int
  | 24 => .int
  | 25 => .int
  | _ => .long
abbrev wsX110 : List Cond := u_ws RX11 TX11 27
theorem nmX11 : ∀ a, a < 27 → ∀ b, b < 27 → a ≠ b → (TX11 a).2.1 ≠ (TX11 b).2.1 := by decide +kernel
theorem tyX11_ok : ∀ k, k < 27 → parseFieldDescriptor (TX11 k).2.2.1 = some (tyX11 k) := by decide +kernel
abbrev cX11_init : ByteArray := prog_13_method_1_code
def yX11_init : MethodName := ⟨RX11, "<init>", "()V"⟩
abbrev cX11_empties : ByteArray := prog_13_method_2_code
def yX11_empties : MethodName := ⟨RX11, "empties", "(I)V"⟩
abbrev cX11_isIn : ByteArray := prog_13_method_3_code
def yX11_isIn : MethodName := ⟨RX11, "isIn", "(III)Z"⟩
abbrev cX11_copies : ByteArray := prog_13_method_4_code
def yX11_copies : MethodName := ⟨RX11, "copies", "(III)V"⟩
abbrev cX11_isSet : ByteArray := prog_13_method_5_code
def yX11_isSet : MethodName := ⟨RX11, "isSet", "(I)Z"⟩
abbrev cX11_isKey : ByteArray := prog_13_method_6_code
def yX11_isKey : MethodName := ⟨RX11, "isKey", "(I)Z"⟩
abbrev cX11_many : ByteArray := prog_13_method_7_code
def yX11_many : MethodName := ⟨RX11, "many", "(I)I"⟩
abbrev cX11_keyAt : ByteArray := prog_13_method_8_code
def yX11_keyAt : MethodName := ⟨RX11, "keyAt", "(II)I"⟩
abbrev cX11_markAt : ByteArray := prog_13_method_9_code
def yX11_markAt : MethodName := ⟨RX11, "markAt", "(II)I"⟩
abbrev cX11_finger : ByteArray := prog_13_method_10_code
def yX11_finger : MethodName := ⟨RX11, "finger", "(I)I"⟩
abbrev cX11_points : ByteArray := prog_13_method_11_code
def yX11_points : MethodName := ⟨RX11, "points", "(II)V"⟩
abbrev cX11_below : ByteArray := prog_13_method_12_code
def yX11_below : MethodName := ⟨RX11, "below", "(II)I"⟩
abbrev cX11_placeOf : ByteArray := prog_13_method_13_code
def yX11_placeOf : MethodName := ⟨RX11, "placeOf", "(II)I"⟩
abbrev cX11_puts : ByteArray := prog_13_method_14_code
def yX11_puts : MethodName := ⟨RX11, "puts", "(III)V"⟩
abbrev cX11_drops : ByteArray := prog_13_method_15_code
def yX11_drops : MethodName := ⟨RX11, "drops", "(II)V"⟩
abbrev cX11_total : ByteArray := prog_13_method_16_code
def yX11_total : MethodName := ⟨RX11, "total", "()I"⟩
abbrev cX11_twins : ByteArray := prog_13_method_17_code
def yX11_twins : MethodName := ⟨RX11, "twins", "(II)I"⟩
abbrev cX11_counted : ByteArray := prog_13_method_18_code
def yX11_counted : MethodName := ⟨RX11, "counted", "(III)I"⟩
abbrev cX11_laysRow : ByteArray := prog_13_method_19_code
def yX11_laysRow : MethodName := ⟨RX11, "laysRow", "(I)V"⟩
abbrev cX11_priority : ByteArray := prog_13_method_20_code
def yX11_priority : MethodName := ⟨RX11, "priority", "(I)I"⟩
abbrev cX11_ahead : ByteArray := prog_13_method_21_code
def yX11_ahead : MethodName := ⟨RX11, "ahead", "(II)I"⟩
abbrev cX11_goesTo : ByteArray := prog_13_method_22_code
def yX11_goesTo : MethodName := ⟨RX11, "goesTo", "(I)V"⟩
abbrev cX11_depth : ByteArray := prog_13_method_23_code
def yX11_depth : MethodName := ⟨RX11, "depth", "(I)I"⟩
abbrev cX11_high : ByteArray := prog_13_method_24_code
def yX11_high : MethodName := ⟨RX11, "high", "()I"⟩
abbrev cX11_farOf : ByteArray := prog_13_method_25_code
def yX11_farOf : MethodName := ⟨RX11, "farOf", "(II)I"⟩
abbrev cX11_endsRun : ByteArray := prog_13_method_26_code
def yX11_endsRun : MethodName := ⟨RX11, "endsRun", "()V"⟩
abbrev cX11_goes : ByteArray := prog_13_method_27_code
def yX11_goes : MethodName := ⟨RX11, "goes", "(I)V"⟩
abbrev cX11_laysRuns : ByteArray := prog_13_method_28_code
def yX11_laysRuns : MethodName := ⟨RX11, "laysRuns", "(II)V"⟩
abbrev cX11_areTwo : ByteArray := prog_13_method_29_code
def yX11_areTwo : MethodName := ⟨RX11, "areTwo", "(II)Z"⟩
abbrev cX11_refusesPut : ByteArray := prog_13_method_30_code
def yX11_refusesPut : MethodName := ⟨RX11, "refusesPut", "(II)I"⟩
abbrev cX11_refusesCut : ByteArray := prog_13_method_31_code
def yX11_refusesCut : MethodName := ⟨RX11, "refusesCut", "(III)I"⟩
abbrev cX11_refusesJoin : ByteArray := prog_13_method_32_code
def yX11_refusesJoin : MethodName := ⟨RX11, "refusesJoin", "(II)I"⟩
abbrev cX11_refusesMelt : ByteArray := prog_13_method_33_code
def yX11_refusesMelt : MethodName := ⟨RX11, "refusesMelt", "(II)I"⟩
abbrev cX11_refusesShift : ByteArray := prog_13_method_34_code
def yX11_refusesShift : MethodName := ⟨RX11, "refusesShift", "(II)I"⟩
abbrev cX11_refusesMove : ByteArray := prog_13_method_35_code
def yX11_refusesMove : MethodName := ⟨RX11, "refusesMove", "(IIII)I"⟩
abbrev cX11_marked : ByteArray := prog_13_method_36_code
def yX11_marked : MethodName := ⟨RX11, "marked", "(IIIIZ)I"⟩
abbrev cX11_refusesMark : ByteArray := prog_13_method_37_code
def yX11_refusesMark : MethodName := ⟨RX11, "refusesMark", "(IIII)I"⟩
abbrev cX11_goOver : ByteArray := prog_13_method_38_code
def yX11_goOver : MethodName := ⟨RX11, "goOver", "(IIII)I"⟩
abbrev cX11_shifts : ByteArray := prog_13_method_39_code
def yX11_shifts : MethodName := ⟨RX11, "shifts", "(II)V"⟩
abbrev cX11_keeps : ByteArray := prog_13_method_40_code
def yX11_keeps : MethodName := ⟨RX11, "keeps", "()V"⟩
abbrev cX11_begins : ByteArray := prog_13_method_41_code
def yX11_begins : MethodName := ⟨RX11, "begins", "(I)I"⟩
abbrev cX11_put : ByteArray := prog_13_method_42_code
def yX11_put : MethodName := ⟨RX11, "put", "(II)I"⟩
abbrev cX11_drop : ByteArray := prog_13_method_43_code
def yX11_drop : MethodName := ⟨RX11, "drop", "(II)I"⟩
abbrev cX11_cut : ByteArray := prog_13_method_44_code
def yX11_cut : MethodName := ⟨RX11, "cut", "(III)I"⟩
abbrev cX11_join : ByteArray := prog_13_method_45_code
def yX11_join : MethodName := ⟨RX11, "join", "(II)I"⟩
abbrev cX11_melt : ByteArray := prog_13_method_46_code
def yX11_melt : MethodName := ⟨RX11, "melt", "(II)I"⟩
abbrev cX11_shift : ByteArray := prog_13_method_47_code
def yX11_shift : MethodName := ⟨RX11, "shift", "(II)I"⟩
abbrev cX11_move : ByteArray := prog_13_method_48_code
def yX11_move : MethodName := ⟨RX11, "move", "(IIII)I"⟩
abbrev cX11_mark : ByteArray := prog_13_method_49_code
def yX11_mark : MethodName := ⟨RX11, "mark", "(IIIZ)I"⟩
abbrev cX11_seek : ByteArray := prog_13_method_50_code
def yX11_seek : MethodName := ⟨RX11, "seek", "(II)I"⟩
abbrev cX11_undo : ByteArray := prog_13_method_51_code
def yX11_undo : MethodName := ⟨RX11, "undo", "()I"⟩
abbrev cX11_summed : ByteArray := prog_13_method_52_code
def yX11_summed : MethodName := ⟨RX11, "summed", "(II)I"⟩
abbrev cX11_set : ByteArray := prog_13_method_53_code
def yX11_set : MethodName := ⟨RX11, "set", "(II)I"⟩
abbrev cX11_key : ByteArray := prog_13_method_54_code
def yX11_key : MethodName := ⟨RX11, "key", "(II)I"⟩
abbrev cX11_keyOf : ByteArray := prog_13_method_55_code
def yX11_keyOf : MethodName := ⟨RX11, "keyOf", "(I)I"⟩
abbrev cX11_of : ByteArray := prog_13_method_56_code
def yX11_of : MethodName := ⟨RX11, "of", "(III)I"⟩
abbrev cX11_within : ByteArray := prog_13_method_57_code
def yX11_within : MethodName := ⟨RX11, "within", "(IIIZ)I"⟩
abbrev cX11_far : ByteArray := prog_13_method_58_code
def yX11_far : MethodName := ⟨RX11, "far", "(III)I"⟩
abbrev cX11_where : ByteArray := prog_13_method_59_code
def yX11_where : MethodName := ⟨RX11, "where", "(I)I"⟩
abbrev cX11_unlike : ByteArray := prog_13_method_60_code
def yX11_unlike : MethodName := ⟨RX11, "unlike", "()I"⟩
abbrev cX11_fewest : ByteArray := prog_13_method_61_code
def yX11_fewest : MethodName := ⟨RX11, "fewest", "(I)I"⟩
abbrev cX11_huffman : ByteArray := prog_13_method_62_code
def yX11_huffman : MethodName := ⟨RX11, "huffman", "()I"⟩
abbrev cX11_count : ByteArray := prog_13_method_63_code
def yX11_count : MethodName := ⟨RX11, "count", "(I)I"⟩
abbrev cX11_pair : ByteArray := prog_13_method_64_code
def yX11_pair : MethodName := ⟨RX11, "pair", "(III)I"⟩
abbrev cX11_cheapest : ByteArray := prog_13_method_65_code
def yX11_cheapest : MethodName := ⟨RX11, "cheapest", "(I)I"⟩
abbrev cX11_merged : ByteArray := prog_13_method_66_code
def yX11_merged : MethodName := ⟨RX11, "merged", "(I)I"⟩
abbrev cX11_would : ByteArray := prog_13_method_67_code
def yX11_would : MethodName := ⟨RX11, "would", "(IIZ)I"⟩
abbrev cX11_halves : ByteArray := prog_13_method_68_code
def yX11_halves : MethodName := ⟨RX11, "halves", "(I)I"⟩
abbrev cX11_tells : ByteArray := prog_13_method_69_code
def yX11_tells : MethodName := ⟨RX11, "tells", "(I)V"⟩
abbrev cX11_number : ByteArray := prog_13_method_70_code
def yX11_number : MethodName := ⟨RX11, "number", "(I)V"⟩
abbrev cX11_tell : ByteArray := prog_13_method_71_code
def yX11_tell : MethodName := ⟨RX11, "tell", "(I)I"⟩
abbrev cX11_octet : ByteArray := prog_13_method_72_code
def yX11_octet : MethodName := ⟨RX11, "octet", "(I)I"⟩
abbrev cX11_feed : ByteArray := prog_13_method_73_code
def yX11_feed : MethodName := ⟨RX11, "feed", "(IIIII)I"⟩
abbrev cX11_end : ByteArray := prog_13_method_74_code
def yX11_end : MethodName := ⟨RX11, "end", "(I)I"⟩
abbrev cX11_fault : ByteArray := prog_13_method_75_code
def yX11_fault : MethodName := ⟨RX11, "fault", "(I)I"⟩
abbrev cX11_byteAt : ByteArray := prog_13_method_76_code
def yX11_byteAt : MethodName := ⟨RX11, "byteAt", "(I)I"⟩
abbrev cX11_isLetter : ByteArray := prog_13_method_77_code
def yX11_isLetter : MethodName := ⟨RX11, "isLetter", "(I)Z"⟩
abbrev cX11_isDigit : ByteArray := prog_13_method_78_code
def yX11_isDigit : MethodName := ⟨RX11, "isDigit", "(I)Z"⟩
abbrev cX11_takes : ByteArray := prog_13_method_79_code
def yX11_takes : MethodName := ⟨RX11, "takes", "()V"⟩
abbrev cX11_fails : ByteArray := prog_13_method_80_code
def yX11_fails : MethodName := ⟨RX11, "fails", "(II)V"⟩
abbrev cX11_isGood : ByteArray := prog_13_method_81_code
def yX11_isGood : MethodName := ⟨RX11, "isGood", "()Z"⟩
abbrev cX11_hasWord : ByteArray := prog_13_method_82_code
def yX11_hasWord : MethodName := ⟨RX11, "hasWord", "(J)Z"⟩
abbrev cX11_hasSign : ByteArray := prog_13_method_83_code
def yX11_hasSign : MethodName := ⟨RX11, "hasSign", "(I)Z"⟩
abbrev cX11_numeral : ByteArray := prog_13_method_84_code
def yX11_numeral : MethodName := ⟨RX11, "numeral", "()I"⟩
abbrev cX11_setNumber : ByteArray := prog_13_method_85_code
def yX11_setNumber : MethodName := ⟨RX11, "setNumber", "()I"⟩
abbrev cX11_readsKeys : ByteArray := prog_13_method_86_code
def yX11_readsKeys : MethodName := ⟨RX11, "readsKeys", "(I)V"⟩
abbrev cX11_readsSet : ByteArray := prog_13_method_87_code
def yX11_readsSet : MethodName := ⟨RX11, "readsSet", "()V"⟩
abbrev cX11_ends : ByteArray := prog_13_method_88_code
def yX11_ends : MethodName := ⟨RX11, "ends", "()V"⟩
abbrev cX11_readsAct : ByteArray := prog_13_method_89_code
def yX11_readsAct : MethodName := ⟨RX11, "readsAct", "(J)I"⟩
abbrev cX11_readsLine : ByteArray := prog_13_method_90_code
def yX11_readsLine : MethodName := ⟨RX11, "readsLine", "()V"⟩
abbrev cX11_text : ByteArray := prog_13_method_91_code
def yX11_text : MethodName := ⟨RX11, "text", "()I"⟩
abbrev cX11_image : ByteArray := prog_13_method_92_code
def yX11_image : MethodName := ⟨RX11, "image", "(I)Z"⟩
abbrev cX11_again : ByteArray := prog_13_method_93_code
def yX11_again : MethodName := ⟨RX11, "again", "(I)Z"⟩
def RJ6 : String := "java/lang/Integer"
abbrev cJ6_compare_7cf53 : ByteArray := prog_14_method_40_code
def yJ6_compare_7cf53 : MethodName := ⟨RJ6, "compare", "(II)I"⟩
def RJ9 : String := "java/lang/Math"
abbrev cJ9_max_7cf53 : ByteArray := prog_15_method_65_code
def yJ9_max_7cf53 : MethodName := ⟨RJ9, "max", "(II)I"⟩
abbrev cJ9_min_7cf53 : ByteArray := prog_15_method_69_code
def yJ9_min_7cf53 : MethodName := ⟨RJ9, "min", "(II)I"⟩
def RJ0 : String := "java/lang/String"
abbrev cJ0_length_8abf5 : ByteArray := prog_16_method_54_code
def yJ0_length_8abf5 : MethodName := ⟨RJ0, "length", "()I"⟩
abbrev cJ0_charAt_5068e : ByteArray := prog_16_method_56_code
def yJ0_charAt_5068e : MethodName := ⟨RJ0, "charAt", "(I)C"⟩
abbrev cJ0_coder_7d493 : ByteArray := prog_16_method_152_code
def yJ0_coder_7d493 : MethodName := ⟨RJ0, "coder", "()B"⟩
abbrev cJ0_isLatin1_aae02 : ByteArray := prog_16_method_154_code
def yJ0_isLatin1_aae02 : MethodName := ⟨RJ0, "isLatin1", "()Z"⟩
abbrev cJ0_checkIndex_df160 : ByteArray := prog_16_method_155_code
def yJ0_checkIndex_df160 : MethodName := ⟨RJ0, "checkIndex", "(II)V"⟩
def RJ1 : String := "java/lang/StringLatin1"
abbrev cJ1_charAt_3b067 : ByteArray := prog_17_method_2_code
def yJ1_charAt_3b067 : MethodName := ⟨RJ1, "charAt", "([BI)C"⟩
def RJ2 : String := "java/lang/StringUTF16"
abbrev cJ2_getChar_3b067 : ByteArray := prog_18_method_5_code
def yJ2_getChar_3b067 : MethodName := ⟨RJ2, "getChar", "([BI)C"⟩
abbrev cJ2_length_9d52b : ByteArray := prog_18_method_6_code
def yJ2_length_9d52b : MethodName := ⟨RJ2, "length", "([B)I"⟩
abbrev cJ2_charAt_3b067 : ByteArray := prog_18_method_83_code
def yJ2_charAt_3b067 : MethodName := ⟨RJ2, "charAt", "([BI)C"⟩
abbrev cJ2_checkIndex_2214a : ByteArray := prog_18_method_91_code
def yJ2_checkIndex_2214a : MethodName := ⟨RJ2, "checkIndex", "(I[B)V"⟩
def RJ10 : String := "java/lang/System"
def RJ3 : String := "jdk/internal/util/Preconditions"
abbrev cJ3_checkIndex_8e157 : ByteArray := prog_20_method_11_code
def yJ3_checkIndex_8e157 : MethodName := ⟨RJ3, "checkIndex", "(IILjava/util/function/BiFunction;)I"⟩
def RL : String := "MeltingHeapsLaw"
abbrev cL_law : ByteArray := code
def yL_law : MethodName := ⟨RL, "law", "([I)Z"⟩
abbrev vwCl : List vw_C := [(RX0, TX0, 3), (RX1, TX1, 6), (RX2, TX2, 2), (RX3, TX3, 3), (RX4, TX4, 2), (RX5, TX5, 9), (RX6, TX6, 3), (RX7, TX7, 8), (RX8, TX8, 9), (RX9, TX9, 5), (RX10, TX10, 9), (RX11, TX11, 27)]
end
section
/-! A WORLD as a list of cells whose references are places in that list; the rules that turn the machine's judgement into one over such worlds -/
abbrev MC : Type := (FieldType × vp_A) ⊕ (Nat × List Value)
abbrev MW : Type := List MC
/-- a value, its place turned into an address -/
def rv (ad : Nat → Nat) : Value → Value
  | .ref k => .ref (ad k)
  | .int x => .int x
  | .long x => .long x
  | .null => .null
  | v => v
def av (ad : Nat → Nat) : vp_A → vp_A
  | (n, .inr (.inr (.inr (.inr f)))) => (n, .inr (.inr (.inr (.inr (fun j => (f j).map ad)))))
  | (n, .inl f) => (n, .inl f)
  | a => a
def cv (dA : FieldType → ClassId) (ad : Nat → Nat) : MC → va_E
  | .inl (ty, a) => .inl (dA ty, av ad a)
  | .inr (c, fs) => .inr (c, fs.map (rv ad))
def wi (dA : FieldType → ClassId) (ad : Nat → Nat) (w : MW) : va_W := w.mapIdx (fun k c => (ad k, cv dA ad c))
theorem wi_at {dA : FieldType → ClassId} {ad : Nat → Nat} {w : MW} {k : Nat} {c : MC} (h : w[k]? = some c) : (wi dA ad w)[k]? = some (ad k, cv dA ad c) := by
  simp [wi, h]
theorem wi_set {dA : FieldType → ClassId} {ad : Nat → Nat} (w : MW) (k : Nat) (c : MC) : (wi dA ad w).set k (ad k, cv dA ad c) = wi dA ad (w.set k c) := by
  simp [wi, List.mapIdx_set]
theorem wi_push {dA : FieldType → ClassId} {ad : Nat → Nat} (w : MW) (c : MC) : wi dA ad w ++ [(ad w.length, cv dA ad c)] = wi dA ad (w ++ [c]) := by
  simp [wi, List.mapIdx_append]
theorem rv_cat (ad : Nat → Nat) (v : Value) : (rv ad v).category = v.category := by cases v <;> rfl
/-- reading and writing -/
def gI (w : MW) (c h k : Nat) : Option Int32 := match w[h]? with
  | some (.inr (c', fs)) => if c' = c then (match fs[k]? with | some (.int x) => some x | _ => none) else none
  | _ => none
def gJ (w : MW) (c h k : Nat) : Option Int64 := match w[h]? with
  | some (.inr (c', fs)) => if c' = c then (match fs[k]? with | some (.long x) => some x | _ => none) else none
  | _ => none
def gR (w : MW) (c h k : Nat) : Option Nat := match w[h]? with
  | some (.inr (c', fs)) => if c' = c then (match fs[k]? with | some (.ref x) => some x | _ => none) else none
  | _ => none
def pV (w : MW) (c h k : Nat) (v : Value) : Option MW := match w[h]? with
  | some (.inr (c', fs)) => if c' = c ∧ k < fs.length then some (w.set h (.inr (c, fs.set k v))) else none
  | _ => none
def aI (w : MW) (ty : FieldType) (a : Nat) (i : Int32) : Option Int32 := match w[a]? with
  | some (.inl (ty', n, .inl f)) => if ty' = ty ∧ 0 ≤ i ∧ i.toNatClampNeg < n then some (f i.toNatClampNeg) else none
  | _ => none
def aR (w : MW) (ty : FieldType) (a : Nat) (i : Int32) : Option (Option Nat) := match w[a]? with
  | some (.inl (ty', n, .inr (.inr (.inr (.inr f))))) => if ty' = ty ∧ 0 ≤ i ∧ i.toNatClampNeg < n then some (f i.toNatClampNeg) else none
  | _ => none
def sI (w : MW) (ty : FieldType) (a : Nat) (i x : Int32) : Option MW := match w[a]? with
  | some (.inl (ty', n, .inl f)) => if ty' = ty ∧ 0 ≤ i ∧ i.toNatClampNeg < n then some (w.set a (.inl (ty, n, .inl (upd f i.toNatClampNeg x)))) else none
  | _ => none
def sR (w : MW) (C : String) (ci : Nat) (a : Nat) (i : Int32) (x : Nat) : Option MW := match w[a]?, w[x]? with
  | some (.inl (ty', n, .inr (.inr (.inr (.inr f))))), some (.inr (c', _)) => if ty' = .object C ∧ c' = ci ∧ 0 ≤ i ∧ i.toNatClampNeg < n then some (w.set a (.inl (.object C, n, .inr (.inr (.inr (.inr (va_up f i.toNatClampNeg (some x)))))))) else none
  | _, _ => none
def aL (w : MW) (ty : FieldType) (a : Nat) : Option Int32 := match w[a]? with
  | some (.inl (ty', x)) => if ty' = ty then some (Int32.ofNat x.1) else none
  | _ => none
/-- System.arraycopy between arrays of whole numbers -/
def cpI (w : MW) (ty : FieldType) (a0 : Nat) (sp : Int32) (a1 : Nat) (dp n : Int32) : Option MW := match w[a0]?, w[a1]? with
  | some (.inl (t0, n0, .inl f)), some (.inl (t1, n1, .inl g)) =>
    if t0 = ty ∧ t1 = ty ∧ 0 ≤ sp ∧ 0 ≤ dp ∧ 0 ≤ n ∧ sp.toNatClampNeg + n.toNatClampNeg ≤ n0 ∧ dp.toNatClampNeg + n.toNatClampNeg ≤ n1 ∧ (∀ i, i < n.toNatClampNeg → fits ty (.int (f (sp.toNatClampNeg + i))) = true)
    then some (w.set a1 (.inl (ty, n1, .inl (va_cpy f g sp.toNatClampNeg dp.toNatClampNeg n.toNatClampNeg)))) else none
  | _, _ => none
/-- a call's receiver is an object of class ci -/
def cl {α : Type} (w : MW) (ci b : Nat) (x : Option α) : Option α := match w[b]? with
  | some (.inr (c', _)) => if c' = ci then x else none
  | _ => none
/-- a name for a value -/
def bnd {α β : Type} (x : α) (k : α → β) : β := k x
def rOK (n : Nat) : Value → Bool
  | .ref k => decide (k < n) || decide (10000 ≤ k)
  | _ => true
def cOK (n : Nat) : MC → Prop
  | .inl (_, _, .inr (.inr (.inr (.inr f)))) => ∀ j k, f j = some k → k < n
  | .inl _ => True
  | .inr (_, fs) => fs.all (rOK n) = true
/-- all references are to cells of the world -/
def wOK (w : MW) : Prop := w.length < 10000 ∧ ∀ c ∈ w, cOK w.length c
/-- a new cell; vs: the values that are held elsewhere -/
noncomputable def nwC (n0 : Nat) (w : MW) (vs : List Value) (c : MC) : Option MW := @ite _ (wOK w ∧ vs.all (rOK w.length) = true ∧ n0 ≤ w.length) (Classical.propDecidable _) (some (w ++ [c])) none
theorem gI_spec {w : MW} {c h k : Nat} {x : Int32} (e : gI w c h k = some x) : ∃ fs, w[h]? = some (.inr (c, fs)) ∧ fs[k]? = some (.int x) := by
  unfold gI at e
  split at e
  · rename_i c' fs hw
    split at e
    · rename_i hc
      subst hc
      split at e
      · rename_i y hy
        cases e
        exact ⟨fs, hw, hy⟩
      · cases e
    · cases e
  · cases e
theorem gJ_spec {w : MW} {c h k : Nat} {x : Int64} (e : gJ w c h k = some x) : ∃ fs, w[h]? = some (.inr (c, fs)) ∧ fs[k]? = some (.long x) := by
  unfold gJ at e
  split at e
  · rename_i c' fs hw
    split at e
    · rename_i hc
      subst hc
      split at e
      · rename_i y hy
        cases e
        exact ⟨fs, hw, hy⟩
      · cases e
    · cases e
  · cases e
theorem gR_spec {w : MW} {c h k : Nat} {x : Nat} (e : gR w c h k = some x) : ∃ fs, w[h]? = some (.inr (c, fs)) ∧ fs[k]? = some (.ref x) := by
  unfold gR at e
  split at e
  · rename_i c' fs hw
    split at e
    · rename_i hc
      subst hc
      split at e
      · rename_i y hy
        cases e
        exact ⟨fs, hw, hy⟩
      · cases e
    · cases e
  · cases e
theorem pV_spec {w w1 : MW} {c h k : Nat} {v : Value} (e : pV w c h k v = some w1) : ∃ fs, w[h]? = some (.inr (c, fs)) ∧ k < fs.length ∧ w1 = w.set h (.inr (c, fs.set k v)) := by
  unfold pV at e
  split at e
  · rename_i c' fs hw
    split at e
    · rename_i hc
      obtain ⟨rfl, hk⟩ := hc
      cases e
      exact ⟨fs, hw, hk, rfl⟩
    · cases e
  · cases e
theorem aI_spec {w : MW} {ty : FieldType} {a : Nat} {i x : Int32} (e : aI w ty a i = some x) : ∃ n f, w[a]? = some (.inl (ty, n, .inl f)) ∧ vp_in i n ∧ x = f i.toNatClampNeg := by
  unfold aI at e
  split at e
  · rename_i ty' n f hw
    split at e
    · rename_i hc
      obtain ⟨rfl, h1, h2⟩ := hc
      cases e
      exact ⟨n, f, hw, fun h => h.elim (fun h => absurd h1 (Int32.not_le.mpr h)) (fun h => absurd h2 (Nat.not_lt.mpr h)), rfl⟩
    · cases e
  · cases e
theorem aR_spec {w : MW} {ty : FieldType} {a : Nat} {i : Int32} {x : Option Nat} (e : aR w ty a i = some x) : ∃ n f, w[a]? = some (.inl (ty, n, .inr (.inr (.inr (.inr f))))) ∧ vp_in i n ∧ x = f i.toNatClampNeg := by
  unfold aR at e
  split at e
  · rename_i ty' n f hw
    split at e
    · rename_i hc
      obtain ⟨rfl, h1, h2⟩ := hc
      cases e
      exact ⟨n, f, hw, fun h => h.elim (fun h => absurd h1 (Int32.not_le.mpr h)) (fun h => absurd h2 (Nat.not_lt.mpr h)), rfl⟩
    · cases e
  · cases e
theorem sI_spec {w w1 : MW} {ty : FieldType} {a : Nat} {i x : Int32} (e : sI w ty a i x = some w1) : ∃ n f, w[a]? = some (.inl (ty, n, .inl f)) ∧ vp_in i n ∧ w1 = w.set a (.inl (ty, n, .inl (upd f i.toNatClampNeg x))) := by
  unfold sI at e
  split at e
  · rename_i ty' n f hw
    split at e
    · rename_i hc
      obtain ⟨rfl, h1, h2⟩ := hc
      cases e
      exact ⟨n, f, hw, fun h => h.elim (fun h => absurd h1 (Int32.not_le.mpr h)) (fun h => absurd h2 (Nat.not_lt.mpr h)), rfl⟩
    · cases e
  · cases e
theorem sR_spec {w w1 : MW} {C : String} {ci a : Nat} {i : Int32} {x : Nat} (e : sR w C ci a i x = some w1) : ∃ n f fs, w[a]? = some (.inl (.object C, n, .inr (.inr (.inr (.inr f))))) ∧ w[x]? = some (.inr (ci, fs)) ∧ vp_in i n ∧ w1 = w.set a (.inl (.object C, n, .inr (.inr (.inr (.inr (va_up f i.toNatClampNeg (some x))))))) := by
  unfold sR at e
  split at e
  · rename_i ty' n f c' fs hw hx
    split at e
    · rename_i hc
      obtain ⟨rfl, rfl, h1, h2⟩ := hc
      cases e
      exact ⟨n, f, fs, hw, hx, fun h => h.elim (fun h => absurd h1 (Int32.not_le.mpr h)) (fun h => absurd h2 (Nat.not_lt.mpr h)), rfl⟩
    · cases e
  · cases e
theorem aL_spec {w : MW} {ty : FieldType} {a : Nat} {x : Int32} (e : aL w ty a = some x) : ∃ y, w[a]? = some (.inl (ty, y)) ∧ x = Int32.ofNat y.1 := by
  unfold aL at e
  split at e
  · rename_i ty' y hw
    split at e
    · rename_i hc
      subst hc
      cases e
      exact ⟨y, hw, rfl⟩
    · cases e
  · cases e
theorem cl_spec {α : Type} {w : MW} {ci b : Nat} {x : Option α} {y : α} (e : cl w ci b x = some y) : ∃ fs, w[b]? = some (.inr (ci, fs)) ∧ x = some y := by
  unfold cl at e
  split at e
  · rename_i c' fs hw
    split at e
    · rename_i hc
      subst hc
      exact ⟨fs, hw, e⟩
    · cases e
  · cases e
theorem cpI_spec {w w1 : MW} {ty : FieldType} {a0 a1 : Nat} {sp dp n : Int32} (e : cpI w ty a0 sp a1 dp n = some w1) : ∃ n0 f n1 g, w[a0]? = some (.inl (ty, n0, .inl f)) ∧ w[a1]? = some (.inl (ty, n1, .inl g)) ∧ ¬ sp < 0 ∧ ¬ dp < 0 ∧ ¬ n < 0 ∧ sp.toNatClampNeg + n.toNatClampNeg ≤ n0 ∧ dp.toNatClampNeg + n.toNatClampNeg ≤ n1 ∧ (∀ i, i < n.toNatClampNeg → fits ty (.int (f (sp.toNatClampNeg + i))) = true) ∧ w1 = w.set a1 (.inl (ty, n1, .inl (va_cpy f g sp.toNatClampNeg dp.toNatClampNeg n.toNatClampNeg))) := by
  unfold cpI at e
  split at e
  · rename_i t0 n0 f t1 n1 g hw0 hw1
    split at e
    · rename_i hc
      obtain ⟨rfl, rfl, h1, h2, h3, h4, h5, h6⟩ := hc
      cases e
      exact ⟨n0, f, n1, g, hw0, hw1, Int32.not_lt.mpr h1, Int32.not_lt.mpr h2, Int32.not_lt.mpr h3, h4, h5, h6, rfl⟩
    · cases e
  · cases e
/-- the tables' words that hold at every state of the run; those of nest mates -/
def GT : List Cond := lw_tbl.filter goodWord
def isNest : Cond → Bool
  | .fieldLinkNest _ _ _ _ _ _ => true
  | .methodLinkNest _ _ _ _ => true
  | _ => false
def NT : List Cond := lw_tbl.filter isNest
theorem mGT (i : Nat) {x : Cond} (h : lw_tbl[i]? = some x) (hg : goodWord x = true) : x ∈ GT := List.mem_filter.mpr ⟨List.mem_of_getElem? h, hg⟩
theorem mNT (i : Nat) {x : Cond} (h : lw_tbl[i]? = some x) (hg : isNest x = true) : x ∈ NT := List.mem_filter.mpr ⟨List.mem_of_getElem? h, hg⟩
theorem GT_good : ∀ x ∈ GT, (x.onTables && x.keeps) = true ∨ ∃ ty, x = .arrayClass ty := fun _ h => good_of_word (List.mem_filter.mp h).2
theorem GT_in {x : Cond} (hx : x ∈ GT) : GoodIn GT (x :: GT) := fun y hy => by
  rcases List.mem_cons.mp hy with rfl | h
  · exact ⟨hx, GT_good _ hx⟩
  · exact ⟨h, GT_good _ h⟩
/-- the class's texts -/
def sIx : List Nat := [78, 84, 86, 88, 90, 92, 94, 101, 103, 105, 107, 109, 111]
def sTx : List String := ["set", "mark", "cut", "join", "melt", "shift", "move", "s", "skk", "sks", "sb", "skks", "ss"]
def sLn : List Nat := [3, 4, 3, 4, 4, 5, 4, 1, 3, 3, 2, 4, 2]
def sBy : List (List Int32) := [[115, 101, 116], [109, 97, 114, 107], [99, 117, 116], [106, 111, 105, 110], [109, 101, 108, 116], [115, 104, 105, 102, 116], [109, 111, 118, 101], [115], [115, 107, 107], [115, 107, 115], [115, 98], [115, 107, 107, 115], [115, 115]]
/-- what stays as it is at every state: links of nest mates, texts, and a static of String's -/
def SW (ad : Nat → Nat) (A : Nat → Prop) (U : State) (H : Heap) : Prop :=
  (∀ x ∈ NT, va_Nw x U) ∧ (∀ i, i < 13 → vk_R RX5 (sIx.getD i 0) (sTx.getD i "") (ad (10000 + i)) U) ∧ vk_S 13 sLn sBy (fun i => ad (10000 + i)) (fun i => ad (20000 + i)) A U H ∧ va_Z "java/lang/String" "COMPACT_STRINGS" "Z" (.int 1) A U H ∧ (∀ C ∈ [RX0, RX6, RX1], va_AO C U) ∧ (va_Z "jdk/internal/util/Preconditions" "SIOOBE_FORMATTER" "Ljava/util/function/BiFunction;" .null A U H ∨ va_Z "jdk/internal/util/Preconditions" "SIOOBE_FORMATTER" "Ljava/util/function/BiFunction;" (.ref (ad 30000)) A U H)
theorem SW.warm {ad : Nat → Nat} {A : Nat → Prop} {s U : State} {H : Heap} (hW : s.WarmedH U.vm) (h : SW ad A s H) : SW ad A U H := by
  obtain ⟨h1, h2, h3, h4, h5, h6⟩ := h
  refine ⟨fun x hx => ?_, fun i hi => (h2 i hi).warm hW, h3.moved hW.alike, h4.moved hW.alike, fun C hC => (h5 C hC).moved hW.alike, h6.imp (fun h => h.moved hW.alike) (fun h => h.moved hW.alike)⟩
  have hn := (List.mem_filter.mp hx).2
  have hb := h1 x hx
  cases x <;> first | exact va_Nw.warmF hW hb | exact va_Nw.warmM hW hb | exact absurd hn (by simp [isNest])
theorem SW.kept {ad : Nat → Nat} {A : Nat → Prop} {U : State} {H H1 : Heap} (h : SW ad A U H) (hq : ∀ a : Nat, a < H.size → ¬ A a → H1[a]? = H[a]?) : SW ad A U H1 := by
  obtain ⟨h1, h2, h3, h4, h5, h6⟩ := h
  exact ⟨h1, h2, h3.kept hq, h4.kept hq, h5, h6.imp (fun h => h.kept hq) (fun h => h.kept hq)⟩
theorem SW.narrow {ad : Nat → Nat} {A B : Nat → Prop} {U : State} {H : Heap} (h : SW ad A U H) (hAB : ∀ q, B q → A q) : SW ad B U H := by
  obtain ⟨h1, h2, h3, h4, h5, h6⟩ := h
  exact ⟨h1, h2, h3.narrow hAB, h4.narrow hAB, h5, h6.imp (fun h => h.narrow hAB) (fun h => h.narrow hAB)⟩
theorem SW.calling {ad : Nat → Nat} {A : Nat → Prop} {U : State} {H : Heap} {g : JFrame} {mk : MethodId} {a : Array Value} (h : SW ad A U H) : SW ad A (U.calling g mk a) H := by
  obtain ⟨h1, h2, h3, h4, h5, h6⟩ := h
  refine ⟨fun x hx => ?_, fun i hi => (h2 i hi).same (U := U.calling g mk a) rfl, h3.moved (U := U.calling g mk a) (Vm.Alike.refl U.vm), h4.moved (U := U.calling g mk a) (Vm.Alike.refl U.vm), fun C hC => (h5 C hC).moved (U := U.calling g mk a) (Vm.Alike.refl U.vm), h6.imp (fun h => h.moved (U := U.calling g mk a) (Vm.Alike.refl U.vm)) (fun h => h.moved (U := U.calling g mk a) (Vm.Alike.refl U.vm))⟩
  have hn := (List.mem_filter.mp hx).2
  refine va_Nw.same ?_ (rfl : U.vm = (U.calling g mk a).vm) (h1 x hx)
  cases x <;> first | rfl | exact absurd hn (by simp [isNest])
theorem SW.ad {ad ad' : Nat → Nat} {A : Nat → Prop} {U : State} {H : Heap} (h : SW ad A U H) (e : ∀ k, 10000 ≤ k → ad' k = ad k) : SW ad' A U H := by
  obtain ⟨h1, h2, h3, h4, h5, h6⟩ := h
  have e2 : (fun i => ad' (10000 + i)) = fun i => ad (10000 + i) := funext fun i => e _ (Nat.le_add_right _ _)
  have e3 : (fun i => ad' (20000 + i)) = fun i => ad (20000 + i) := funext fun i => e _ (by omega)
  refine ⟨h1, fun i hi => ?_, ?_, h4, h5, by rw [e 30000 (by omega)]; exact h6⟩
  · rw [e _ (Nat.le_add_right _ _)]; exact h2 i hi
  · rw [e2, e3]; exact h3
def tyL (dA : FieldType → ClassId) : List (ClassId × FieldType) := [(dA .int, .int), (dA .byte, .byte), (dA .boolean, .boolean), (dA (.object RX0), .object RX0), (dA (.object RX6), .object RX6), (dA (.object RX1), .object RX1)]
/-- what holds all through a method's body -/
def jcx (p : Program) (s : State) (m : MethodId) (args : Array Value) (meth : Method) (c : Code) (cc : ByteArray) (nL : Nat) (own : String) (ret : Option FieldType) (D : va_G) (dA : FieldType → ClassId) (A : Nat → Prop) (E : (Nat → Nat) → Prop) : Prop :=
  p.tables.exec = Jvm.exec ∧ c.code = cc ∧ c.maxLocals = nL ∧ s.vm.findClass own = some m.cls ∧ (∀ x ∈ GT, x.before args s = true) ∧ va_K D vwCl (tyL dA) s ∧ meth.sig.returnType = ret ∧ meth.locks = false ∧ (∀ q, s.heap.size ≤ q → A q) ∧ (∀ ad, E ad → SW ad A s s.heap)
/-- the machine's judgement over a world -/
def JW (p : Program) (l : Launch) (e : Env) (R : Room) (s : State) (m : MethodId) (args : Array Value) (below : List Frame) (meth : Method) (c : Code) (nL : Nat) (D : va_G) (dA : FieldType → ClassId) (A : Nat → Prop) (E : (Nat → Nat) → Prop) (Q : State → Prop) (cells slots pc : Nat) (L : List (Nat × Value)) (S : List Value) (w : MW) : Prop :=
  ∀ (ad : Nat → Nat) (H : Heap) (locs : List Loc) (ls : Array Slot), E ad → va_P D vwCl (wi dA ad w) H → va_D A (wi dA ad w) → va_S A s.heap H locs → lv_has ls nL (L.map (fun q => (q.1, rv ad q.2))) → W p l e R s m args below meth c H locs cells slots Q (F0 m pc ls (S.map (rv ad)))
/-- a method's end -/
def Qr (D : va_G) (dA : FieldType → ClassId) (E : (Nat → Nat) → Prop) (r : Option Value) (w' : MW) (A : Nat → Prop) : Array Value → State → Outcome → State → Prop := fun _ st o t =>
  ∃ ad, E ad ∧ o = .returned (r.map (rv ad)) ∧ va_P D vwCl (wi dA ad w') t.heap ∧ va_D A (wi dA ad w') ∧ va_F A st t
/-- a method's start -/
def Pj (D : va_G) (dA : FieldType → ClassId) (ad : Nat → Nat) (as : List Value) (w : MW) (sz : Nat) : Array Value → State → Prop :=
  va_Pc (as.map (rv ad)) (fun U => U.heap.size = sz ∧ va_P D vwCl (wi dA ad w) U.heap ∧ va_K D vwCl (tyL dA) U ∧ va_D (fun _ => True) (wi dA ad w) ∧ SW ad (va_A (wi dA ad w) sz) U U.heap)
def EN (ad : Nat → Nat) : (Nat → Nat) → Prop := fun ad' => ad' = ad
def EA (n : Nat) (ad : Nat → Nat) : (Nat → Nat) → Prop := fun ad' => ∀ k, (k < n ∨ 10000 ≤ k) → ad' k = ad k
/-- a method's contract: it makes no cell -/
def CT (l : Launch) (D : va_G) (dA : FieldType → ClassId) (y : MethodName) (cc : ByteArray) (maxL : Nat) (ret : Option FieldType) (rm : Room) (as : List Value) (w : MW) (r : Option Value) (w' : MW) : Prop :=
  ∀ (ad : Nat → Nat) (sz : Nat), Met l y (.code y cc maxL ret :: GT) rm (Pj D dA ad as w sz) (Qr D dA (EN ad) r w' (va_A (wi dA ad w) sz)) 0 0 (va_A (wi dA ad w) sz)
/-- a method's contract: it makes cells -/
def CA (l : Launch) (D : va_G) (dA : FieldType → ClassId) (y : MethodName) (cc : ByteArray) (maxL : Nat) (ret : Option FieldType) (rm : Room) (mc ms : Nat) (as : List Value) (w : MW) (r : Option Value) (w' : MW) : Prop :=
  ∀ (ad : Nat → Nat) (sz : Nat), Met l y (.code y cc maxL ret :: GT) rm (Pj D dA ad as w sz) (Qr D dA (EA w.length ad) r w' (va_A (wi dA ad w) sz)) mc ms (va_A (wi dA ad w) sz)
end
section
section JR
variable {p : Program} {l : Launch} {e : Env} {R : Room} {s : State} {m : MethodId} {args : Array Value} {below : List Frame} {meth : Method} {c : Code} {Q : State → Prop} {cells slots : Nat}
variable {cc : ByteArray} {nL : Nat} {own : String} {ret : Option FieldType} {D : va_G} {dA : FieldType → ClassId} {A : Nat → Prop} {E : (Nat → Nat) → Prop}
variable {pc : Nat} {L : List (Nat × Value)} {S : List Value} {w : MW} {ρ : Type} {r : ρ}
theorem J_iconst (C : jcx p s m args meth c cc nL own ret D dA A E) {n : Int} {v : Int32} (hd : decode cc pc = .ok (.iconst n, 1)) (hv : Int32.ofInt n = v) (k : JW p l e R s m args below meth c nL D dA A E Q cells slots (pc + 1) L (.int v :: S) w) : JW p l e R s m args below meth c nL D dA A E Q cells slots pc L S w := fun ad H locs ls hE hP hD hS hl => lv_iconst C.1 C.2.1 hd hv (k ad H locs ls hE hP hD hS hl)
theorem J_bipush (C : jcx p s m args meth c cc nL own ret D dA A E) {n : Int} {v : Int32} (hd : decode cc pc = .ok (.bipush n, 2)) (hv : (Int8.ofInt n).toInt32 = v) (k : JW p l e R s m args below meth c nL D dA A E Q cells slots (pc + 2) L (.int v :: S) w) : JW p l e R s m args below meth c nL D dA A E Q cells slots pc L S w := fun ad H locs ls hE hP hD hS hl => lv_bipush C.1 C.2.1 hd hv (k ad H locs ls hE hP hD hS hl)
theorem J_sipush (C : jcx p s m args meth c cc nL own ret D dA A E) {n : Int} {v : Int32} (hd : decode cc pc = .ok (.sipush n, 3)) (hv : (Int16.ofInt n).toInt32 = v) (k : JW p l e R s m args below meth c nL D dA A E Q cells slots (pc + 3) L (.int v :: S) w) : JW p l e R s m args below meth c nL D dA A E Q cells slots pc L S w := fun ad H locs ls hE hP hD hS hl => lv_sipush C.1 C.2.1 hd hv (k ad H locs ls hE hP hD hS hl)
theorem J_lconst (C : jcx p s m args meth c cc nL own ret D dA A E) {n : Fin 2} {v : Int64} (hd : decode cc pc = .ok (.lconst n, 1)) (hv : Int64.ofNat (n : Nat) = v) (k : JW p l e R s m args below meth c nL D dA A E Q cells slots (pc + 1) L (.long v :: S) w) : JW p l e R s m args below meth c nL D dA A E Q cells slots pc L S w := fun ad H locs ls hE hP hD hS hl => lv_lconst C.1 C.2.1 hd hv (k ad H locs ls hE hP hD hS hl)
theorem J_ldc (C : jcx p s m args meth c cc nL own ret D dA A E) {n : Nat} {v : Int32} (hd : decode cc pc = .ok (.ldc n, 2)) (hw : Cond.constant own n v ∈ GT) (k : JW p l e R s m args below meth c nL D dA A E Q cells slots (pc + 2) L (.int v :: S) w) : JW p l e R s m args below meth c nL D dA A E Q cells slots pc L S w := fun ad H locs ls hE hP hD hS hl => lv_ldc C.1 C.2.1 C.2.2.2.1 (C.2.2.2.2.1 _ hw) hd (k ad H locs ls hE hP hD hS hl)
theorem J_ldcw (C : jcx p s m args meth c cc nL own ret D dA A E) {n : Nat} {v : Int32} (hd : decode cc pc = .ok (.ldc_w n, 3)) (hw : Cond.constant own n v ∈ GT) (k : JW p l e R s m args below meth c nL D dA A E Q cells slots (pc + 3) L (.int v :: S) w) : JW p l e R s m args below meth c nL D dA A E Q cells slots pc L S w := fun ad H locs ls hE hP hD hS hl => lv_ldcw C.1 C.2.1 C.2.2.2.1 (C.2.2.2.2.1 _ hw) hd (k ad H locs ls hE hP hD hS hl)
theorem J_ldc2 (C : jcx p s m args meth c cc nL own ret D dA A E) {n : Nat} {v : Int64} (hd : decode cc pc = .ok (.ldc2_w n, 3)) (hw : Cond.constantLong own n v ∈ GT) (k : JW p l e R s m args below meth c nL D dA A E Q cells slots (pc + 3) L (.long v :: S) w) : JW p l e R s m args below meth c nL D dA A E Q cells slots pc L S w := fun ad H locs ls hE hP hD hS hl => lv_ldc2 C.1 C.2.1 C.2.2.2.1 (C.2.2.2.2.1 _ hw) hd (k ad H locs ls hE hP hD hS hl)
theorem J_ldcS (C : jcx p s m args meth c cc nL own ret D dA A E) {n : Nat} (i : Nat) (hi : i < 13) (hn : sIx.getD i 0 = n) (ho : own = RX5) (hd : decode cc pc = .ok (.ldc n, 2)) (k : JW p l e R s m args below meth c nL D dA A E Q cells slots (pc + 2) L (.ref (10000 + i) :: S) w) : JW p l e R s m args below meth c nL D dA A E Q cells slots pc L S w := fun ad H locs ls hE hP hD hS hl => va_ldcS C.1 C.2.1 C.2.2.2.1 (ho ▸ hn ▸ (C.2.2.2.2.2.2.2.2.2 ad hE).2.1 i hi) hd (k ad H locs ls hE hP hD hS hl)
theorem lvm_at {ls : Array Slot} {nL : Nat} {ad : Nat → Nat} {L : List (Nat × Value)} (h : lv_has ls nL (L.map (fun q => (q.1, rv ad q.2)))) (j : Nat) {i : Nat} {v : Value} (hj : L[j]? = some (i, v)) : ls[i]? = some (.val (rv ad v)) := lv_at h j (by rw [List.getElem?_map, hj]; rfl)
theorem lvm_fil {ad : Nat → Nat} (i : Nat) (L : List (Nat × Value)) : (L.map (fun q => (q.1, rv ad q.2))).filter (fun q => !(q.1 == i) && !(q.1 + 1 == i && q.2.category == 2)) = (L.filter (fun q => !(q.1 == i) && !(q.1 + 1 == i && q.2.category == 2))).map (fun q => (q.1, rv ad q.2)) := by
  rw [List.filter_map]
  congr 1
  apply List.filter_congr
  intro q _
  simp [Function.comp, rv_cat]
theorem lvm_fil2 {ad : Nat → Nat} (i : Nat) (L : List (Nat × Value)) : (L.map (fun q => (q.1, rv ad q.2))).filter (fun q => !(q.1 == i) && (!(q.1 == i + 1) && !(q.1 + 1 == i && q.2.category == 2))) = (L.filter (fun q => !(q.1 == i) && (!(q.1 == i + 1) && !(q.1 + 1 == i && q.2.category == 2)))).map (fun q => (q.1, rv ad q.2)) := by
  rw [List.filter_map]
  congr 1
  apply List.filter_congr
  intro q _
  simp [Function.comp, rv_cat]
/-- storing at place i: what is listed then -/
def lst (i : Nat) (v : Value) (L : List (Nat × Value)) : List (Nat × Value) := (i, v) :: L.filter (fun q => !(q.1 == i) && !(q.1 + 1 == i && q.2.category == 2))
def lst2 (i : Nat) (v : Value) (L : List (Nat × Value)) : List (Nat × Value) := (i, v) :: L.filter (fun q => !(q.1 == i) && (!(q.1 == i + 1) && !(q.1 + 1 == i && q.2.category == 2)))
theorem J_iload_n (C : jcx p s m args meth c cc nL own ret D dA A E) {n : Fin 4} {i : Nat} {x : Int32} (hd : decode cc pc = .ok (.iload_n n, 1)) (hi : (n : Nat) = i) (j : Nat) (hj : L[j]? = some (i, .int x)) (k : JW p l e R s m args below meth c nL D dA A E Q cells slots (pc + 1) L (.int x :: S) w) : JW p l e R s m args below meth c nL D dA A E Q cells slots pc L S w := fun ad H locs ls hE hP hD hS hl => lv_iload_n C.1 C.2.1 hd hi (lvm_at hl j hj) (k ad H locs ls hE hP hD hS hl)
theorem J_iload (C : jcx p s m args meth c cc nL own ret D dA A E) {i : Nat} {x : Int32} (hd : decode cc pc = .ok (.iload i, 2)) (j : Nat) (hj : L[j]? = some (i, .int x)) (k : JW p l e R s m args below meth c nL D dA A E Q cells slots (pc + 2) L (.int x :: S) w) : JW p l e R s m args below meth c nL D dA A E Q cells slots pc L S w := fun ad H locs ls hE hP hD hS hl => lv_iload C.1 C.2.1 hd (lvm_at hl j hj) (k ad H locs ls hE hP hD hS hl)
theorem J_lload_n (C : jcx p s m args meth c cc nL own ret D dA A E) {n : Fin 4} {i : Nat} {x : Int64} (hd : decode cc pc = .ok (.lload_n n, 1)) (hi : (n : Nat) = i) (j : Nat) (hj : L[j]? = some (i, .long x)) (k : JW p l e R s m args below meth c nL D dA A E Q cells slots (pc + 1) L (.long x :: S) w) : JW p l e R s m args below meth c nL D dA A E Q cells slots pc L S w := fun ad H locs ls hE hP hD hS hl => lv_lload_n C.1 C.2.1 hd hi (lvm_at hl j hj) (k ad H locs ls hE hP hD hS hl)
theorem J_lload (C : jcx p s m args meth c cc nL own ret D dA A E) {i : Nat} {x : Int64} (hd : decode cc pc = .ok (.lload i, 2)) (j : Nat) (hj : L[j]? = some (i, .long x)) (k : JW p l e R s m args below meth c nL D dA A E Q cells slots (pc + 2) L (.long x :: S) w) : JW p l e R s m args below meth c nL D dA A E Q cells slots pc L S w := fun ad H locs ls hE hP hD hS hl => lv_lload C.1 C.2.1 hd (lvm_at hl j hj) (k ad H locs ls hE hP hD hS hl)
theorem J_aload_n (C : jcx p s m args meth c cc nL own ret D dA A E) {n : Fin 4} {i : Nat} {x : Nat} (hd : decode cc pc = .ok (.aload_n n, 1)) (hi : (n : Nat) = i) (j : Nat) (hj : L[j]? = some (i, .ref x)) (k : JW p l e R s m args below meth c nL D dA A E Q cells slots (pc + 1) L (.ref x :: S) w) : JW p l e R s m args below meth c nL D dA A E Q cells slots pc L S w := fun ad H locs ls hE hP hD hS hl => lv_aload_n C.1 C.2.1 hd hi (lvm_at hl j hj) (k ad H locs ls hE hP hD hS hl)
theorem J_aload (C : jcx p s m args meth c cc nL own ret D dA A E) {i : Nat} {x : Nat} (hd : decode cc pc = .ok (.aload i, 2)) (j : Nat) (hj : L[j]? = some (i, .ref x)) (k : JW p l e R s m args below meth c nL D dA A E Q cells slots (pc + 2) L (.ref x :: S) w) : JW p l e R s m args below meth c nL D dA A E Q cells slots pc L S w := fun ad H locs ls hE hP hD hS hl => lv_aload C.1 C.2.1 hd (lvm_at hl j hj) (k ad H locs ls hE hP hD hS hl)
theorem J_aload_nN (C : jcx p s m args meth c cc nL own ret D dA A E) {n : Fin 4} {i : Nat} (hd : decode cc pc = .ok (.aload_n n, 1)) (hi : (n : Nat) = i) (j : Nat) (hj : L[j]? = some (i, .null)) (k : JW p l e R s m args below meth c nL D dA A E Q cells slots (pc + 1) L (.null :: S) w) : JW p l e R s m args below meth c nL D dA A E Q cells slots pc L S w := fun ad H locs ls hE hP hD hS hl => lv_aload_nN C.1 C.2.1 hd hi (lvm_at hl j hj) (k ad H locs ls hE hP hD hS hl)
theorem J_aloadN (C : jcx p s m args meth c cc nL own ret D dA A E) {i : Nat} (hd : decode cc pc = .ok (.aload i, 2)) (j : Nat) (hj : L[j]? = some (i, .null)) (k : JW p l e R s m args below meth c nL D dA A E Q cells slots (pc + 2) L (.null :: S) w) : JW p l e R s m args below meth c nL D dA A E Q cells slots pc L S w := fun ad H locs ls hE hP hD hS hl => lv_aloadN C.1 C.2.1 hd (lvm_at hl j hj) (k ad H locs ls hE hP hD hS hl)
theorem J_istore_n (C : jcx p s m args meth c cc nL own ret D dA A E) {n : Fin 4} {i : Nat} {x : Int32} {K : Int32 → ρ} (hd : decode cc pc = .ok (.istore_n n, 1)) (hi : (n : Nat) = i) (hn : i < nL) (hf : bnd x K = r) (L1 : Int32 → List (Nat × Value)) (hL : ∀ v, lst i (.int v) L = L1 v) (k : ∀ v, K v = r → JW p l e R s m args below meth c nL D dA A E Q cells slots (pc + 1) (L1 v) S w) : JW p l e R s m args below meth c nL D dA A E Q cells slots pc L (.int x :: S) w := fun ad H locs ls hE hP hD hS hl => lv_istore_n C.1 C.2.1 hd hi hl hn rfl (fun ls hl => k x hf ad H locs ls hE hP hD hS (by rw [← hL]; rw [lvm_fil] at hl; exact hl))
theorem J_istore (C : jcx p s m args meth c cc nL own ret D dA A E) {i : Nat} {x : Int32} {K : Int32 → ρ} (hd : decode cc pc = .ok (.istore i, 2)) (hn : i < nL) (hf : bnd x K = r) (L1 : Int32 → List (Nat × Value)) (hL : ∀ v, lst i (.int v) L = L1 v) (k : ∀ v, K v = r → JW p l e R s m args below meth c nL D dA A E Q cells slots (pc + 2) (L1 v) S w) : JW p l e R s m args below meth c nL D dA A E Q cells slots pc L (.int x :: S) w := fun ad H locs ls hE hP hD hS hl => lv_istore C.1 C.2.1 hd hl hn rfl (fun ls hl => k x hf ad H locs ls hE hP hD hS (by rw [← hL]; rw [lvm_fil] at hl; exact hl))
theorem J_lstore_n (C : jcx p s m args meth c cc nL own ret D dA A E) {n : Fin 4} {i : Nat} {x : Int64} {K : Int64 → ρ} (hd : decode cc pc = .ok (.lstore_n n, 1)) (hi : (n : Nat) = i) (hn : i + 1 < nL) (hf : bnd x K = r) (L1 : Int64 → List (Nat × Value)) (hL : ∀ v, lst2 i (.long v) L = L1 v) (k : ∀ v, K v = r → JW p l e R s m args below meth c nL D dA A E Q cells slots (pc + 1) (L1 v) S w) : JW p l e R s m args below meth c nL D dA A E Q cells slots pc L (.long x :: S) w := fun ad H locs ls hE hP hD hS hl => lv_lstore_n C.1 C.2.1 hd hi hl hn rfl (fun ls hl => k x hf ad H locs ls hE hP hD hS (by rw [← hL]; rw [lvm_fil2] at hl; exact hl))
theorem J_lstore (C : jcx p s m args meth c cc nL own ret D dA A E) {i : Nat} {x : Int64} {K : Int64 → ρ} (hd : decode cc pc = .ok (.lstore i, 2)) (hn : i + 1 < nL) (hf : bnd x K = r) (L1 : Int64 → List (Nat × Value)) (hL : ∀ v, lst2 i (.long v) L = L1 v) (k : ∀ v, K v = r → JW p l e R s m args below meth c nL D dA A E Q cells slots (pc + 2) (L1 v) S w) : JW p l e R s m args below meth c nL D dA A E Q cells slots pc L (.long x :: S) w := fun ad H locs ls hE hP hD hS hl => lv_lstore C.1 C.2.1 hd hl hn rfl (fun ls hl => k x hf ad H locs ls hE hP hD hS (by rw [← hL]; rw [lvm_fil2] at hl; exact hl))
theorem J_astore_n (C : jcx p s m args meth c cc nL own ret D dA A E) {n : Fin 4} {i : Nat} {x : Nat} (hd : decode cc pc = .ok (.astore_n n, 1)) (hi : (n : Nat) = i) (hn : i < nL) (L1 : List (Nat × Value)) (hL : lst i (.ref x) L = L1) (k : JW p l e R s m args below meth c nL D dA A E Q cells slots (pc + 1) L1 S w) : JW p l e R s m args below meth c nL D dA A E Q cells slots pc L (.ref x :: S) w := fun ad H locs ls hE hP hD hS hl => lv_astore_n C.1 C.2.1 hd hi hl hn rfl (fun ls hl => k ad H locs ls hE hP hD hS (by rw [← hL]; rw [lvm_fil] at hl; exact hl))
theorem J_astore_nN (C : jcx p s m args meth c cc nL own ret D dA A E) {n : Fin 4} {i : Nat} (hd : decode cc pc = .ok (.astore_n n, 1)) (hi : (n : Nat) = i) (hn : i < nL) (L1 : List (Nat × Value)) (hL : lst i .null L = L1) (k : JW p l e R s m args below meth c nL D dA A E Q cells slots (pc + 1) L1 S w) : JW p l e R s m args below meth c nL D dA A E Q cells slots pc L (.null :: S) w := fun ad H locs ls hE hP hD hS hl => lv_astore_nN C.1 C.2.1 hd hi hl hn rfl (fun ls hl => k ad H locs ls hE hP hD hS (by rw [← hL]; rw [lvm_fil] at hl; exact hl))
theorem J_astore (C : jcx p s m args meth c cc nL own ret D dA A E) {i : Nat} {x : Nat} (hd : decode cc pc = .ok (.astore i, 2)) (hn : i < nL) (L1 : List (Nat × Value)) (hL : lst i (.ref x) L = L1) (k : JW p l e R s m args below meth c nL D dA A E Q cells slots (pc + 2) L1 S w) : JW p l e R s m args below meth c nL D dA A E Q cells slots pc L (.ref x :: S) w := fun ad H locs ls hE hP hD hS hl => lv_astore C.1 C.2.1 hd hl hn rfl (fun ls hl => k ad H locs ls hE hP hD hS (by rw [← hL]; rw [lvm_fil] at hl; exact hl))
theorem J_astoreN (C : jcx p s m args meth c cc nL own ret D dA A E) {i : Nat} (hd : decode cc pc = .ok (.astore i, 2)) (hn : i < nL) (L1 : List (Nat × Value)) (hL : lst i .null L = L1) (k : JW p l e R s m args below meth c nL D dA A E Q cells slots (pc + 2) L1 S w) : JW p l e R s m args below meth c nL D dA A E Q cells slots pc L (.null :: S) w := fun ad H locs ls hE hP hD hS hl => lv_astoreN C.1 C.2.1 hd hl hn rfl (fun ls hl => k ad H locs ls hE hP hD hS (by rw [← hL]; rw [lvm_fil] at hl; exact hl))
theorem J_iinc (C : jcx p s m args meth c cc nL own ret D dA A E) {i : Nat} {n : Int} {x y : Int32} {K : Int32 → ρ} (hd : decode cc pc = .ok (.iinc i n, 3)) (j : Nat) (hj : L[j]? = some (i, .int x)) (hv : x + Int32.ofInt n = y) (hn : i < nL) (hf : bnd y K = r) (L1 : Int32 → List (Nat × Value)) (hL : ∀ v, lst i (.int v) L = L1 v) (k : ∀ v, K v = r → JW p l e R s m args below meth c nL D dA A E Q cells slots (pc + 3) (L1 v) S w) : JW p l e R s m args below meth c nL D dA A E Q cells slots pc L S w := fun ad H locs ls hE hP hD hS hl => lv_iinc C.1 C.2.1 hd hl (k := j) (by rw [List.getElem?_map, hj]; rfl) hv hn rfl (fun ls hl => k y hf ad H locs ls hE hP hD hS (by rw [← hL]; rw [lvm_fil] at hl; exact hl))
/-- fewer locals, in any order -/
theorem J_sub (js : List Nat) {L1 : List (Nat × Value)} (h : lv_pick L js = L1) (k : JW p l e R s m args below meth c nL D dA A E Q cells slots pc L1 S w) : JW p l e R s m args below meth c nL D dA A E Q cells slots pc L S w := fun ad H locs ls hE hP hD hS hl => k ad H locs ls hE hP hD hS (lv_sub hl js (by rw [← h]; unfold lv_pick; rw [List.map_filterMap]; simp))
/-- a name for a value on the stack -/
theorem J_bnd {x : Int32} {K : Int32 → ρ} (hf : bnd x K = r) (k : ∀ v, K v = r → JW p l e R s m args below meth c nL D dA A E Q cells slots pc L (.int v :: S) w) : JW p l e R s m args below meth c nL D dA A E Q cells slots pc L (.int x :: S) w := k x hf
theorem J_iadd (C : jcx p s m args meth c cc nL own ret D dA A E) {x y : Int32} (hd : decode cc pc = .ok (.iadd, 1)) (k : JW p l e R s m args below meth c nL D dA A E Q cells slots (pc + 1) L (.int (x + y) :: S) w) : JW p l e R s m args below meth c nL D dA A E Q cells slots pc L (.int y :: .int x :: S) w := fun ad H locs ls hE hP hD hS hl => lv_iadd C.1 C.2.1 hd (k ad H locs ls hE hP hD hS hl)
theorem J_isub (C : jcx p s m args meth c cc nL own ret D dA A E) {x y : Int32} (hd : decode cc pc = .ok (.isub, 1)) (k : JW p l e R s m args below meth c nL D dA A E Q cells slots (pc + 1) L (.int (x - y) :: S) w) : JW p l e R s m args below meth c nL D dA A E Q cells slots pc L (.int y :: .int x :: S) w := fun ad H locs ls hE hP hD hS hl => lv_isub C.1 C.2.1 hd (k ad H locs ls hE hP hD hS hl)
theorem J_imul (C : jcx p s m args meth c cc nL own ret D dA A E) {x y : Int32} (hd : decode cc pc = .ok (.imul, 1)) (k : JW p l e R s m args below meth c nL D dA A E Q cells slots (pc + 1) L (.int (x * y) :: S) w) : JW p l e R s m args below meth c nL D dA A E Q cells slots pc L (.int y :: .int x :: S) w := fun ad H locs ls hE hP hD hS hl => lv_imul C.1 C.2.1 hd (k ad H locs ls hE hP hD hS hl)
theorem J_iand (C : jcx p s m args meth c cc nL own ret D dA A E) {x y : Int32} (hd : decode cc pc = .ok (.iand, 1)) (k : JW p l e R s m args below meth c nL D dA A E Q cells slots (pc + 1) L (.int (x &&& y) :: S) w) : JW p l e R s m args below meth c nL D dA A E Q cells slots pc L (.int y :: .int x :: S) w := fun ad H locs ls hE hP hD hS hl => lv_iand C.1 C.2.1 hd (k ad H locs ls hE hP hD hS hl)
theorem J_ior (C : jcx p s m args meth c cc nL own ret D dA A E) {x y : Int32} (hd : decode cc pc = .ok (.ior, 1)) (k : JW p l e R s m args below meth c nL D dA A E Q cells slots (pc + 1) L (.int (x ||| y) :: S) w) : JW p l e R s m args below meth c nL D dA A E Q cells slots pc L (.int y :: .int x :: S) w := fun ad H locs ls hE hP hD hS hl => lv_ior C.1 C.2.1 hd (k ad H locs ls hE hP hD hS hl)
theorem J_ixor (C : jcx p s m args meth c cc nL own ret D dA A E) {x y : Int32} (hd : decode cc pc = .ok (.ixor, 1)) (k : JW p l e R s m args below meth c nL D dA A E Q cells slots (pc + 1) L (.int (x ^^^ y) :: S) w) : JW p l e R s m args below meth c nL D dA A E Q cells slots pc L (.int y :: .int x :: S) w := fun ad H locs ls hE hP hD hS hl => lv_ixor C.1 C.2.1 hd (k ad H locs ls hE hP hD hS hl)
theorem J_ishl (C : jcx p s m args meth c cc nL own ret D dA A E) {x y : Int32} (hd : decode cc pc = .ok (.ishl, 1)) (k : JW p l e R s m args below meth c nL D dA A E Q cells slots (pc + 1) L (.int (x <<< (y &&& 31)) :: S) w) : JW p l e R s m args below meth c nL D dA A E Q cells slots pc L (.int y :: .int x :: S) w := fun ad H locs ls hE hP hD hS hl => lv_ishl C.1 C.2.1 hd (k ad H locs ls hE hP hD hS hl)
theorem J_ishr (C : jcx p s m args meth c cc nL own ret D dA A E) {x y : Int32} (hd : decode cc pc = .ok (.ishr, 1)) (k : JW p l e R s m args below meth c nL D dA A E Q cells slots (pc + 1) L (.int (x >>> (y &&& 31)) :: S) w) : JW p l e R s m args below meth c nL D dA A E Q cells slots pc L (.int y :: .int x :: S) w := fun ad H locs ls hE hP hD hS hl => lv_ishr C.1 C.2.1 hd (k ad H locs ls hE hP hD hS hl)
theorem J_ladd (C : jcx p s m args meth c cc nL own ret D dA A E) {x y : Int64} (hd : decode cc pc = .ok (.ladd, 1)) (k : JW p l e R s m args below meth c nL D dA A E Q cells slots (pc + 1) L (.long (x + y) :: S) w) : JW p l e R s m args below meth c nL D dA A E Q cells slots pc L (.long y :: .long x :: S) w := fun ad H locs ls hE hP hD hS hl => lv_ladd C.1 C.2.1 hd (k ad H locs ls hE hP hD hS hl)
theorem J_lsub (C : jcx p s m args meth c cc nL own ret D dA A E) {x y : Int64} (hd : decode cc pc = .ok (.lsub, 1)) (k : JW p l e R s m args below meth c nL D dA A E Q cells slots (pc + 1) L (.long (x - y) :: S) w) : JW p l e R s m args below meth c nL D dA A E Q cells slots pc L (.long y :: .long x :: S) w := fun ad H locs ls hE hP hD hS hl => lv_lsub C.1 C.2.1 hd (k ad H locs ls hE hP hD hS hl)
theorem J_lmul (C : jcx p s m args meth c cc nL own ret D dA A E) {x y : Int64} (hd : decode cc pc = .ok (.lmul, 1)) (k : JW p l e R s m args below meth c nL D dA A E Q cells slots (pc + 1) L (.long (x * y) :: S) w) : JW p l e R s m args below meth c nL D dA A E Q cells slots pc L (.long y :: .long x :: S) w := fun ad H locs ls hE hP hD hS hl => lv_lmul C.1 C.2.1 hd (k ad H locs ls hE hP hD hS hl)
theorem J_ineg (C : jcx p s m args meth c cc nL own ret D dA A E) {x : Int32} (hd : decode cc pc = .ok (.ineg, 1)) (k : JW p l e R s m args below meth c nL D dA A E Q cells slots (pc + 1) L (.int (-x) :: S) w) : JW p l e R s m args below meth c nL D dA A E Q cells slots pc L (.int x :: S) w := fun ad H locs ls hE hP hD hS hl => lv_ineg C.1 C.2.1 hd (k ad H locs ls hE hP hD hS hl)
def dv (x y : Int32) : Option Int32 := if y = 0 then none else some (x / y)
def rmd (x y : Int32) : Option Int32 := if y = 0 then none else some (x - x / y * y)
def ush (x y : Int32) : Int32 := (x.toUInt32 >>> (y.toUInt32 &&& Int32.toUInt32 31)).toInt32
def i2cF (x : Int32) : Int32 := (x.toUInt32 % 65536).toInt32
theorem bind_ok {α β : Type} {x : Option α} {K : α → Option β} {r : β} (h : x.bind K = some r) : ∃ y, x = some y ∧ K y = some r := by
  cases x with
  | none => cases h
  | some y => exact ⟨y, rfl, h⟩
theorem dv_spec {x y z : Int32} (h : dv x y = some z) : ¬ y = 0 ∧ z = x / y := by
  unfold dv at h
  split at h
  · cases h
  · rename_i hy; cases h; exact ⟨hy, rfl⟩
theorem rmd_spec {x y z : Int32} (h : rmd x y = some z) : ¬ y = 0 ∧ z = x - x / y * y := by
  unfold rmd at h
  split at h
  · cases h
  · rename_i hy; cases h; exact ⟨hy, rfl⟩
variable {ρ' : Type} {r' : ρ'}
theorem J_iushr (C : jcx p s m args meth c cc nL own ret D dA A E) {x y : Int32} (hd : decode cc pc = .ok (.iushr, 1)) (k : JW p l e R s m args below meth c nL D dA A E Q cells slots (pc + 1) L (.int (ush x y) :: S) w) : JW p l e R s m args below meth c nL D dA A E Q cells slots pc L (.int y :: .int x :: S) w := fun ad H locs ls hE hP hD hS hl => lv_iushr C.1 C.2.1 hd rfl (k ad H locs ls hE hP hD hS hl)
theorem J_i2l (C : jcx p s m args meth c cc nL own ret D dA A E) {x : Int32} (hd : decode cc pc = .ok (.i2l, 1)) (k : JW p l e R s m args below meth c nL D dA A E Q cells slots (pc + 1) L (.long x.toInt64 :: S) w) : JW p l e R s m args below meth c nL D dA A E Q cells slots pc L (.int x :: S) w := fun ad H locs ls hE hP hD hS hl => lv_i2l C.1 C.2.1 hd rfl (k ad H locs ls hE hP hD hS hl)
theorem J_l2i (C : jcx p s m args meth c cc nL own ret D dA A E) {x : Int64} (hd : decode cc pc = .ok (.l2i, 1)) (k : JW p l e R s m args below meth c nL D dA A E Q cells slots (pc + 1) L (.int x.toInt32 :: S) w) : JW p l e R s m args below meth c nL D dA A E Q cells slots pc L (.long x :: S) w := fun ad H locs ls hE hP hD hS hl => lv_l2i C.1 C.2.1 hd rfl (k ad H locs ls hE hP hD hS hl)
theorem J_i2b (C : jcx p s m args meth c cc nL own ret D dA A E) {x : Int32} (hd : decode cc pc = .ok (.i2b, 1)) (k : JW p l e R s m args below meth c nL D dA A E Q cells slots (pc + 1) L (.int x.toInt8.toInt32 :: S) w) : JW p l e R s m args below meth c nL D dA A E Q cells slots pc L (.int x :: S) w := fun ad H locs ls hE hP hD hS hl => lv_i2b C.1 C.2.1 hd rfl (k ad H locs ls hE hP hD hS hl)
theorem J_i2c (C : jcx p s m args meth c cc nL own ret D dA A E) {x : Int32} (hd : decode cc pc = .ok (.i2c, 1)) (k : JW p l e R s m args below meth c nL D dA A E Q cells slots (pc + 1) L (.int (i2cF x) :: S) w) : JW p l e R s m args below meth c nL D dA A E Q cells slots pc L (.int x :: S) w := fun ad H locs ls hE hP hD hS hl => lv_i2c C.1 C.2.1 hd rfl (k ad H locs ls hE hP hD hS hl)
theorem J_lcmp (C : jcx p s m args meth c cc nL own ret D dA A E) {x y : Int64} (hd : decode cc pc = .ok (.lcmp, 1)) (k : JW p l e R s m args below meth c nL D dA A E Q cells slots (pc + 1) L (.int (lg_cmp x y) :: S) w) : JW p l e R s m args below meth c nL D dA A E Q cells slots pc L (.long y :: .long x :: S) w := fun ad H locs ls hE hP hD hS hl => W.lcmp C.1 C.2.1 hd (k ad H locs ls hE hP hD hS hl)
theorem J_dup (C : jcx p s m args meth c cc nL own ret D dA A E) {v : Value} (hd : decode cc pc = .ok (.dup, 1)) (hv : v.category = 1) (k : JW p l e R s m args below meth c nL D dA A E Q cells slots (pc + 1) L (v :: v :: S) w) : JW p l e R s m args below meth c nL D dA A E Q cells slots pc L (v :: S) w := fun ad H locs ls hE hP hD hS hl => lv_dup C.1 C.2.1 hd ((rv_cat ad v).trans hv) (k ad H locs ls hE hP hD hS hl)
theorem J_pop (C : jcx p s m args meth c cc nL own ret D dA A E) {v : Value} (hd : decode cc pc = .ok (.pop, 1)) (hv : v.category = 1) (k : JW p l e R s m args below meth c nL D dA A E Q cells slots (pc + 1) L S w) : JW p l e R s m args below meth c nL D dA A E Q cells slots pc L (v :: S) w := fun ad H locs ls hE hP hD hS hl => lv_pop C.1 C.2.1 hd ((rv_cat ad v).trans hv) (k ad H locs ls hE hP hD hS hl)
theorem J_dup2 (C : jcx p s m args meth c cc nL own ret D dA A E) {v u : Value} (hd : decode cc pc = .ok (.dup2, 1)) (hv : v.category = 1) (hu : u.category = 1) (k : JW p l e R s m args below meth c nL D dA A E Q cells slots (pc + 1) L (v :: u :: v :: u :: S) w) : JW p l e R s m args below meth c nL D dA A E Q cells slots pc L (v :: u :: S) w := fun ad H locs ls hE hP hD hS hl => lv_dup2_11 C.1 C.2.1 hd ((rv_cat ad v).trans hv) ((rv_cat ad u).trans hu) (k ad H locs ls hE hP hD hS hl)
theorem J_idiv (C : jcx p s m args meth c cc nL own ret D dA A E) {x y : Int32} {K : Int32 → Option ρ} (hd : decode cc pc = .ok (.idiv, 1)) (hf : (dv x y).bind K = some r) (k : ∀ v, K v = some r → JW p l e R s m args below meth c nL D dA A E Q cells slots (pc + 1) L (.int v :: S) w) : JW p l e R s m args below meth c nL D dA A E Q cells slots pc L (.int y :: .int x :: S) w := by
  obtain ⟨v, h1, h2⟩ := bind_ok hf
  obtain ⟨h3, rfl⟩ := dv_spec h1
  exact fun ad H locs ls hE hP hD hS hl => lv_idiv C.1 C.2.1 hd h3 (k _ h2 ad H locs ls hE hP hD hS hl)
theorem J_irem (C : jcx p s m args meth c cc nL own ret D dA A E) {x y : Int32} {K : Int32 → Option ρ} (hd : decode cc pc = .ok (.irem, 1)) (hf : (rmd x y).bind K = some r) (k : ∀ v, K v = some r → JW p l e R s m args below meth c nL D dA A E Q cells slots (pc + 1) L (.int v :: S) w) : JW p l e R s m args below meth c nL D dA A E Q cells slots pc L (.int y :: .int x :: S) w := by
  obtain ⟨v, h1, h2⟩ := bind_ok hf
  obtain ⟨h3, rfl⟩ := rmd_spec h1
  exact fun ad H locs ls hE hP hD hS hl => lv_irem C.1 C.2.1 hd h3 (k _ h2 ad H locs ls hE hP hD hS hl)
theorem J_if_eq (C : jcx p s m args meth c cc nL own ret D dA A E) {x : Int32} {off : Int} {tgt : Nat} {T F : ρ} (hd : decode cc pc = .ok (.ifCond .eq off, 3)) (ht : (pc : Int) + off = (tgt : Int)) (hf : (if x = 0 then T else F) = r) (kt : x = 0 → T = r → JW p l e R s m args below meth c nL D dA A E Q cells slots tgt L S w) (kf : ¬ x = 0 → F = r → JW p l e R s m args below meth c nL D dA A E Q cells slots (pc + 3) L S w) : JW p l e R s m args below meth c nL D dA A E Q cells slots pc L (.int x :: S) w := fun ad H locs ls hE hP hD hS hl => lv_if_eq C.1 C.2.1 hd ht (fun h => kt h (by rw [if_pos h] at hf; exact hf) ad H locs ls hE hP hD hS hl) (fun h => kf h (by rw [if_neg h] at hf; exact hf) ad H locs ls hE hP hD hS hl)
theorem J_icmp_eq (C : jcx p s m args meth c cc nL own ret D dA A E) {x y : Int32} {off : Int} {tgt : Nat} {T F : ρ} (hd : decode cc pc = .ok (.if_icmp .eq off, 3)) (ht : (pc : Int) + off = (tgt : Int)) (hf : (if x = y then T else F) = r) (kt : x = y → T = r → JW p l e R s m args below meth c nL D dA A E Q cells slots tgt L S w) (kf : ¬ x = y → F = r → JW p l e R s m args below meth c nL D dA A E Q cells slots (pc + 3) L S w) : JW p l e R s m args below meth c nL D dA A E Q cells slots pc L (.int y :: .int x :: S) w := fun ad H locs ls hE hP hD hS hl => lv_icmp_eq C.1 C.2.1 hd ht (fun h => kt h (by rw [if_pos h] at hf; exact hf) ad H locs ls hE hP hD hS hl) (fun h => kf h (by rw [if_neg h] at hf; exact hf) ad H locs ls hE hP hD hS hl)
theorem J_if_ne (C : jcx p s m args meth c cc nL own ret D dA A E) {x : Int32} {off : Int} {tgt : Nat} {T F : ρ} (hd : decode cc pc = .ok (.ifCond .ne off, 3)) (ht : (pc : Int) + off = (tgt : Int)) (hf : (if x = 0 then F else T) = r) (kt : ¬ x = 0 → T = r → JW p l e R s m args below meth c nL D dA A E Q cells slots tgt L S w) (kf : x = 0 → F = r → JW p l e R s m args below meth c nL D dA A E Q cells slots (pc + 3) L S w) : JW p l e R s m args below meth c nL D dA A E Q cells slots pc L (.int x :: S) w := fun ad H locs ls hE hP hD hS hl => lv_if_ne C.1 C.2.1 hd ht (fun h => kt h (by rw [if_neg h] at hf; exact hf) ad H locs ls hE hP hD hS hl) (fun h => kf h (by rw [if_pos h] at hf; exact hf) ad H locs ls hE hP hD hS hl)
theorem J_icmp_ne (C : jcx p s m args meth c cc nL own ret D dA A E) {x y : Int32} {off : Int} {tgt : Nat} {T F : ρ} (hd : decode cc pc = .ok (.if_icmp .ne off, 3)) (ht : (pc : Int) + off = (tgt : Int)) (hf : (if x = y then F else T) = r) (kt : ¬ x = y → T = r → JW p l e R s m args below meth c nL D dA A E Q cells slots tgt L S w) (kf : x = y → F = r → JW p l e R s m args below meth c nL D dA A E Q cells slots (pc + 3) L S w) : JW p l e R s m args below meth c nL D dA A E Q cells slots pc L (.int y :: .int x :: S) w := fun ad H locs ls hE hP hD hS hl => lv_icmp_ne C.1 C.2.1 hd ht (fun h => kt h (by rw [if_neg h] at hf; exact hf) ad H locs ls hE hP hD hS hl) (fun h => kf h (by rw [if_pos h] at hf; exact hf) ad H locs ls hE hP hD hS hl)
theorem J_if_lt (C : jcx p s m args meth c cc nL own ret D dA A E) {x : Int32} {off : Int} {tgt : Nat} {T F : ρ} (hd : decode cc pc = .ok (.ifCond .lt off, 3)) (ht : (pc : Int) + off = (tgt : Int)) (hf : (if x < 0 then T else F) = r) (kt : x < 0 → T = r → JW p l e R s m args below meth c nL D dA A E Q cells slots tgt L S w) (kf : ¬ x < 0 → F = r → JW p l e R s m args below meth c nL D dA A E Q cells slots (pc + 3) L S w) : JW p l e R s m args below meth c nL D dA A E Q cells slots pc L (.int x :: S) w := fun ad H locs ls hE hP hD hS hl => lv_if_lt C.1 C.2.1 hd ht (fun h => kt h (by rw [if_pos h] at hf; exact hf) ad H locs ls hE hP hD hS hl) (fun h => kf h (by rw [if_neg h] at hf; exact hf) ad H locs ls hE hP hD hS hl)
theorem J_icmp_lt (C : jcx p s m args meth c cc nL own ret D dA A E) {x y : Int32} {off : Int} {tgt : Nat} {T F : ρ} (hd : decode cc pc = .ok (.if_icmp .lt off, 3)) (ht : (pc : Int) + off = (tgt : Int)) (hf : (if x < y then T else F) = r) (kt : x < y → T = r → JW p l e R s m args below meth c nL D dA A E Q cells slots tgt L S w) (kf : ¬ x < y → F = r → JW p l e R s m args below meth c nL D dA A E Q cells slots (pc + 3) L S w) : JW p l e R s m args below meth c nL D dA A E Q cells slots pc L (.int y :: .int x :: S) w := fun ad H locs ls hE hP hD hS hl => lv_icmp_lt C.1 C.2.1 hd ht (fun h => kt h (by rw [if_pos h] at hf; exact hf) ad H locs ls hE hP hD hS hl) (fun h => kf h (by rw [if_neg h] at hf; exact hf) ad H locs ls hE hP hD hS hl)
theorem J_if_ge (C : jcx p s m args meth c cc nL own ret D dA A E) {x : Int32} {off : Int} {tgt : Nat} {T F : ρ} (hd : decode cc pc = .ok (.ifCond .ge off, 3)) (ht : (pc : Int) + off = (tgt : Int)) (hf : (if 0 ≤ x then T else F) = r) (kt : 0 ≤ x → T = r → JW p l e R s m args below meth c nL D dA A E Q cells slots tgt L S w) (kf : ¬ 0 ≤ x → F = r → JW p l e R s m args below meth c nL D dA A E Q cells slots (pc + 3) L S w) : JW p l e R s m args below meth c nL D dA A E Q cells slots pc L (.int x :: S) w := fun ad H locs ls hE hP hD hS hl => lv_if_ge C.1 C.2.1 hd ht (fun h => kt h (by rw [if_pos h] at hf; exact hf) ad H locs ls hE hP hD hS hl) (fun h => kf h (by rw [if_neg h] at hf; exact hf) ad H locs ls hE hP hD hS hl)
theorem J_icmp_ge (C : jcx p s m args meth c cc nL own ret D dA A E) {x y : Int32} {off : Int} {tgt : Nat} {T F : ρ} (hd : decode cc pc = .ok (.if_icmp .ge off, 3)) (ht : (pc : Int) + off = (tgt : Int)) (hf : (if y ≤ x then T else F) = r) (kt : y ≤ x → T = r → JW p l e R s m args below meth c nL D dA A E Q cells slots tgt L S w) (kf : ¬ y ≤ x → F = r → JW p l e R s m args below meth c nL D dA A E Q cells slots (pc + 3) L S w) : JW p l e R s m args below meth c nL D dA A E Q cells slots pc L (.int y :: .int x :: S) w := fun ad H locs ls hE hP hD hS hl => lv_icmp_ge C.1 C.2.1 hd ht (fun h => kt h (by rw [if_pos h] at hf; exact hf) ad H locs ls hE hP hD hS hl) (fun h => kf h (by rw [if_neg h] at hf; exact hf) ad H locs ls hE hP hD hS hl)
theorem J_if_gt (C : jcx p s m args meth c cc nL own ret D dA A E) {x : Int32} {off : Int} {tgt : Nat} {T F : ρ} (hd : decode cc pc = .ok (.ifCond .gt off, 3)) (ht : (pc : Int) + off = (tgt : Int)) (hf : (if 0 < x then T else F) = r) (kt : 0 < x → T = r → JW p l e R s m args below meth c nL D dA A E Q cells slots tgt L S w) (kf : ¬ 0 < x → F = r → JW p l e R s m args below meth c nL D dA A E Q cells slots (pc + 3) L S w) : JW p l e R s m args below meth c nL D dA A E Q cells slots pc L (.int x :: S) w := fun ad H locs ls hE hP hD hS hl => lv_if_gt C.1 C.2.1 hd ht (fun h => kt h (by rw [if_pos h] at hf; exact hf) ad H locs ls hE hP hD hS hl) (fun h => kf h (by rw [if_neg h] at hf; exact hf) ad H locs ls hE hP hD hS hl)
theorem J_icmp_gt (C : jcx p s m args meth c cc nL own ret D dA A E) {x y : Int32} {off : Int} {tgt : Nat} {T F : ρ} (hd : decode cc pc = .ok (.if_icmp .gt off, 3)) (ht : (pc : Int) + off = (tgt : Int)) (hf : (if y < x then T else F) = r) (kt : y < x → T = r → JW p l e R s m args below meth c nL D dA A E Q cells slots tgt L S w) (kf : ¬ y < x → F = r → JW p l e R s m args below meth c nL D dA A E Q cells slots (pc + 3) L S w) : JW p l e R s m args below meth c nL D dA A E Q cells slots pc L (.int y :: .int x :: S) w := fun ad H locs ls hE hP hD hS hl => lv_icmp_gt C.1 C.2.1 hd ht (fun h => kt h (by rw [if_pos h] at hf; exact hf) ad H locs ls hE hP hD hS hl) (fun h => kf h (by rw [if_neg h] at hf; exact hf) ad H locs ls hE hP hD hS hl)
theorem J_if_le (C : jcx p s m args meth c cc nL own ret D dA A E) {x : Int32} {off : Int} {tgt : Nat} {T F : ρ} (hd : decode cc pc = .ok (.ifCond .le off, 3)) (ht : (pc : Int) + off = (tgt : Int)) (hf : (if x ≤ 0 then T else F) = r) (kt : x ≤ 0 → T = r → JW p l e R s m args below meth c nL D dA A E Q cells slots tgt L S w) (kf : ¬ x ≤ 0 → F = r → JW p l e R s m args below meth c nL D dA A E Q cells slots (pc + 3) L S w) : JW p l e R s m args below meth c nL D dA A E Q cells slots pc L (.int x :: S) w := fun ad H locs ls hE hP hD hS hl => lv_if_le C.1 C.2.1 hd ht (fun h => kt h (by rw [if_pos h] at hf; exact hf) ad H locs ls hE hP hD hS hl) (fun h => kf h (by rw [if_neg h] at hf; exact hf) ad H locs ls hE hP hD hS hl)
theorem J_icmp_le (C : jcx p s m args meth c cc nL own ret D dA A E) {x y : Int32} {off : Int} {tgt : Nat} {T F : ρ} (hd : decode cc pc = .ok (.if_icmp .le off, 3)) (ht : (pc : Int) + off = (tgt : Int)) (hf : (if x ≤ y then T else F) = r) (kt : x ≤ y → T = r → JW p l e R s m args below meth c nL D dA A E Q cells slots tgt L S w) (kf : ¬ x ≤ y → F = r → JW p l e R s m args below meth c nL D dA A E Q cells slots (pc + 3) L S w) : JW p l e R s m args below meth c nL D dA A E Q cells slots pc L (.int y :: .int x :: S) w := fun ad H locs ls hE hP hD hS hl => lv_icmp_le C.1 C.2.1 hd ht (fun h => kt h (by rw [if_pos h] at hf; exact hf) ad H locs ls hE hP hD hS hl) (fun h => kf h (by rw [if_neg h] at hf; exact hf) ad H locs ls hE hP hD hS hl)
theorem J_goto (C : jcx p s m args meth c cc nL own ret D dA A E) {off : Int} {tgt : Nat} (hd : decode cc pc = .ok (.goto off, 3)) (ht : (pc : Int) + off = (tgt : Int)) (k : JW p l e R s m args below meth c nL D dA A E Q cells slots tgt L S w) : JW p l e R s m args below meth c nL D dA A E Q cells slots pc L S w := fun ad H locs ls hE hP hD hS hl => lv_goto C.1 C.2.1 hd ht (k ad H locs ls hE hP hD hS hl)
theorem J_ifnull (C : jcx p s m args meth c cc nL own ret D dA A E) {x : Nat} {off : Int} (hd : decode cc pc = .ok (.ifnull off, 3)) (k : JW p l e R s m args below meth c nL D dA A E Q cells slots (pc + 3) L S w) : JW p l e R s m args below meth c nL D dA A E Q cells slots pc L (.ref x :: S) w := fun ad H locs ls hE hP hD hS hl => lv_ifnull C.1 C.2.1 hd (k ad H locs ls hE hP hD hS hl)
theorem J_ifnullN (C : jcx p s m args meth c cc nL own ret D dA A E) {off : Int} {tgt : Nat} (hd : decode cc pc = .ok (.ifnull off, 3)) (ht : (pc : Int) + off = (tgt : Int)) (k : JW p l e R s m args below meth c nL D dA A E Q cells slots tgt L S w) : JW p l e R s m args below meth c nL D dA A E Q cells slots pc L (.null :: S) w := fun ad H locs ls hE hP hD hS hl => lv_ifnullN C.1 C.2.1 hd ht (k ad H locs ls hE hP hD hS hl)
theorem J_ifnonnull (C : jcx p s m args meth c cc nL own ret D dA A E) {x : Nat} {off : Int} {tgt : Nat} (hd : decode cc pc = .ok (.ifnonnull off, 3)) (ht : (pc : Int) + off = (tgt : Int)) (k : JW p l e R s m args below meth c nL D dA A E Q cells slots tgt L S w) : JW p l e R s m args below meth c nL D dA A E Q cells slots pc L (.ref x :: S) w := fun ad H locs ls hE hP hD hS hl => lv_ifnonnull C.1 C.2.1 hd ht (k ad H locs ls hE hP hD hS hl)
theorem J_ifnonnullN (C : jcx p s m args meth c cc nL own ret D dA A E) {off : Int} (hd : decode cc pc = .ok (.ifnonnull off, 3)) (k : JW p l e R s m args below meth c nL D dA A E Q cells slots (pc + 3) L S w) : JW p l e R s m args below meth c nL D dA A E Q cells slots pc L (.null :: S) w := fun ad H locs ls hE hP hD hS hl => lv_ifnonnullN C.1 C.2.1 hd (k ad H locs ls hE hP hD hS hl)
theorem J_null (C : jcx p s m args meth c cc nL own ret D dA A E) (hd : decode cc pc = .ok (.aconst_null, 1)) (k : JW p l e R s m args below meth c nL D dA A E Q cells slots (pc + 1) L (.null :: S) w) : JW p l e R s m args below meth c nL D dA A E Q cells slots pc L S w := fun ad H locs ls hE hP hD hS hl => lv_null C.1 C.2.1 hd (k ad H locs ls hE hP hD hS hl)
/-- a case, no step -/
theorem J_case {x v : Int32} {T F : ρ} (hf : (if x = v then T else F) = r) (kt : x = v → T = r → JW p l e R s m args below meth c nL D dA A E Q cells slots pc L (.int x :: S) w) (kf : ¬ x = v → F = r → JW p l e R s m args below meth c nL D dA A E Q cells slots pc L (.int x :: S) w) : JW p l e R s m args below meth c nL D dA A E Q cells slots pc L (.int x :: S) w := by
  by_cases h : x = v
  · rw [if_pos h] at hf; exact kt h hf
  · rw [if_neg h] at hf; exact kf h hf
theorem J_tabIn (C : jcx p s m args meth c cc nL own ret D dA A E) {x : Int32} {dflt lo hi off : Int} {offs : Array Int} {len tgt : Nat} (hd : decode cc pc = .ok (.tableswitch dflt lo hi offs, len)) (h1 : ¬ x.toInt < lo) (h2 : ¬ hi < x.toInt) (ho : offs[(x.toInt - lo).toNat]? = some off) (ht : (pc : Int) + off = (tgt : Int)) (k : JW p l e R s m args below meth c nL D dA A E Q cells slots tgt L S w) : JW p l e R s m args below meth c nL D dA A E Q cells slots pc L (.int x :: S) w := fun ad H locs ls hE hP hD hS hl => lv_tableIn C.1 C.2.1 hd h1 h2 ho ht (k ad H locs ls hE hP hD hS hl)
theorem J_tabOut (C : jcx p s m args meth c cc nL own ret D dA A E) {x : Int32} {dflt lo hi : Int} {offs : Array Int} {len tgt : Nat} (hd : decode cc pc = .ok (.tableswitch dflt lo hi offs, len)) (h : x.toInt < lo ∨ hi < x.toInt) (ht : (pc : Int) + dflt = (tgt : Int)) (k : JW p l e R s m args below meth c nL D dA A E Q cells slots tgt L S w) : JW p l e R s m args below meth c nL D dA A E Q cells slots pc L (.int x :: S) w := fun ad H locs ls hE hP hD hS hl => lv_tableOut C.1 C.2.1 hd h ht (k ad H locs ls hE hP hD hS hl)
theorem J_look (C : jcx p s m args meth c cc nL own ret D dA A E) {x : Int32} {dflt off : Int} {ps : Array (Int × Int)} {len tgt : Nat} (hd : decode cc pc = .ok (.lookupswitch dflt ps, len)) (hp : (ps.toList.zip (ps.toList.drop 1)).all (fun (a, next) => a.1 < next.1) = true) (ho : Op.lookupswitch.offset ps.toList dflt x.toInt = off) (ht : (pc : Int) + off = (tgt : Int)) (k : JW p l e R s m args below meth c nL D dA A E Q cells slots tgt L S w) : JW p l e R s m args below meth c nL D dA A E Q cells slots pc L (.int x :: S) w := fun ad H locs ls hE hP hD hS hl => lv_lookup C.1 C.2.1 hd hp ho ht (k ad H locs ls hE hP hD hS hl)
theorem J_getI (C : jcx p s m args meth c cc nL own ret D dA A E) {Cn : String} {T : u_T} {N ci index b k0 : Nat} {K : Int32 → Option ρ} (hd : decode cc pc = .ok (.getfield index, 3)) (hc : vwCl[ci]? = some (Cn, T, N)) (hin : ∀ x ∈ u_ws Cn T N, x ∈ GT) (hk0 : k0 < N) (hk : Cond.fieldLink own index (T k0).1 (T k0).2.1 (T k0).2.2.1 ∈ GT) (hf : (gI w ci b k0).bind K = some r) (k : ∀ v, K v = some r → JW p l e R s m args below meth c nL D dA A E Q cells slots (pc + 3) L (.int v :: S) w) : JW p l e R s m args below meth c nL D dA A E Q cells slots pc L (.ref b :: S) w := by
  obtain ⟨v, h1, h2⟩ := bind_ok hf
  obtain ⟨fs, h3, h4⟩ := gI_spec h1
  intro ad H locs ls hE hP hD hS hl
  exact va_get (C := Cn) (T := T) (N := N) C.1 C.2.1 C.2.2.2.2.1 hin C.2.2.2.1 C.2.2.2.2.2.1 hP b (wi_at h3) hc k0 hk0 (C.2.2.2.2.1 _ hk) (fun _ h => h) (v := rv ad (.int v)) (by rw [List.getElem?_map, h4]; rfl) hd (k v h2 ad H locs ls hE hP hD hS hl)
theorem J_getIN (C : jcx p s m args meth c cc nL own ret D dA A E) {Cn : String} {T : u_T} {N ci index b k0 : Nat} {K : Int32 → Option ρ} (hd : decode cc pc = .ok (.getfield index, 3)) (hc : vwCl[ci]? = some (Cn, T, N)) (hin : ∀ x ∈ u_ws Cn T N, x ∈ GT) (hk0 : k0 < N) {host : String} (hk : Cond.fieldLinkNest own index (T k0).1 (T k0).2.1 (T k0).2.2.1 host ∈ NT) (hf : (gI w ci b k0).bind K = some r) (k : ∀ v, K v = some r → JW p l e R s m args below meth c nL D dA A E Q cells slots (pc + 3) L (.int v :: S) w) : JW p l e R s m args below meth c nL D dA A E Q cells slots pc L (.ref b :: S) w := by
  obtain ⟨v, h1, h2⟩ := bind_ok hf
  obtain ⟨fs, h3, h4⟩ := gI_spec h1
  intro ad H locs ls hE hP hD hS hl
  exact va_getN (C := Cn) (T := T) (N := N) C.1 C.2.1 C.2.2.2.2.1 hin C.2.2.2.1 C.2.2.2.2.2.1 hP b (wi_at h3) hc k0 hk0 (va_Nw.use rfl ((C.2.2.2.2.2.2.2.2.2 ad hE).1 _ hk)) (fun _ h => h) (v := rv ad (.int v)) (by rw [List.getElem?_map, h4]; rfl) hd (k v h2 ad H locs ls hE hP hD hS hl)
theorem J_getJ (C : jcx p s m args meth c cc nL own ret D dA A E) {Cn : String} {T : u_T} {N ci index b k0 : Nat} {K : Int64 → Option ρ} (hd : decode cc pc = .ok (.getfield index, 3)) (hc : vwCl[ci]? = some (Cn, T, N)) (hin : ∀ x ∈ u_ws Cn T N, x ∈ GT) (hk0 : k0 < N) (hk : Cond.fieldLink own index (T k0).1 (T k0).2.1 (T k0).2.2.1 ∈ GT) (hf : (gJ w ci b k0).bind K = some r) (k : ∀ v, K v = some r → JW p l e R s m args below meth c nL D dA A E Q cells slots (pc + 3) L (.long v :: S) w) : JW p l e R s m args below meth c nL D dA A E Q cells slots pc L (.ref b :: S) w := by
  obtain ⟨v, h1, h2⟩ := bind_ok hf
  obtain ⟨fs, h3, h4⟩ := gJ_spec h1
  intro ad H locs ls hE hP hD hS hl
  exact va_get (C := Cn) (T := T) (N := N) C.1 C.2.1 C.2.2.2.2.1 hin C.2.2.2.1 C.2.2.2.2.2.1 hP b (wi_at h3) hc k0 hk0 (C.2.2.2.2.1 _ hk) (fun _ h => h) (v := rv ad (.long v)) (by rw [List.getElem?_map, h4]; rfl) hd (k v h2 ad H locs ls hE hP hD hS hl)
theorem J_getJN (C : jcx p s m args meth c cc nL own ret D dA A E) {Cn : String} {T : u_T} {N ci index b k0 : Nat} {K : Int64 → Option ρ} (hd : decode cc pc = .ok (.getfield index, 3)) (hc : vwCl[ci]? = some (Cn, T, N)) (hin : ∀ x ∈ u_ws Cn T N, x ∈ GT) (hk0 : k0 < N) {host : String} (hk : Cond.fieldLinkNest own index (T k0).1 (T k0).2.1 (T k0).2.2.1 host ∈ NT) (hf : (gJ w ci b k0).bind K = some r) (k : ∀ v, K v = some r → JW p l e R s m args below meth c nL D dA A E Q cells slots (pc + 3) L (.long v :: S) w) : JW p l e R s m args below meth c nL D dA A E Q cells slots pc L (.ref b :: S) w := by
  obtain ⟨v, h1, h2⟩ := bind_ok hf
  obtain ⟨fs, h3, h4⟩ := gJ_spec h1
  intro ad H locs ls hE hP hD hS hl
  exact va_getN (C := Cn) (T := T) (N := N) C.1 C.2.1 C.2.2.2.2.1 hin C.2.2.2.1 C.2.2.2.2.2.1 hP b (wi_at h3) hc k0 hk0 (va_Nw.use rfl ((C.2.2.2.2.2.2.2.2.2 ad hE).1 _ hk)) (fun _ h => h) (v := rv ad (.long v)) (by rw [List.getElem?_map, h4]; rfl) hd (k v h2 ad H locs ls hE hP hD hS hl)
theorem J_getR (C : jcx p s m args meth c cc nL own ret D dA A E) {Cn : String} {T : u_T} {N ci index b k0 : Nat} {K : Nat → Option ρ} (hd : decode cc pc = .ok (.getfield index, 3)) (hc : vwCl[ci]? = some (Cn, T, N)) (hin : ∀ x ∈ u_ws Cn T N, x ∈ GT) (hk0 : k0 < N) (hk : Cond.fieldLink own index (T k0).1 (T k0).2.1 (T k0).2.2.1 ∈ GT) (hf : (gR w ci b k0).bind K = some r) (k : ∀ v, K v = some r → JW p l e R s m args below meth c nL D dA A E Q cells slots (pc + 3) L (.ref v :: S) w) : JW p l e R s m args below meth c nL D dA A E Q cells slots pc L (.ref b :: S) w := by
  obtain ⟨v, h1, h2⟩ := bind_ok hf
  obtain ⟨fs, h3, h4⟩ := gR_spec h1
  intro ad H locs ls hE hP hD hS hl
  exact va_get (C := Cn) (T := T) (N := N) C.1 C.2.1 C.2.2.2.2.1 hin C.2.2.2.1 C.2.2.2.2.2.1 hP b (wi_at h3) hc k0 hk0 (C.2.2.2.2.1 _ hk) (fun _ h => h) (v := rv ad (.ref v)) (by rw [List.getElem?_map, h4]; rfl) hd (k v h2 ad H locs ls hE hP hD hS hl)
theorem J_getRN (C : jcx p s m args meth c cc nL own ret D dA A E) {Cn : String} {T : u_T} {N ci index b k0 : Nat} {K : Nat → Option ρ} (hd : decode cc pc = .ok (.getfield index, 3)) (hc : vwCl[ci]? = some (Cn, T, N)) (hin : ∀ x ∈ u_ws Cn T N, x ∈ GT) (hk0 : k0 < N) {host : String} (hk : Cond.fieldLinkNest own index (T k0).1 (T k0).2.1 (T k0).2.2.1 host ∈ NT) (hf : (gR w ci b k0).bind K = some r) (k : ∀ v, K v = some r → JW p l e R s m args below meth c nL D dA A E Q cells slots (pc + 3) L (.ref v :: S) w) : JW p l e R s m args below meth c nL D dA A E Q cells slots pc L (.ref b :: S) w := by
  obtain ⟨v, h1, h2⟩ := bind_ok hf
  obtain ⟨fs, h3, h4⟩ := gR_spec h1
  intro ad H locs ls hE hP hD hS hl
  exact va_getN (C := Cn) (T := T) (N := N) C.1 C.2.1 C.2.2.2.2.1 hin C.2.2.2.1 C.2.2.2.2.2.1 hP b (wi_at h3) hc k0 hk0 (va_Nw.use rfl ((C.2.2.2.2.2.2.2.2.2 ad hE).1 _ hk)) (fun _ h => h) (v := rv ad (.ref v)) (by rw [List.getElem?_map, h4]; rfl) hd (k v h2 ad H locs ls hE hP hD hS hl)
theorem J_put (C : jcx p s m args meth c cc nL own ret D dA A E) {Cn : String} {T : u_T} {N ci index b k0 : Nat} {x : Value} {ty : FieldType} {K : MW → Option ρ} (hd : decode cc pc = .ok (.putfield index, 3)) (hc : vwCl[ci]? = some (Cn, T, N)) (hin : ∀ x ∈ u_ws Cn T N, x ∈ GT) (ty0 : Nat → FieldType) (hty : ∀ k, k < N → parseFieldDescriptor (T k).2.2.1 = some (ty0 k)) (hnm : ∀ a, a < N → ∀ b, b < N → a ≠ b → (T a).2.1 ≠ (T b).2.1) (hk0 : k0 < N) (hk : Cond.fieldLink own index (T k0).1 (T k0).2.1 (T k0).2.2.1 ∈ GT) (hfin : (T k0).2.2.2 = false) (hds : parseFieldDescriptor (T k0).2.2.1 = some ty) (hnar : ∀ ad, narrow ty (rv ad x) = rv ad x) (hfit : ∀ ad, fits ty (rv ad x) = true) (hf : (pV w ci b k0 x).bind K = some r) (k : ∀ w1, K w1 = some r → JW p l e R s m args below meth c nL D dA A E Q cells slots (pc + 3) L S w1) : JW p l e R s m args below meth c nL D dA A E Q cells slots pc L (x :: .ref b :: S) w := by
  obtain ⟨w1, h1, h2⟩ := bind_ok hf
  obtain ⟨fs, h3, h4, rfl⟩ := pV_spec h1
  intro ad H locs ls hE hP hD hS hl
  have ew : (wi dA ad w).set b (ad b, .inr (ci, (fs.map (rv ad)).set k0 (rv ad x))) = wi dA ad (w.set b (.inr (ci, fs.set k0 x))) := by
    rw [← wi_set]; show _ = List.set _ _ (ad b, Sum.inr (ci, List.map (rv ad) (fs.set k0 x))); rw [List.map_set]
  exact va_put (C := Cn) (T := T) (N := N) C.1 C.2.1 C.2.2.2.2.1 hin ty0 hty hnm C.2.2.2.1 C.2.2.2.2.2.1 hP hD hS b (wi_at h3) hc k0 hk0 (C.2.2.2.2.1 _ hk) (fun _ h => h) hfin (v := rv ad x) hds (hnar ad) (hfit ad) (by rw [List.length_map]; exact h4) hd (fun H1 locs1 hP hD hS => k _ h2 ad H1 locs1 ls hE (by rw [← ew]; exact hP) (by rw [← ew]; exact hD) hS hl)
theorem J_putN (C : jcx p s m args meth c cc nL own ret D dA A E) {Cn : String} {T : u_T} {N ci index b k0 : Nat} {x : Value} {ty : FieldType} {K : MW → Option ρ} (hd : decode cc pc = .ok (.putfield index, 3)) (hc : vwCl[ci]? = some (Cn, T, N)) (hin : ∀ x ∈ u_ws Cn T N, x ∈ GT) (ty0 : Nat → FieldType) (hty : ∀ k, k < N → parseFieldDescriptor (T k).2.2.1 = some (ty0 k)) (hnm : ∀ a, a < N → ∀ b, b < N → a ≠ b → (T a).2.1 ≠ (T b).2.1) (hk0 : k0 < N) {host : String} (hk : Cond.fieldLinkNest own index (T k0).1 (T k0).2.1 (T k0).2.2.1 host ∈ NT) (hfin : (T k0).2.2.2 = false) (hds : parseFieldDescriptor (T k0).2.2.1 = some ty) (hnar : ∀ ad, narrow ty (rv ad x) = rv ad x) (hfit : ∀ ad, fits ty (rv ad x) = true) (hf : (pV w ci b k0 x).bind K = some r) (k : ∀ w1, K w1 = some r → JW p l e R s m args below meth c nL D dA A E Q cells slots (pc + 3) L S w1) : JW p l e R s m args below meth c nL D dA A E Q cells slots pc L (x :: .ref b :: S) w := by
  obtain ⟨w1, h1, h2⟩ := bind_ok hf
  obtain ⟨fs, h3, h4, rfl⟩ := pV_spec h1
  intro ad H locs ls hE hP hD hS hl
  have ew : (wi dA ad w).set b (ad b, .inr (ci, (fs.map (rv ad)).set k0 (rv ad x))) = wi dA ad (w.set b (.inr (ci, fs.set k0 x))) := by
    rw [← wi_set]; show _ = List.set _ _ (ad b, Sum.inr (ci, List.map (rv ad) (fs.set k0 x))); rw [List.map_set]
  exact va_putN (C := Cn) (T := T) (N := N) C.1 C.2.1 C.2.2.2.2.1 hin ty0 hty hnm C.2.2.2.1 C.2.2.2.2.2.1 hP hD hS b (wi_at h3) hc k0 hk0 (va_Nw.use rfl ((C.2.2.2.2.2.2.2.2.2 ad hE).1 _ hk)) (fun _ h => h) hfin (v := rv ad x) hds (hnar ad) (hfit ad) (by rw [List.length_map]; exact h4) hd (fun H1 locs1 hP hD hS => k _ h2 ad H1 locs1 ls hE (by rw [← ew]; exact hP) (by rw [← ew]; exact hD) hS hl)
theorem J_putF (C : jcx p s m args meth c cc nL own ret D dA A E) {Cn : String} {T : u_T} {N ci index b k0 : Nat} {x : Value} {ty : FieldType} {K : MW → Option ρ} (hd : decode cc pc = .ok (.putfield index, 3)) (hc : vwCl[ci]? = some (Cn, T, N)) (hin : ∀ x ∈ u_ws Cn T N, x ∈ GT) (ty0 : Nat → FieldType) (hty : ∀ k, k < N → parseFieldDescriptor (T k).2.2.1 = some (ty0 k)) (hnm : ∀ a, a < N → ∀ b, b < N → a ≠ b → (T a).2.1 ≠ (T b).2.1) (hk0 : k0 < N) (hk : Cond.fieldLink own index (T k0).1 (T k0).2.1 (T k0).2.2.1 ∈ GT) (hini : meth.name = "<init>") (hdc : (T k0).1 = own) (hfin : (T k0).2.2.2 = true) (hds : parseFieldDescriptor (T k0).2.2.1 = some ty) (hnar : ∀ ad, narrow ty (rv ad x) = rv ad x) (hfit : ∀ ad, fits ty (rv ad x) = true) (hf : (pV w ci b k0 x).bind K = some r) (k : ∀ w1, K w1 = some r → JW p l e R s m args below meth c nL D dA A E Q cells slots (pc + 3) L S w1) : JW p l e R s m args below meth c nL D dA A E Q cells slots pc L (x :: .ref b :: S) w := by
  obtain ⟨w1, h1, h2⟩ := bind_ok hf
  obtain ⟨fs, h3, h4, rfl⟩ := pV_spec h1
  intro ad H locs ls hE hP hD hS hl
  have ew : (wi dA ad w).set b (ad b, .inr (ci, (fs.map (rv ad)).set k0 (rv ad x))) = wi dA ad (w.set b (.inr (ci, fs.set k0 x))) := by
    rw [← wi_set]; show _ = List.set _ _ (ad b, Sum.inr (ci, List.map (rv ad) (fs.set k0 x))); rw [List.map_set]
  exact va_putF (C := Cn) (T := T) (N := N) C.1 C.2.1 C.2.2.2.2.1 hin ty0 hty hnm C.2.2.2.1 C.2.2.2.2.2.1 hP hD hS b (wi_at h3) hc k0 hk0 (C.2.2.2.2.1 _ hk) (fun _ h => h) hfin hini hdc (v := rv ad x) hds (hnar ad) (hfit ad) (by rw [List.length_map]; exact h4) hd (fun H1 locs1 hP hD hS => k _ h2 ad H1 locs1 ls hE (by rw [← ew]; exact hP) (by rw [← ew]; exact hD) hS hl)
theorem J_iald (C : jcx p s m args meth c cc nL own ret D dA A E) {a : Nat} {i : Int32} {K : Int32 → Option ρ} (hd : decode cc pc = .ok (.iaload, 1)) (hf : (aI w .int a i).bind K = some r) (k : ∀ v, K v = some r → JW p l e R s m args below meth c nL D dA A E Q cells slots (pc + 1) L (.int v :: S) w) : JW p l e R s m args below meth c nL D dA A E Q cells slots pc L (.int i :: .ref a :: S) w := by
  obtain ⟨v, h1, h2⟩ := bind_ok hf
  obtain ⟨n, f, h3, h4, rfl⟩ := aI_spec h1
  intro ad H locs ls hE hP hD hS hl
  exact va_iald C.1 C.2.1 C.2.2.2.2.2.1 hP a 0 (wi_at h3) rfl h4 hd (k _ h2 ad H locs ls hE hP hD hS hl)
theorem J_bald (C : jcx p s m args meth c cc nL own ret D dA A E) {a : Nat} {i : Int32} {K : Int32 → Option ρ} (hd : decode cc pc = .ok (.baload, 1)) (hf : (aI w .byte a i).bind K = some r) (k : ∀ v, K v = some r → JW p l e R s m args below meth c nL D dA A E Q cells slots (pc + 1) L (.int v :: S) w) : JW p l e R s m args below meth c nL D dA A E Q cells slots pc L (.int i :: .ref a :: S) w := by
  obtain ⟨v, h1, h2⟩ := bind_ok hf
  obtain ⟨n, f, h3, h4, rfl⟩ := aI_spec h1
  intro ad H locs ls hE hP hD hS hl
  exact va_bald C.1 C.2.1 C.2.2.2.2.2.1 hP a 1 (wi_at h3) rfl h4 hd (k _ h2 ad H locs ls hE hP hD hS hl)
theorem J_zald (C : jcx p s m args meth c cc nL own ret D dA A E) {a : Nat} {i : Int32} {K : Int32 → Option ρ} (hd : decode cc pc = .ok (.baload, 1)) (hf : (aI w .boolean a i).bind K = some r) (k : ∀ v, K v = some r → JW p l e R s m args below meth c nL D dA A E Q cells slots (pc + 1) L (.int v :: S) w) : JW p l e R s m args below meth c nL D dA A E Q cells slots pc L (.int i :: .ref a :: S) w := by
  obtain ⟨v, h1, h2⟩ := bind_ok hf
  obtain ⟨n, f, h3, h4, rfl⟩ := aI_spec h1
  intro ad H locs ls hE hP hD hS hl
  exact va_zald C.1 C.2.1 C.2.2.2.2.2.1 hP a 2 (wi_at h3) rfl h4 hd (k _ h2 ad H locs ls hE hP hD hS hl)
theorem J_iast (C : jcx p s m args meth c cc nL own ret D dA A E) {a : Nat} {i x : Int32} {K : MW → Option ρ} (hd : decode cc pc = .ok (.iastore, 1)) (hf : (sI w .int a i x).bind K = some r) (k : ∀ w1, K w1 = some r → JW p l e R s m args below meth c nL D dA A E Q cells slots (pc + 1) L S w1) : JW p l e R s m args below meth c nL D dA A E Q cells slots pc L (.int x :: .int i :: .ref a :: S) w := by
  obtain ⟨w1, h1, h2⟩ := bind_ok hf
  obtain ⟨n, f, h3, h4, rfl⟩ := sI_spec h1
  intro ad H locs ls hE hP hD hS hl
  exact va_iast C.1 C.2.1 C.2.2.2.2.2.1 hP hD hS a 0 (wi_at h3) rfl h4 hd (fun H1 locs1 hP hD hS => k _ h2 ad H1 locs1 ls hE (by rw [← wi_set]; exact hP) (by rw [← wi_set]; exact hD) hS hl)
theorem J_bast (C : jcx p s m args meth c cc nL own ret D dA A E) {a : Nat} {i x : Int32} {K : MW → Option ρ} (hd : decode cc pc = .ok (.bastore, 1)) (hf : (sI w .byte a i (vp_nar .byte x)).bind K = some r) (k : ∀ w1, K w1 = some r → JW p l e R s m args below meth c nL D dA A E Q cells slots (pc + 1) L S w1) : JW p l e R s m args below meth c nL D dA A E Q cells slots pc L (.int x :: .int i :: .ref a :: S) w := by
  obtain ⟨w1, h1, h2⟩ := bind_ok hf
  obtain ⟨n, f, h3, h4, rfl⟩ := sI_spec h1
  intro ad H locs ls hE hP hD hS hl
  exact va_bast C.1 C.2.1 C.2.2.2.2.2.1 hP hD hS a 1 (wi_at h3) rfl h4 hd (fun H1 locs1 hP hD hS => k _ h2 ad H1 locs1 ls hE (by rw [← wi_set]; exact hP) (by rw [← wi_set]; exact hD) hS hl)
theorem J_zast (C : jcx p s m args meth c cc nL own ret D dA A E) {a : Nat} {i x : Int32} {K : MW → Option ρ} (hd : decode cc pc = .ok (.bastore, 1)) (hf : (sI w .boolean a i (vp_nar .boolean x)).bind K = some r) (k : ∀ w1, K w1 = some r → JW p l e R s m args below meth c nL D dA A E Q cells slots (pc + 1) L S w1) : JW p l e R s m args below meth c nL D dA A E Q cells slots pc L (.int x :: .int i :: .ref a :: S) w := by
  obtain ⟨w1, h1, h2⟩ := bind_ok hf
  obtain ⟨n, f, h3, h4, rfl⟩ := sI_spec h1
  intro ad H locs ls hE hP hD hS hl
  exact va_zast C.1 C.2.1 C.2.2.2.2.2.1 hP hD hS a 2 (wi_at h3) rfl h4 hd (fun H1 locs1 hP hD hS => k _ h2 ad H1 locs1 ls hE (by rw [← wi_set]; exact hP) (by rw [← wi_set]; exact hD) hS hl)
def aRn (w : MW) (ty : FieldType) (a : Nat) (i : Int32) : Option Nat := (aR w ty a i).bind id
theorem J_aald (C : jcx p s m args meth c cc nL own ret D dA A E) {a : Nat} {i : Int32} {Cn : String} (t0 : Nat) (ht0 : ∀ dA, (tyL dA)[t0]? = some (dA (.object Cn), .object Cn)) {K : Nat → Option ρ} (hd : decode cc pc = .ok (.aaload, 1)) (hf : (aRn w (.object Cn) a i).bind K = some r) (k : ∀ v, K v = some r → JW p l e R s m args below meth c nL D dA A E Q cells slots (pc + 1) L (.ref v :: S) w) : JW p l e R s m args below meth c nL D dA A E Q cells slots pc L (.int i :: .ref a :: S) w := by
  obtain ⟨v, h1, h2⟩ := bind_ok hf
  obtain ⟨v', h0, h1⟩ := bind_ok h1
  obtain ⟨n, f, h3, h4, h5⟩ := aR_spec h0
  intro ad H locs ls hE hP hD hS hl
  refine va_aldq C.1 C.2.1 C.2.2.2.2.2.1 hP a t0 (wi_at h3) (ht0 dA) h4 hd ?_
  have eV : va_rf ((f i.toNatClampNeg).map ad) = .ref (ad v) := by rw [← h5, show v' = some v from h1]; rfl
  show W p l e R s m args below meth c H locs cells slots Q (F0 m (pc + 1) ls (va_rf ((f i.toNatClampNeg).map ad) :: _))
  rw [eV]
  exact k _ h2 ad H locs ls hE hP hD hS hl
theorem J_aast (C : jcx p s m args meth c cc nL own ret D dA A E) {a b : Nat} {i : Int32} {Cn : String} {T : u_T} {N : Nat} (t0 ci : Nat) (ht0 : ∀ dA, (tyL dA)[t0]? = some (dA (.object Cn), .object Cn)) (hc : vwCl[ci]? = some (Cn, T, N)) {K : MW → Option ρ} (hd : decode cc pc = .ok (.aastore, 1)) (hf : (sR w Cn ci a i b).bind K = some r) (k : ∀ w1, K w1 = some r → JW p l e R s m args below meth c nL D dA A E Q cells slots (pc + 1) L S w1) : JW p l e R s m args below meth c nL D dA A E Q cells slots pc L (.ref b :: .int i :: .ref a :: S) w := by
  obtain ⟨w1, h1, h2⟩ := bind_ok hf
  obtain ⟨n, f, fs, h3, h5, h4, rfl⟩ := sR_spec h1
  intro ad H locs ls hE hP hD hS hl
  have ew : (wi dA ad w).set a (ad a, .inl (dA (.object Cn), n, .inr (.inr (.inr (.inr (va_up (fun j => (f j).map ad) i.toNatClampNeg (some (ad b)))))))) = wi dA ad (w.set a (.inl (.object Cn, n, .inr (.inr (.inr (.inr (va_up f i.toNatClampNeg (some b)))))))) := by
    rw [← wi_set]
    show List.set _ _ _ = List.set _ _ (ad a, Sum.inl (dA (.object Cn), n, Sum.inr (Sum.inr (Sum.inr (Sum.inr (fun j => (va_up f i.toNatClampNeg (some b) j).map ad))))))
    congr 9
    funext j
    by_cases hj : j = i.toNatClampNeg <;> simp [va_up, hj]
  exact va_astq C.1 C.2.1 C.2.2.2.2.2.1 hP hD hS a t0 b ci (r := (Cn, T, N)) (wi_at h3) (ht0 dA) (wi_at h5) hc h4 hd (fun H1 locs1 hP hD hS => k _ h2 ad H1 locs1 ls hE (by rw [← ew]; exact hP) (by rw [← ew]; exact hD) hS hl)
theorem J_alen (C : jcx p s m args meth c cc nL own ret D dA A E) {a : Nat} {ty : FieldType} (t0 : Nat) (ht0 : ∀ dA, (tyL dA)[t0]? = some (dA ty, ty)) {K : Int32 → Option ρ} (hd : decode cc pc = .ok (.arraylength, 1)) (hf : (aL w ty a).bind K = some r) (k : ∀ v, K v = some r → JW p l e R s m args below meth c nL D dA A E Q cells slots (pc + 1) L (.int v :: S) w) : JW p l e R s m args below meth c nL D dA A E Q cells slots pc L (.ref a :: S) w := by
  obtain ⟨v, h1, h2⟩ := bind_ok hf
  obtain ⟨y, h3, rfl⟩ := aL_spec h1
  intro ad H locs ls hE hP hD hS hl
  refine va_alen C.1 C.2.1 C.2.2.2.2.2.1 hP a t0 (wi_at h3) (ht0 dA) (v := Int32.ofNat y.1) ?_ hd (k _ h2 ad H locs ls hE hP hD hS hl)
  obtain ⟨n, f | f | f | f | f⟩ := y <;> rfl
theorem J_copy (C : jcx p s m args meth c cc nL own ret D dA A E) {a0 a1 index : Nat} {sp dp n : Int32} {ty : FieldType} (t0 : Nat) (ht0 : ∀ dA, (tyL dA)[t0]? = some (dA ty, ty)) (hpr : refKind ty = false) (hlk : Cond.methodLink own index arraycopyName ∈ GT) (hnt : Cond.native arraycopyName ∈ GT) (hst : Cond.static arraycopyName ∈ GT) (hini : Cond.initialized "java/lang/System" ∈ GT) (hfr : 1 ≤ R.frames) (hlo : ∀ ad, ((S.map (rv ad)).map fun v => v.category).sum + (nativeFrameWords "java/lang/System" "arraycopy" 5 + 11) ≤ R.locals) {K : MW → Option ρ} (hd : decode cc pc = .ok (.invokestatic index, 3)) (hf : (cpI w ty a0 sp a1 dp n).bind K = some r) (k : ∀ w1, K w1 = some r → JW p l e R s m args below meth c nL D dA A E Q cells slots (pc + 3) L S w1) : JW p l e R s m args below meth c nL D dA A E Q cells slots pc L (.int n :: .int dp :: .ref a1 :: .int sp :: .ref a0 :: S) w := by
  obtain ⟨w1, h1, h2⟩ := bind_ok hf
  obtain ⟨n0, f, n1, g, g0, g1, g2, g3, g4, g5, g6, g7, rfl⟩ := cpI_spec h1
  intro ad H locs ls hE hP hD hS hl
  exact va_copyi C.1 C.2.1 (C.2.2.1.trans hl.1.symm) C.2.2.2.1 (C.2.2.2.2.1 _ hlk) (C.2.2.2.2.1 _ hnt) (C.2.2.2.2.1 _ hst) (C.2.2.2.2.1 _ hini) C.2.2.2.2.2.1 hP hD hS a0 a1 t0 t0 (wi_at g0) (wi_at g1) (ht0 dA) (ht0 dA) hpr g2 g3 g4 g5 g6 g7 hfr (hlo ad) hd (fun H1 locs1 hP hD hS => k _ h2 ad H1 locs1 ls hE (by rw [← wi_set]; exact hP) (by rw [← wi_set]; exact hD) hS hl)
def imax (x y : Int32) : Int32 := if x < y then y else x
theorem J_max (C : jcx p s m args meth c cc nL own ret D dA A E) {index : Nat} {x y : Int32} (hd : decode cc pc = .ok (.invokestatic index, 3)) (hlk : Cond.methodLink own index Lib.Math.max.name ∈ GT) (hst : Cond.static Lib.Math.max.name ∈ GT) (hini : Cond.initialized "java/lang/Math" ∈ GT) (hco : Cond.code Lib.Math.max.name Lib.Math.max.code 2 (some .int) ∈ GT) (hfr : 1 ≤ R.frames) (hlo : ∀ ad, ((S.map (rv ad)).map fun v => v.category).sum + 13 ≤ R.locals) (hcs : cells ≤ R.cells ∧ slots ≤ R.slots) (k : JW p l e R s m args below meth c nL D dA A E Q cells slots (pc + 3) L (.int (imax x y) :: S) w) : JW p l e R s m args below meth c nL D dA A E Q cells slots pc L (.int y :: .int x :: S) w := fun ad H locs ls hE hP hD hS hl => va_mmax C.1 C.2.1 (C.2.2.1.trans hl.1.symm) C.2.2.2.1 (C.2.2.2.2.1 _ hlk) (C.2.2.2.2.1 _ hst) (C.2.2.2.2.1 _ hini) (C.2.2.2.2.1 _ hco) hfr (hlo ad) hcs.1 hcs.2 hd (k ad H locs ls hE hP hD hS hl)
def imin (x y : Int32) : Int32 := if y < x then y else x
theorem J_min (C : jcx p s m args meth c cc nL own ret D dA A E) {index : Nat} {x y : Int32} (hd : decode cc pc = .ok (.invokestatic index, 3)) (hlk : Cond.methodLink own index Lib.Math.min.name ∈ GT) (hst : Cond.static Lib.Math.min.name ∈ GT) (hini : Cond.initialized "java/lang/Math" ∈ GT) (hco : Cond.code Lib.Math.min.name Lib.Math.min.code 2 (some .int) ∈ GT) (hfr : 1 ≤ R.frames) (hlo : ∀ ad, ((S.map (rv ad)).map fun v => v.category).sum + 13 ≤ R.locals) (hcs : cells ≤ R.cells ∧ slots ≤ R.slots) (k : JW p l e R s m args below meth c nL D dA A E Q cells slots (pc + 3) L (.int (imin x y) :: S) w) : JW p l e R s m args below meth c nL D dA A E Q cells slots pc L (.int y :: .int x :: S) w := fun ad H locs ls hE hP hD hS hl => va_mmin C.1 C.2.1 (C.2.2.1.trans hl.1.symm) C.2.2.2.1 (C.2.2.2.2.1 _ hlk) (C.2.2.2.2.1 _ hst) (C.2.2.2.2.1 _ hini) (C.2.2.2.2.1 _ hco) hfr (hlo ad) hcs.1 hcs.2 hd (k ad H locs ls hE hP hD hS hl)
theorem J_objInit (C : jcx p s m args meth c cc nL own ret D dA A E) {index b : Nat} (hd : decode cc pc = .ok (.invokespecial index, 3)) (hlk : Cond.methodLink own index Lib.objectInit ∈ GT) (hin : Cond.instanceMethod Lib.objectInit ∈ GT) (hco : Cond.code Lib.objectInit ⟨#[0xb1]⟩ 1 none ∈ GT) (hfr : 1 ≤ R.frames) (hlo : ∀ ad, 2 * 0 + ((S.map (rv ad)).map fun v => v.category).sum + 12 ≤ R.locals) (k : JW p l e R s m args below meth c nL D dA A E Q cells slots (pc + 3) L S w) : JW p l e R s m args below meth c nL D dA A E Q cells slots pc L (.ref b :: S) w := fun ad H locs ls hE hP hD hS hl => W.objInit C.1 C.2.1 C.2.2.2.1 (C.2.2.2.2.1 _ hlk) (C.2.2.2.2.1 _ hin) (C.2.2.2.2.1 _ hco) rfl (hl.1.trans C.2.2.1.symm) rfl hd hfr (hlo ad) (k ad H locs ls hE hP hD hS hl)
end JR
end
section
theorem rv_args (ad : Nat → Nat) : ∀ (vs : List Value) (i : Nat), lv_args i (vs.map (rv ad)) = (lv_args i vs).map (fun q => (q.1, rv ad q.2))
  | [], _ => rfl
  | v :: vs, i => by
    have h := rv_cat ad v
    have ih := rv_args ad vs
    simp [lv_args, h, ih]
theorem rv_slots (ad : Nat → Nat) (vs : List Value) : (lg_sl (vs.map (rv ad))).length = (lg_sl vs).length := by
  induction vs with
  | nil => rfl
  | cons v vs ih =>
    have h := rv_cat ad v
    simp only [lg_sl, List.map_cons, List.flatMap_cons, List.length_append] at ih ⊢
    rw [ih]
    simp only [h]
    by_cases hc : v.category = 2 <;> simp [hc]
theorem rv_ext {ad ad' : Nat → Nat} {n : Nat} {v : Value} (h : rOK n v = true) (e : ∀ k, (k < n ∨ 10000 ≤ k) → ad' k = ad k) : rv ad' v = rv ad v := by
  cases v <;> try rfl
  rename_i k
  simp only [rOK, Bool.or_eq_true, decide_eq_true_eq] at h
  simp only [rv]
  rw [e k h]
theorem rvs_ext {ad ad' : Nat → Nat} {n : Nat} {vs : List Value} (h : vs.all (rOK n) = true) (e : ∀ k, (k < n ∨ 10000 ≤ k) → ad' k = ad k) : vs.map (rv ad') = vs.map (rv ad) := by
  apply List.map_congr_left
  intro v hv
  exact rv_ext (List.all_eq_true.mp h v hv) e
theorem cv_ext {dA : FieldType → ClassId} {ad ad' : Nat → Nat} {n : Nat} {x : MC} (h : cOK n x) (e : ∀ k, (k < n ∨ 10000 ≤ k) → ad' k = ad k) : cv dA ad' x = cv dA ad x := by
  rcases x with ⟨ty, k, f | f | f | f | f⟩ | ⟨ci, fs⟩
  · rfl
  · rfl
  · rfl
  · rfl
  · show Sum.inl (dA ty, k, Sum.inr (Sum.inr (Sum.inr (Sum.inr (fun j => (f j).map ad'))))) = Sum.inl (dA ty, k, Sum.inr (Sum.inr (Sum.inr (Sum.inr (fun j => (f j).map ad)))))
    have h1 : (fun j => (f j).map ad') = fun j => (f j).map ad := by
      funext j
      cases hj : f j with
      | none => rfl
      | some q => show some (ad' q) = some (ad q); rw [e q (Or.inl (h j q hj))]
    rw [h1]
  · show Sum.inr (ci, fs.map (rv ad')) = Sum.inr (ci, fs.map (rv ad))
    rw [rvs_ext h e]
theorem wi_ext {dA : FieldType → ClassId} {ad ad' : Nat → Nat} {w : MW} (h : wOK w) (e : ∀ k, (k < w.length ∨ 10000 ≤ k) → ad' k = ad k) : wi dA ad' w = wi dA ad w := by
  unfold wi
  apply List.ext_getElem?
  intro k
  rw [List.getElem?_mapIdx, List.getElem?_mapIdx]
  cases hk : w[k]? with
  | none => rfl
  | some x =>
    have hl : k < w.length := (List.getElem?_eq_some_iff.mp hk).1
    show some (ad' k, cv dA ad' x) = some (ad k, cv dA ad x)
    rw [e k (Or.inl hl), cv_ext (h.2 x (List.mem_of_getElem? hk)) e]
theorem nwC_spec {n0 : Nat} {w w1 : MW} {vs : List Value} {x : MC} (h : nwC n0 w vs x = some w1) : wOK w ∧ vs.all (rOK w.length) = true ∧ n0 ≤ w.length ∧ w1 = w ++ [x] := by
  unfold nwC at h
  split at h
  · rename_i hc; cases h; exact ⟨hc.1, hc.2.1, hc.2.2, rfl⟩
  · cases h
theorem nwC_eq {n0 : Nat} {w : MW} {vs : List Value} {x : MC} (h1 : wOK w) (h2 : vs.all (rOK w.length) = true) (h3 : n0 ≤ w.length) : nwC n0 w vs x = some (w ++ [x]) := by
  unfold nwC
  rw [if_pos ⟨h1, h2, h3⟩]
/-- a call that makes cells: the receiver, and the values held elsewhere -/
noncomputable def clA {α : Type} (n0 : Nat) (w : MW) (ci b : Nat) (vs : List Value) (x : Option α) : Option α := @ite _ (n0 ≤ w.length ∧ vs.all (rOK w.length) = true) (Classical.propDecidable _) (cl w ci b x) none
theorem clA_spec {α : Type} {n0 : Nat} {w : MW} {ci b : Nat} {vs : List Value} {x : Option α} {y : α} (h : clA n0 w ci b vs x = some y) : n0 ≤ w.length ∧ vs.all (rOK w.length) = true ∧ ∃ fs, w[b]? = some (.inr (ci, fs)) ∧ x = some y := by
  unfold clA at h
  split at h
  · rename_i hc; exact ⟨hc.1, hc.2, cl_spec h⟩
  · cases h
theorem clA_eq {α : Type} {n0 : Nat} {w : MW} {ci b : Nat} {vs : List Value} {x : Option α} (h1 : n0 ≤ w.length) (h2 : vs.all (rOK w.length) = true) : clA n0 w ci b vs x = cl w ci b x := by
  unfold clA
  rw [if_pos ⟨h1, h2⟩]
section JK
variable {p : Program} {l : Launch} {e : Env} {R : Room} {s : State} {m : MethodId} {args : Array Value} {below : List Frame} {meth : Method} {c : Code} {Q : State → Prop} {cells slots : Nat}
variable {cc : ByteArray} {nL : Nat} {own : String} {ret : Option FieldType} {D : va_G} {dA : FieldType → ClassId} {A : Nat → Prop} {E : (Nat → Nat) → Prop}
variable {pc : Nat} {L : List (Nat × Value)} {S : List Value} {w : MW} {ρ : Type} {r : ρ}
theorem Pj_blind {ad : Nat → Nat} {as : List Value} {sz : Nat} : FrameBlind (Pj D dA ad as w sz) := fun a U g mk h => ⟨h.1, h.2.1, h.2.2.1, va_K.moved (u := U) (U := U.calling g mk a) (Vm.Alike.refl U.vm) h.2.2.2.1, h.2.2.2.2.1, h.2.2.2.2.2.calling⟩
theorem Aj (C : jcx p s m args meth c cc nL own ret D dA A E) {ad : Nat → Nat} {H : Heap} {locs : List Loc} (hD : va_D A (wi dA ad w)) (hS : va_S A s.heap H locs) : ∀ q, va_A (wi dA ad w) H.size q → A q := by
  intro q h
  rcases h with ⟨k, x, h⟩ | h
  · exact hD.2 k _ h
  · exact C.2.2.2.2.2.2.2.2.1 q (Nat.le_trans hS.1 h)
theorem Pj_ok (C : jcx p s m args meth c cc nL own ret D dA A E) {ad : Nat → Nat} {H : Heap} {locs : List Loc} {as : List Value} (hE : E ad) (hP : va_P D vwCl (wi dA ad w) H) (hD : va_D A (wi dA ad w)) (hS : va_S A s.heap H locs) : ∀ U : State, U.heap = H → s.WarmedH U.vm → Pj D dA ad as w H.size (as.map (rv ad)).toArray U := fun U hU hW =>
  ⟨rfl, by rw [hU], by rw [hU]; exact hP, va_K.moved hW.alike C.2.2.2.2.2.1, hD.weaken (fun _ _ _ _ => trivial), by rw [hU]; exact (((C.2.2.2.2.2.2.2.2.2 ad hE).kept hS.2.1).warm hW).narrow (Aj C hD hS)⟩
theorem J_run (C : jcx p s m args meth c cc nL own ret D dA A E) {Sc : List Value} {v : Option Value} {w' : MW} (hr : ∀ (ad : Nat → Nat) (H : Heap) (locs : List Loc) (ls : Array Slot), E ad → va_P D vwCl (wi dA ad w) H → va_D A (wi dA ad w) → va_S A s.heap H locs → lv_has ls nL (L.map (fun q => (q.1, rv ad q.2))) → ∃ ar, va_Run p l e R s m args below meth c H locs cells slots 0 0 (F0 m pc ls (Sc.map (rv ad))) (S.map (rv ad)) (Qr D dA (EN ad) v w' (va_A (wi dA ad w) H.size) ar) (va_A (wi dA ad w) H.size)) (k : JW p l e R s m args below meth c nL D dA A E Q cells slots (pc + 3) L (v.toList ++ S) w') : JW p l e R s m args below meth c nL D dA A E Q cells slots pc L Sc w := by
  intro ad H locs ls hE hP hD hS hl T hT X
  obtain ⟨ar, hr⟩ := hr ad H locs ls hE hP hD hS hl
  obtain ⟨v1, st₀, t, T', L1, h0, X', hL, e1, e2, ⟨ad', had, hv, hP1, hD1, hz, hk⟩, st⟩ := hr T hT X
  have had : ad' = ad := had
  subst had
  have hv : v1 = v.map (rv ad') := by cases hv; rfl
  subst hv
  rw [h0] at hz hk
  have hA := Aj C hD hS
  have hS1 : va_S A s.heap T'.heap (locs ++ L1) := ⟨Nat.le_trans hS.1 (by rw [e1]; exact hz), fun q h1 h2 => by rw [e1, hk q (Nat.lt_of_lt_of_le h1 hS.1) (fun z => h2 (hA q z))]; exact hS.2.1 q h1 h2, fun q hq => by
    rcases List.mem_append.mp hq with h | h
    · exact hS.2.2 q h
    · exact hA _ (hL q h)⟩
  obtain ⟨t2, a1, b1⟩ := k ad' T'.heap (locs ++ L1) ls hE (by rw [e1]; exact hP1) (hD1.weaken (fun _ _ _ h => hA _ h)) hS1 hl T' rfl X'
  refine ⟨t2, st t2 ?_, b1⟩
  have eS : (v.toList ++ S).map (rv ad') = (v.map (rv ad')).toList ++ S.map (rv ad') := by cases v <;> rfl
  rw [eS] at a1
  exact a1
theorem J_runA (C : jcx p s m args meth c cc nL own ret D dA A E) {Sc : List Value} {v : Option Value} {w' : MW} {mc ms : Nat} (hEE : ∀ ad ad', E ad → EA w.length ad ad' → E ad') (hL0 : (L.map (fun q => q.2)).all (rOK w.length) = true) (hS0 : S.all (rOK w.length) = true) (hr : ∀ (ad : Nat → Nat) (H : Heap) (locs : List Loc) (ls : Array Slot), E ad → va_P D vwCl (wi dA ad w) H → va_D A (wi dA ad w) → va_S A s.heap H locs → lv_has ls nL (L.map (fun q => (q.1, rv ad q.2))) → ∃ ar, va_Run p l e R s m args below meth c H locs cells slots mc ms (F0 m pc ls (Sc.map (rv ad))) (S.map (rv ad)) (Qr D dA (EA w.length ad) v w' (va_A (wi dA ad w) H.size) ar) (va_A (wi dA ad w) H.size)) (k : JW p l e R s m args below meth c nL D dA A E Q (cells + mc) (slots + ms) (pc + 3) L (v.toList ++ S) w') : JW p l e R s m args below meth c nL D dA A E Q cells slots pc L Sc w := by
  intro ad H locs ls hE hP hD hS hl T hT X
  obtain ⟨ar, hr⟩ := hr ad H locs ls hE hP hD hS hl
  obtain ⟨v1, st₀, t, T', L1, h0, X', hL, e1, e2, ⟨ad', had, hv, hP1, hD1, hz, hk⟩, st⟩ := hr T hT X
  have hv : v1 = v.map (rv ad') := by cases hv; rfl
  subst hv
  rw [h0] at hz hk
  have hA := Aj C hD hS
  have hS1 : va_S A s.heap T'.heap (locs ++ L1) := ⟨Nat.le_trans hS.1 (by rw [e1]; exact hz), fun q h1 h2 => by rw [e1, hk q (Nat.lt_of_lt_of_le h1 hS.1) (fun z => h2 (hA q z))]; exact hS.2.1 q h1 h2, fun q hq => by
    rcases List.mem_append.mp hq with h | h
    · exact hS.2.2 q h
    · exact hA _ (hL q h)⟩
  have eL : L.map (fun q => (q.1, rv ad' q.2)) = L.map (fun q => (q.1, rv ad q.2)) := by
    apply List.map_congr_left
    intro q hq
    rw [rv_ext (List.all_eq_true.mp hL0 _ (List.mem_map_of_mem hq)) had]
  obtain ⟨t2, a1, b1⟩ := k ad' T'.heap (locs ++ L1) ls (hEE ad ad' hE had) (by rw [e1]; exact hP1) (hD1.weaken (fun _ _ _ h => hA _ h)) hS1 (by rw [eL]; exact hl) T' rfl X'
  refine ⟨t2, st t2 ?_, b1⟩
  have eS : (v.toList ++ S).map (rv ad') = (v.map (rv ad')).toList ++ S.map (rv ad) := by
    rw [List.map_append, rvs_ext hS0 had]; cases v <;> rfl
  rw [eS] at a1
  exact a1
theorem J_callV (C : jcx p s m args meth c cc nL own ret D dA A E) {y : MethodName} {bytes : ByteArray} {maxL index n : Nat} {ret' : Option FieldType} {rm : Room} {as : List Value} {v : Option Value} {w' : MW} {Sc : List Value} {b ci : Nat} {fs : List Value} (hd : decode cc pc = .ok (.invokevirtual index, 3)) (hM : CT l D dA y bytes maxL ret' rm (.ref b :: as) w v w') (hlk : Cond.methodLink own index y ∈ GT) (hco : Cond.code y bytes maxL ret' ∈ GT) (hini : Cond.initialized y.cls ∈ GT) (hins : Cond.instanceMethod y ∈ GT) (hsel : Cond.selects y.cls y y ∈ GT) {T : u_T} {N : Nat} (hci : vwCl[ci]? = some (y.cls, T, N)) (hy : y.cls ≠ "java/lang/invoke/MethodHandle" ∧ y.cls ≠ "java/lang/invoke/VarHandle" ∧ (parseMethodDescriptor y.desc).map (fun d => d.parameters.length) = some n) (hR : rm.frames + 1 ≤ R.frames ∧ 8 + (maxL + 11) + rm.locals ≤ R.locals) (hcs : cells ≤ R.cells ∧ slots ≤ R.slots) (hrm : rm.cells = 0 ∧ rm.slots = 0) (hb : w[b]? = some (.inr (ci, fs))) (hn : as.length = n) (hst : Sc = as.reverse ++ .ref b :: S) (hW : ∀ ad, ((S.map (rv ad)).map fun v => v.category).sum ≤ 8) (k : JW p l e R s m args below meth c nL D dA A E Q cells slots (pc + 3) L (v.toList ++ S) w') : JW p l e R s m args below meth c nL D dA A E Q cells slots pc L Sc w := by
  refine J_run C (fun ad H locs ls hE hP hD hS hl => ⟨((.ref b :: as).map (rv ad)).toArray, ?_⟩) k
  exact va_runV (C := y.cls) (b := ad b) (As := as.map (rv ad)) (rest := S.map (rv ad)) ⟨C.1, C.2.1, C.2.2.1, C.2.2.2.1, C.2.2.2.2.1⟩ (hM ad H.size) ⟨callB_of n C.2.2.2.2.1 (GT_in hco) rfl hrm.1 hrm.2 (C.2.2.2.2.1 _ hini) (C.2.2.2.2.1 _ hlk) hy hR, C.2.2.2.2.1 _ hins, C.2.2.2.2.1 _ hsel⟩ ⟨Pj_blind, va_recv C.2.2.2.2.2.1 hP (q := (y.cls, T, N)) hci (wi_at hb), Pj_ok C (as := .ref b :: as) hE hP hD hS⟩ rfl (by rw [List.length_map]; exact hn) hl.1 (by subst hst; simp [rv]) (by show 2 * 0 + _ ≤ 8; have := hW ad; omega) hd ⟨hcs.1, hcs.2⟩
theorem J_callS (C : jcx p s m args meth c cc nL own ret D dA A E) {y : MethodName} {bytes : ByteArray} {maxL index n : Nat} {ret' : Option FieldType} {rm : Room} {as : List Value} {v : Option Value} {w' : MW} {Sc : List Value} (hd : decode cc pc = .ok (.invokestatic index, 3)) (hM : CT l D dA y bytes maxL ret' rm (as) w v w') (hlk : Cond.methodLink own index y ∈ GT) (hco : Cond.code y bytes maxL ret' ∈ GT) (hini : Cond.initialized y.cls ∈ GT) (hsta : Cond.static y ∈ GT) (hy : y.cls ≠ "java/lang/invoke/MethodHandle" ∧ y.cls ≠ "java/lang/invoke/VarHandle" ∧ (parseMethodDescriptor y.desc).map (fun d => d.parameters.length) = some n) (hR : rm.frames + 1 ≤ R.frames ∧ 8 + (maxL + 11) + rm.locals ≤ R.locals) (hcs : cells ≤ R.cells ∧ slots ≤ R.slots) (hrm : rm.cells = 0 ∧ rm.slots = 0) (hn : as.length = n) (hst : Sc = as.reverse ++ S) (hW : ∀ ad, ((S.map (rv ad)).map fun v => v.category).sum ≤ 8) (k : JW p l e R s m args below meth c nL D dA A E Q cells slots (pc + 3) L (v.toList ++ S) w') : JW p l e R s m args below meth c nL D dA A E Q cells slots pc L Sc w := by
  refine J_run C (fun ad H locs ls hE hP hD hS hl => ⟨((as).map (rv ad)).toArray, ?_⟩) k
  exact va_runS (As := as.map (rv ad)) (rest := S.map (rv ad)) ⟨C.1, C.2.1, C.2.2.1, C.2.2.2.1, C.2.2.2.2.1⟩ (hM ad H.size) ⟨callB_of n C.2.2.2.2.1 (GT_in hco) rfl hrm.1 hrm.2 (C.2.2.2.2.1 _ hini) (C.2.2.2.2.1 _ hlk) hy hR, C.2.2.2.2.1 _ hsta⟩ ⟨Pj_blind, Pj_ok C (as := as) hE hP hD hS⟩ rfl (by rw [List.length_map]; exact hn) hl.1 (by subst hst; simp [rv]) (by show 2 * 0 + _ ≤ 8; have := hW ad; omega) hd ⟨hcs.1, hcs.2⟩
theorem J_callSN (C : jcx p s m args meth c cc nL own ret D dA A E) {y : MethodName} {bytes : ByteArray} {maxL index n : Nat} {ret' : Option FieldType} {rm : Room} {as : List Value} {v : Option Value} {w' : MW} {Sc : List Value} (hd : decode cc pc = .ok (.invokestatic index, 3)) (hM : CT l D dA y bytes maxL ret' rm (as) w v w') {host : String} (hlk : Cond.methodLinkNest own index y host ∈ NT) (hco : Cond.code y bytes maxL ret' ∈ GT) (hini : Cond.initialized y.cls ∈ GT) (hsta : Cond.static y ∈ GT) (hy : y.cls ≠ "java/lang/invoke/MethodHandle" ∧ y.cls ≠ "java/lang/invoke/VarHandle" ∧ (parseMethodDescriptor y.desc).map (fun d => d.parameters.length) = some n) (hR : rm.frames + 1 ≤ R.frames ∧ 8 + (maxL + 11) + rm.locals ≤ R.locals) (hcs : cells ≤ R.cells ∧ slots ≤ R.slots) (hrm : rm.cells = 0 ∧ rm.slots = 0) (hn : as.length = n) (hst : Sc = as.reverse ++ S) (hW : ∀ ad, ((S.map (rv ad)).map fun v => v.category).sum ≤ 8) (k : JW p l e R s m args below meth c nL D dA A E Q cells slots (pc + 3) L (v.toList ++ S) w') : JW p l e R s m args below meth c nL D dA A E Q cells slots pc L Sc w := by
  refine J_run C (fun ad H locs ls hE hP hD hS hl => ⟨((as).map (rv ad)).toArray, ?_⟩) k
  exact va_runSN (As := as.map (rv ad)) (rest := S.map (rv ad)) ⟨C.1, C.2.1, C.2.2.1, C.2.2.2.1, C.2.2.2.2.1⟩ (hM ad H.size) ⟨va_cnB n C.2.2.2.2.1 (GT_in hco) rfl hrm.1 hrm.2 ((C.2.2.2.2.2.2.2.2.2 ad hE).1 _ hlk) (C.2.2.2.2.1 _ hini) hy hR, C.2.2.2.2.1 _ hsta, trivial⟩ ⟨Pj_blind, Pj_ok C (as := as) hE hP hD hS⟩ rfl (by rw [List.length_map]; exact hn) hl.1 (by subst hst; simp [rv]) (by show 2 * 0 + _ ≤ 8; have := hW ad; omega) hd ⟨hcs.1, hcs.2⟩
theorem J_callI (C : jcx p s m args meth c cc nL own ret D dA A E) {y : MethodName} {bytes : ByteArray} {maxL index n : Nat} {rm : Room} {as : List Value} {v : Option Value} {w' : MW} {Sc : List Value} {b ci : Nat} {fs : List Value} (hd : decode cc pc = .ok (.invokespecial index, 3)) (hM : CT l D dA y bytes maxL none rm (.ref b :: as) w v w') (hlk : Cond.methodLink own index y ∈ GT) (hco : Cond.code y bytes maxL none ∈ GT) (hini : Cond.initialized y.cls ∈ GT) (hins : Cond.instanceMethod y ∈ GT) (hnm : y.name = "<init>") (hy : y.cls ≠ "java/lang/invoke/MethodHandle" ∧ y.cls ≠ "java/lang/invoke/VarHandle" ∧ (parseMethodDescriptor y.desc).map (fun d => d.parameters.length) = some n) (hR : rm.frames + 1 ≤ R.frames ∧ 8 + (maxL + 11) + rm.locals ≤ R.locals) (hcs : cells ≤ R.cells ∧ slots ≤ R.slots) (hrm : rm.cells = 0 ∧ rm.slots = 0) (hb : w[b]? = some (.inr (ci, fs))) (hn : as.length = n) (hst : Sc = as.reverse ++ .ref b :: S) (hW : ∀ ad, ((S.map (rv ad)).map fun v => v.category).sum ≤ 8) (k : JW p l e R s m args below meth c nL D dA A E Q cells slots (pc + 3) L (v.toList ++ S) w') : JW p l e R s m args below meth c nL D dA A E Q cells slots pc L Sc w := by
  refine J_run C (fun ad H locs ls hE hP hD hS hl => ⟨((.ref b :: as).map (rv ad)).toArray, ?_⟩) k
  exact va_runI (b := ad b) (As := as.map (rv ad)) (rest := S.map (rv ad)) ⟨C.1, C.2.1, C.2.2.1, C.2.2.2.1, C.2.2.2.2.1⟩ (hM ad H.size) ⟨callB_of n C.2.2.2.2.1 (GT_in hco) rfl hrm.1 hrm.2 (C.2.2.2.2.1 _ hini) (C.2.2.2.2.1 _ hlk) hy hR, hnm, C.2.2.2.2.1 _ hins⟩ ⟨Pj_blind, Pj_ok C (as := .ref b :: as) hE hP hD hS⟩ rfl (by rw [List.length_map]; exact hn) hl.1 (by subst hst; simp [rv]) (by show 2 * 0 + _ ≤ 8; have := hW ad; omega) hd ⟨hcs.1, hcs.2⟩
theorem J_callIN (C : jcx p s m args meth c cc nL own ret D dA A E) {y : MethodName} {bytes : ByteArray} {maxL index n : Nat} {rm : Room} {as : List Value} {v : Option Value} {w' : MW} {Sc : List Value} {b ci : Nat} {fs : List Value} (hd : decode cc pc = .ok (.invokespecial index, 3)) (hM : CT l D dA y bytes maxL none rm (.ref b :: as) w v w') {host : String} (hlk : Cond.methodLinkNest own index y host ∈ NT) (hco : Cond.code y bytes maxL none ∈ GT) (hini : Cond.initialized y.cls ∈ GT) (hins : Cond.instanceMethod y ∈ GT) (hnm : y.name = "<init>") (hy : y.cls ≠ "java/lang/invoke/MethodHandle" ∧ y.cls ≠ "java/lang/invoke/VarHandle" ∧ (parseMethodDescriptor y.desc).map (fun d => d.parameters.length) = some n) (hR : rm.frames + 1 ≤ R.frames ∧ 8 + (maxL + 11) + rm.locals ≤ R.locals) (hcs : cells ≤ R.cells ∧ slots ≤ R.slots) (hrm : rm.cells = 0 ∧ rm.slots = 0) (hb : w[b]? = some (.inr (ci, fs))) (hn : as.length = n) (hst : Sc = as.reverse ++ .ref b :: S) (hW : ∀ ad, ((S.map (rv ad)).map fun v => v.category).sum ≤ 8) (k : JW p l e R s m args below meth c nL D dA A E Q cells slots (pc + 3) L (v.toList ++ S) w') : JW p l e R s m args below meth c nL D dA A E Q cells slots pc L Sc w := by
  refine J_run C (fun ad H locs ls hE hP hD hS hl => ⟨((.ref b :: as).map (rv ad)).toArray, ?_⟩) k
  exact va_runIN (b := ad b) (As := as.map (rv ad)) (rest := S.map (rv ad)) ⟨C.1, C.2.1, C.2.2.1, C.2.2.2.1, C.2.2.2.2.1⟩ (hM ad H.size) ⟨va_cnB n C.2.2.2.2.1 (GT_in hco) rfl hrm.1 hrm.2 ((C.2.2.2.2.2.2.2.2.2 ad hE).1 _ hlk) (C.2.2.2.2.1 _ hini) hy hR, hnm, C.2.2.2.2.1 _ hins⟩ ⟨Pj_blind, Pj_ok C (as := .ref b :: as) hE hP hD hS⟩ rfl (by rw [List.length_map]; exact hn) hl.1 (by subst hst; simp [rv]) (by show 2 * 0 + _ ≤ 8; have := hW ad; omega) hd ⟨hcs.1, hcs.2⟩
theorem J_callIA (C : jcx p s m args meth c cc nL own ret D dA A E) {y : MethodName} {bytes : ByteArray} {maxL index n : Nat} {rm : Room} {as : List Value} {v : Option Value} {w' : MW} {Sc : List Value} {b ci : Nat} {fs : List Value} {mc ms : Nat} (hd : decode cc pc = .ok (.invokespecial index, 3)) (hM : CA l D dA y bytes maxL none rm mc ms (.ref b :: as) w v w') (hlk : Cond.methodLink own index y ∈ GT) (hco : Cond.code y bytes maxL none ∈ GT) (hini : Cond.initialized y.cls ∈ GT) (hins : Cond.instanceMethod y ∈ GT) (hnm : y.name = "<init>") (hy : y.cls ≠ "java/lang/invoke/MethodHandle" ∧ y.cls ≠ "java/lang/invoke/VarHandle" ∧ (parseMethodDescriptor y.desc).map (fun d => d.parameters.length) = some n) (hR : rm.frames + 1 ≤ R.frames ∧ 8 + (maxL + 11) + rm.locals ≤ R.locals) (hcs : cells + mc ≤ R.cells ∧ slots + ms ≤ R.slots) (hrm : rm.cells = mc ∧ rm.slots = ms) (hb : w[b]? = some (.inr (ci, fs))) (hn : as.length = n) (hst : Sc = as.reverse ++ .ref b :: S) (hW : ∀ ad, ((S.map (rv ad)).map fun v => v.category).sum ≤ 8) {n0 : Nat} (hEE : ∀ (w1 : MW) (ad ad' : Nat → Nat), n0 ≤ w1.length → E ad → EA w1.length ad ad' → E ad') (hn0 : n0 ≤ w.length) (vs : List Value) (hvs : L.map (fun q => q.2) ++ S = vs) (hv0 : vs.all (rOK w.length) = true) (k : JW p l e R s m args below meth c nL D dA A E Q (cells + mc) (slots + ms) (pc + 3) L (v.toList ++ S) w') : JW p l e R s m args below meth c nL D dA A E Q cells slots pc L Sc w := by
  refine J_runA C (fun ad ad' => hEE w ad ad' hn0) (by rw [← hvs, List.all_append, Bool.and_eq_true] at hv0; exact hv0.1) (by rw [← hvs, List.all_append, Bool.and_eq_true] at hv0; exact hv0.2) (fun ad H locs ls hE hP hD hS hl => ⟨((.ref b :: as).map (rv ad)).toArray, ?_⟩) k
  exact va_runI (b := ad b) (As := as.map (rv ad)) (rest := S.map (rv ad)) ⟨C.1, C.2.1, C.2.2.1, C.2.2.2.1, C.2.2.2.2.1⟩ (hM ad H.size) ⟨callB_of n C.2.2.2.2.1 (GT_in hco) rfl hrm.1 hrm.2 (C.2.2.2.2.1 _ hini) (C.2.2.2.2.1 _ hlk) hy hR, hnm, C.2.2.2.2.1 _ hins⟩ ⟨Pj_blind, Pj_ok C (as := .ref b :: as) hE hP hD hS⟩ rfl (by rw [List.length_map]; exact hn) hl.1 (by subst hst; simp [rv]) (by show 2 * 0 + _ ≤ 8; have := hW ad; omega) hd ⟨hcs.1, hcs.2⟩
theorem J_callINA (C : jcx p s m args meth c cc nL own ret D dA A E) {y : MethodName} {bytes : ByteArray} {maxL index n : Nat} {rm : Room} {as : List Value} {v : Option Value} {w' : MW} {Sc : List Value} {b ci : Nat} {fs : List Value} {mc ms : Nat} (hd : decode cc pc = .ok (.invokespecial index, 3)) (hM : CA l D dA y bytes maxL none rm mc ms (.ref b :: as) w v w') {host : String} (hlk : Cond.methodLinkNest own index y host ∈ NT) (hco : Cond.code y bytes maxL none ∈ GT) (hini : Cond.initialized y.cls ∈ GT) (hins : Cond.instanceMethod y ∈ GT) (hnm : y.name = "<init>") (hy : y.cls ≠ "java/lang/invoke/MethodHandle" ∧ y.cls ≠ "java/lang/invoke/VarHandle" ∧ (parseMethodDescriptor y.desc).map (fun d => d.parameters.length) = some n) (hR : rm.frames + 1 ≤ R.frames ∧ 8 + (maxL + 11) + rm.locals ≤ R.locals) (hcs : cells + mc ≤ R.cells ∧ slots + ms ≤ R.slots) (hrm : rm.cells = mc ∧ rm.slots = ms) (hb : w[b]? = some (.inr (ci, fs))) (hn : as.length = n) (hst : Sc = as.reverse ++ .ref b :: S) (hW : ∀ ad, ((S.map (rv ad)).map fun v => v.category).sum ≤ 8) {n0 : Nat} (hEE : ∀ (w1 : MW) (ad ad' : Nat → Nat), n0 ≤ w1.length → E ad → EA w1.length ad ad' → E ad') (hn0 : n0 ≤ w.length) (vs : List Value) (hvs : L.map (fun q => q.2) ++ S = vs) (hv0 : vs.all (rOK w.length) = true) (k : JW p l e R s m args below meth c nL D dA A E Q (cells + mc) (slots + ms) (pc + 3) L (v.toList ++ S) w') : JW p l e R s m args below meth c nL D dA A E Q cells slots pc L Sc w := by
  refine J_runA C (fun ad ad' => hEE w ad ad' hn0) (by rw [← hvs, List.all_append, Bool.and_eq_true] at hv0; exact hv0.1) (by rw [← hvs, List.all_append, Bool.and_eq_true] at hv0; exact hv0.2) (fun ad H locs ls hE hP hD hS hl => ⟨((.ref b :: as).map (rv ad)).toArray, ?_⟩) k
  exact va_runIN (b := ad b) (As := as.map (rv ad)) (rest := S.map (rv ad)) ⟨C.1, C.2.1, C.2.2.1, C.2.2.2.1, C.2.2.2.2.1⟩ (hM ad H.size) ⟨va_cnB n C.2.2.2.2.1 (GT_in hco) rfl hrm.1 hrm.2 ((C.2.2.2.2.2.2.2.2.2 ad hE).1 _ hlk) (C.2.2.2.2.1 _ hini) hy hR, hnm, C.2.2.2.2.1 _ hins⟩ ⟨Pj_blind, Pj_ok C (as := .ref b :: as) hE hP hD hS⟩ rfl (by rw [List.length_map]; exact hn) hl.1 (by subst hst; simp [rv]) (by show 2 * 0 + _ ≤ 8; have := hW ad; omega) hd ⟨hcs.1, hcs.2⟩
/-- a callee's words, in one -/
def YV (y : MethodName) (bytes : ByteArray) (maxL : Nat) (ret' : Option FieldType) (rm : Room) (ci n : Nat) : Prop := Cond.code y bytes maxL ret' ∈ GT ∧ Cond.initialized y.cls ∈ GT ∧ Cond.instanceMethod y ∈ GT ∧ Cond.selects y.cls y y ∈ GT ∧ (∃ (T : u_T) (N : Nat), vwCl[ci]? = some (y.cls, T, N)) ∧ (y.cls ≠ "java/lang/invoke/MethodHandle" ∧ y.cls ≠ "java/lang/invoke/VarHandle" ∧ (parseMethodDescriptor y.desc).map (fun d => d.parameters.length) = some n) ∧ (rm.cells = 0 ∧ rm.slots = 0)
def YS (y : MethodName) (bytes : ByteArray) (maxL : Nat) (ret' : Option FieldType) (rm : Room) (n : Nat) : Prop := Cond.code y bytes maxL ret' ∈ GT ∧ Cond.initialized y.cls ∈ GT ∧ Cond.static y ∈ GT ∧ (y.cls ≠ "java/lang/invoke/MethodHandle" ∧ y.cls ≠ "java/lang/invoke/VarHandle" ∧ (parseMethodDescriptor y.desc).map (fun d => d.parameters.length) = some n) ∧ (rm.cells = 0 ∧ rm.slots = 0)
def YI (y : MethodName) (bytes : ByteArray) (maxL : Nat) (rm : Room) (mc ms n : Nat) : Prop := Cond.code y bytes maxL none ∈ GT ∧ Cond.initialized y.cls ∈ GT ∧ Cond.instanceMethod y ∈ GT ∧ y.name = "<init>" ∧ (y.cls ≠ "java/lang/invoke/MethodHandle" ∧ y.cls ≠ "java/lang/invoke/VarHandle" ∧ (parseMethodDescriptor y.desc).map (fun d => d.parameters.length) = some n) ∧ (rm.cells = mc ∧ rm.slots = ms)
theorem J_cV (C : jcx p s m args meth c cc nL own ret D dA A E) {y : MethodName} {bytes : ByteArray} {maxL index n : Nat} {ret' : Option FieldType} {rm : Room} {as : List Value} {v : Option Value} {w' : MW} {Sc : List Value} {b ci : Nat} {fs : List Value} (hd : decode cc pc = .ok (.invokevirtual index, 3)) (hM : CT l D dA y bytes maxL ret' rm (.ref b :: as) w v w') (hlk : Cond.methodLink own index y ∈ GT) (Y : YV y bytes maxL ret' rm ci n) (hR : rm.frames + 1 ≤ R.frames ∧ 8 + (maxL + 11) + rm.locals ≤ R.locals) (hcs : cells ≤ R.cells ∧ slots ≤ R.slots) (hb : w[b]? = some (.inr (ci, fs))) (hn : as.length = n) (hst : Sc = as.reverse ++ .ref b :: S) (hW : ∀ ad, ((S.map (rv ad)).map fun v => v.category).sum ≤ 8) (k : JW p l e R s m args below meth c nL D dA A E Q cells slots (pc + 3) L (v.toList ++ S) w') : JW p l e R s m args below meth c nL D dA A E Q cells slots pc L Sc w := by
  obtain ⟨y1, y2, y3, y4, ⟨T, N, y5⟩, y6, y7⟩ := Y
  exact J_callV C hd hM hlk y1 y2 y3 y4 y5 y6 hR hcs y7 hb hn hst hW k
theorem J_cS (C : jcx p s m args meth c cc nL own ret D dA A E) {y : MethodName} {bytes : ByteArray} {maxL index n : Nat} {ret' : Option FieldType} {rm : Room} {as : List Value} {v : Option Value} {w' : MW} {Sc : List Value} (hd : decode cc pc = .ok (.invokestatic index, 3)) (hM : CT l D dA y bytes maxL ret' rm as w v w') (hlk : Cond.methodLink own index y ∈ GT) (Y : YS y bytes maxL ret' rm n) (hR : rm.frames + 1 ≤ R.frames ∧ 8 + (maxL + 11) + rm.locals ≤ R.locals) (hcs : cells ≤ R.cells ∧ slots ≤ R.slots) (hn : as.length = n) (hst : Sc = as.reverse ++ S) (hW : ∀ ad, ((S.map (rv ad)).map fun v => v.category).sum ≤ 8) (k : JW p l e R s m args below meth c nL D dA A E Q cells slots (pc + 3) L (v.toList ++ S) w') : JW p l e R s m args below meth c nL D dA A E Q cells slots pc L Sc w := by
  obtain ⟨y1, y2, y3, y6, y7⟩ := Y
  exact J_callS C hd hM hlk y1 y2 y3 y6 hR hcs y7 hn hst hW k
theorem J_cSN (C : jcx p s m args meth c cc nL own ret D dA A E) {y : MethodName} {bytes : ByteArray} {maxL index n : Nat} {ret' : Option FieldType} {rm : Room} {as : List Value} {v : Option Value} {w' : MW} {Sc : List Value} {host : String} (hd : decode cc pc = .ok (.invokestatic index, 3)) (hM : CT l D dA y bytes maxL ret' rm as w v w') (hlk : Cond.methodLinkNest own index y host ∈ NT) (Y : YS y bytes maxL ret' rm n) (hR : rm.frames + 1 ≤ R.frames ∧ 8 + (maxL + 11) + rm.locals ≤ R.locals) (hcs : cells ≤ R.cells ∧ slots ≤ R.slots) (hn : as.length = n) (hst : Sc = as.reverse ++ S) (hW : ∀ ad, ((S.map (rv ad)).map fun v => v.category).sum ≤ 8) (k : JW p l e R s m args below meth c nL D dA A E Q cells slots (pc + 3) L (v.toList ++ S) w') : JW p l e R s m args below meth c nL D dA A E Q cells slots pc L Sc w := by
  obtain ⟨y1, y2, y3, y6, y7⟩ := Y
  exact J_callSN C hd hM hlk y1 y2 y3 y6 hR hcs y7 hn hst hW k
theorem J_cI (C : jcx p s m args meth c cc nL own ret D dA A E) {y : MethodName} {bytes : ByteArray} {maxL index n : Nat} {rm : Room} {as : List Value} {v : Option Value} {w' : MW} {Sc : List Value} {b ci : Nat} {fs : List Value} (hd : decode cc pc = .ok (.invokespecial index, 3)) (hM : CT l D dA y bytes maxL none rm (.ref b :: as) w v w') (hlk : Cond.methodLink own index y ∈ GT) (Y : YI y bytes maxL rm 0 0 n) (hR : rm.frames + 1 ≤ R.frames ∧ 8 + (maxL + 11) + rm.locals ≤ R.locals) (hcs : cells ≤ R.cells ∧ slots ≤ R.slots) (hb : w[b]? = some (.inr (ci, fs))) (hn : as.length = n) (hst : Sc = as.reverse ++ .ref b :: S) (hW : ∀ ad, ((S.map (rv ad)).map fun v => v.category).sum ≤ 8) (k : JW p l e R s m args below meth c nL D dA A E Q cells slots (pc + 3) L (v.toList ++ S) w') : JW p l e R s m args below meth c nL D dA A E Q cells slots pc L Sc w := by
  obtain ⟨y1, y2, y3, y4, y6, y7⟩ := Y
  exact J_callI C hd hM hlk y1 y2 y3 y4 y6 hR hcs y7 hb hn hst hW k
theorem J_cIA (C : jcx p s m args meth c cc nL own ret D dA A E) {y : MethodName} {bytes : ByteArray} {maxL index n : Nat} {rm : Room} {as : List Value} {v : Option Value} {w' : MW} {Sc : List Value} {b ci mc ms : Nat} {fs : List Value} (hd : decode cc pc = .ok (.invokespecial index, 3)) (hM : CA l D dA y bytes maxL none rm mc ms (.ref b :: as) w v w') (hlk : Cond.methodLink own index y ∈ GT) (Y : YI y bytes maxL rm mc ms n) (hR : rm.frames + 1 ≤ R.frames ∧ 8 + (maxL + 11) + rm.locals ≤ R.locals) (hcs : cells + mc ≤ R.cells ∧ slots + ms ≤ R.slots) (hb : w[b]? = some (.inr (ci, fs))) (hn : as.length = n) (hst : Sc = as.reverse ++ .ref b :: S) (hW : ∀ ad, ((S.map (rv ad)).map fun v => v.category).sum ≤ 8) {n0 : Nat} (hEE : ∀ (w1 : MW) (ad ad' : Nat → Nat), n0 ≤ w1.length → E ad → EA w1.length ad ad' → E ad') (hn0 : n0 ≤ w.length) (vs : List Value) (hvs : L.map (fun q => q.2) ++ S = vs) (hv0 : vs.all (rOK w.length) = true) (k : JW p l e R s m args below meth c nL D dA A E Q (cells + mc) (slots + ms) (pc + 3) L (v.toList ++ S) w') : JW p l e R s m args below meth c nL D dA A E Q cells slots pc L Sc w := by
  obtain ⟨y1, y2, y3, y4, y6, y7⟩ := Y
  exact J_callIA C hd hM hlk y1 y2 y3 y4 y6 hR hcs y7 hb hn hst hW hEE hn0 vs hvs hv0 k
theorem J_cIN (C : jcx p s m args meth c cc nL own ret D dA A E) {y : MethodName} {bytes : ByteArray} {maxL index n : Nat} {rm : Room} {as : List Value} {v : Option Value} {w' : MW} {Sc : List Value} {b ci : Nat} {fs : List Value} (hd : decode cc pc = .ok (.invokespecial index, 3)) (hM : CT l D dA y bytes maxL none rm (.ref b :: as) w v w') {host : String} (hlk : Cond.methodLinkNest own index y host ∈ NT) (Y : YI y bytes maxL rm 0 0 n) (hR : rm.frames + 1 ≤ R.frames ∧ 8 + (maxL + 11) + rm.locals ≤ R.locals) (hcs : cells ≤ R.cells ∧ slots ≤ R.slots) (hb : w[b]? = some (.inr (ci, fs))) (hn : as.length = n) (hst : Sc = as.reverse ++ .ref b :: S) (hW : ∀ ad, ((S.map (rv ad)).map fun v => v.category).sum ≤ 8) (k : JW p l e R s m args below meth c nL D dA A E Q cells slots (pc + 3) L (v.toList ++ S) w') : JW p l e R s m args below meth c nL D dA A E Q cells slots pc L Sc w := by
  obtain ⟨y1, y2, y3, y4, y6, y7⟩ := Y
  exact J_callIN C hd hM hlk y1 y2 y3 y4 y6 hR hcs y7 hb hn hst hW k
theorem J_cINA (C : jcx p s m args meth c cc nL own ret D dA A E) {y : MethodName} {bytes : ByteArray} {maxL index n : Nat} {rm : Room} {as : List Value} {v : Option Value} {w' : MW} {Sc : List Value} {b ci mc ms : Nat} {fs : List Value} (hd : decode cc pc = .ok (.invokespecial index, 3)) (hM : CA l D dA y bytes maxL none rm mc ms (.ref b :: as) w v w') {host : String} (hlk : Cond.methodLinkNest own index y host ∈ NT) (Y : YI y bytes maxL rm mc ms n) (hR : rm.frames + 1 ≤ R.frames ∧ 8 + (maxL + 11) + rm.locals ≤ R.locals) (hcs : cells + mc ≤ R.cells ∧ slots + ms ≤ R.slots) (hb : w[b]? = some (.inr (ci, fs))) (hn : as.length = n) (hst : Sc = as.reverse ++ .ref b :: S) (hW : ∀ ad, ((S.map (rv ad)).map fun v => v.category).sum ≤ 8) {n0 : Nat} (hEE : ∀ (w1 : MW) (ad ad' : Nat → Nat), n0 ≤ w1.length → E ad → EA w1.length ad ad' → E ad') (hn0 : n0 ≤ w.length) (vs : List Value) (hvs : L.map (fun q => q.2) ++ S = vs) (hv0 : vs.all (rOK w.length) = true) (k : JW p l e R s m args below meth c nL D dA A E Q (cells + mc) (slots + ms) (pc + 3) L (v.toList ++ S) w') : JW p l e R s m args below meth c nL D dA A E Q cells slots pc L Sc w := by
  obtain ⟨y1, y2, y3, y4, y6, y7⟩ := Y
  exact J_callINA C hd hM hlk y1 y2 y3 y4 y6 hR hcs y7 hb hn hst hW hEE hn0 vs hvs hv0 k
theorem J_iret (C : jcx p s m args meth c cc nL own ret D dA A E) {x y : Int32} {ty : FieldType} {w' : MW} (hr : ret = some ty) (hn : narrow ty (.int x) = .int x) (hd : decode cc pc = .ok (.ireturn, 1)) (hf : some (x, w) = some (y, w')) : JW p l e R s m args below meth c nL D dA A E (MQ below (Qr D dA E (some (.int y)) w' A) args s cells slots A) cells slots pc L [.int x] w := by
  cases hf
  intro ad H locs ls hE hP hD hS hl
  exact W.zret C.1 C.2.1 (C.2.2.2.2.2.2.1.trans hr) hn (fun t ht hW => ⟨ad, hE, rfl, by rw [ht]; exact hP, hD, hS.F ht⟩) hS.2.2 hd C.2.2.2.2.2.2.2.1
theorem J_iretP (C : jcx p s m args meth c cc nL own ret D dA A E) {x y : Int32} {ty : FieldType} (hr : ret = some ty) (hn : narrow ty (.int x) = .int x) (hd : decode cc pc = .ok (.ireturn, 1)) (hf : some x = some y) : JW p l e R s m args below meth c nL D dA A E (MQ below (Qr D dA E (some (.int y)) w A) args s cells slots A) cells slots pc L [.int x] w := J_iret C hr hn hd (by rw [Option.some.inj hf])
theorem J_iretT (C : jcx p s m args meth c cc nL own ret D dA A E) {x y : Int32} {ty : FieldType} (hr : ret = some ty) (hn : narrow ty (.int x) = .int x) (hd : decode cc pc = .ok (.ireturn, 1)) (hf : x = y) : JW p l e R s m args below meth c nL D dA A E (MQ below (Qr D dA E (some (.int y)) w A) args s cells slots A) cells slots pc L [.int x] w := J_iret C hr hn hd (by rw [hf])
theorem J_vret (C : jcx p s m args meth c cc nL own ret D dA A E) {w' : MW} (hr : ret = none) (hd : decode cc pc = .ok (.return_, 1)) (hf : some w = some w') : JW p l e R s m args below meth c nL D dA A E (MQ below (Qr D dA E none w' A) args s cells slots A) cells slots pc L [] w := by
  cases hf
  intro ad H locs ls hE hP hD hS hl
  exact W.vret C.1 C.2.1 (C.2.2.2.2.2.2.1.trans hr) (fun t ht hW => ⟨ad, hE, rfl, by rw [ht]; exact hP, hD, hS.F ht⟩) hS.2.2 hd C.2.2.2.2.2.2.2.1
theorem J_aret (C : jcx p s m args meth c cc nL own ret D dA A E) {x y : Nat} {ty : FieldType} {w' : MW} (hr : ret = some ty) (ho : (∃ n, ty = .object n) ∨ ∃ t, ty = .array t) (hd : decode cc pc = .ok (.areturn, 1)) (hf : some (x, w) = some (y, w')) : JW p l e R s m args below meth c nL D dA A E (MQ below (Qr D dA E (some (.ref y)) w' A) args s cells slots A) cells slots pc L [.ref x] w := by
  cases hf
  intro ad H locs ls hE hP hD hS hl
  exact W.aret C.1 C.2.1 (C.2.2.2.2.2.2.1.trans hr) ho (Or.inr ⟨_, rfl⟩) (fun t ht hW => ⟨ad, hE, rfl, by rw [ht]; exact hP, hD, hS.F ht⟩) hS.2.2 hd C.2.2.2.2.2.2.2.1
theorem J_aretP (C : jcx p s m args meth c cc nL own ret D dA A E) {x y : Nat} {ty : FieldType} (hr : ret = some ty) (ho : (∃ n, ty = .object n) ∨ ∃ t, ty = .array t) (hd : decode cc pc = .ok (.areturn, 1)) (hf : some x = some y) : JW p l e R s m args below meth c nL D dA A E (MQ below (Qr D dA E (some (.ref y)) w A) args s cells slots A) cells slots pc L [.ref x] w := J_aret C hr ho hd (by rw [Option.some.inj hf])
theorem J_aretO (C : jcx p s m args meth c cc nL own ret D dA A E) {x : Nat} {y : Option Nat} {ty : FieldType} (hr : ret = some ty) (ho : (∃ n, ty = .object n) ∨ ∃ t, ty = .array t) (hd : decode cc pc = .ok (.areturn, 1)) (hf : some (some x) = some y) : JW p l e R s m args below meth c nL D dA A E (MQ below (Qr D dA E (some (va_rf y)) w A) args s cells slots A) cells slots pc L [.ref x] w := by
  cases hf
  exact J_aret C hr ho hd rfl
theorem J_aretON (C : jcx p s m args meth c cc nL own ret D dA A E) {y : Option Nat} {ty : FieldType} (hr : ret = some ty) (ho : (∃ n, ty = .object n) ∨ ∃ t, ty = .array t) (hd : decode cc pc = .ok (.areturn, 1)) (hf : some (none : Option Nat) = some y) : JW p l e R s m args below meth c nL D dA A E (MQ below (Qr D dA E (some (va_rf y)) w A) args s cells slots A) cells slots pc L [.null] w := by
  cases hf
  intro ad H locs ls hE hP hD hS hl
  exact W.aret C.1 C.2.1 (C.2.2.2.2.2.2.1.trans hr) ho (Or.inl rfl) (fun t ht hW => ⟨ad, hE, rfl, by rw [ht]; exact hP, hD, hS.F ht⟩) hS.2.2 hd C.2.2.2.2.2.2.2.1
theorem J_widen {k n : Nat} (h1 : cells ≤ k) (h2 : slots ≤ n) (kk : JW p l e R s m args below meth c nL D dA A E Q k n pc L S w) : JW p l e R s m args below meth c nL D dA A E Q cells slots pc L S w := fun ad H locs ls hE hP hD hS hl => W.widen h1 h2 (kk ad H locs ls hE hP hD hS hl)
theorem J_new (C : jcx p s m args meth c cc nL own ret D dA A E) {Cn : String} {T : u_T} {N ci index : Nat} {fs : List Value} {K : MW → Option ρ} (hd : decode cc pc = .ok (.new index, 3)) (hc : vwCl[ci]? = some (Cn, T, N)) (hin : ∀ x ∈ u_ws Cn T N, x ∈ GT) (ty0 : Nat → FieldType) (hty : ∀ k, k < N → parseFieldDescriptor (T k).2.2.1 = some (ty0 k)) (hcl : Cond.classLink own index Cn ∈ GT) (hins : Cond.instantiable Cn N ∈ GT) (hini : Cond.initialized Cn ∈ GT) (hfs : ∀ j, j < N → defaultValue (ty0 j) = vp_V fs j) (hrf : ∀ ad, fs.map (rv ad) = fs) (hcs : cells + 1 ≤ R.cells ∧ slots + N ≤ R.slots) {n0 : Nat} (hEE : ∀ (w1 : MW) (ad ad' : Nat → Nat), n0 ≤ w1.length → E ad → EA w1.length ad ad' → E ad') (vs : List Value) (hvs : L.map (fun q => q.2) ++ S = vs) (hf : (nwC n0 w vs (.inr (ci, fs))).bind K = some r) (k : ∀ w1, K w1 = some r → JW p l e R s m args below meth c nL D dA A E Q (cells + 1) (slots + N) (pc + 3) L (.ref w.length :: S) w1) : JW p l e R s m args below meth c nL D dA A E Q cells slots pc L S w := by
  obtain ⟨w1, h1, h2⟩ := bind_ok hf
  obtain ⟨g1, g2, g3, rfl⟩ := nwC_spec h1
  intro ad H locs ls hE hP hD hS hl
  refine va_new (ci := ci) (fs := fs) (C := Cn) (T := T) (N := N) C.1 C.2.1 C.2.2.2.2.1 hin ty0 hty C.2.2.2.1 (C.2.2.2.2.1 _ hcl) (C.2.2.2.2.1 _ hins) (C.2.2.2.2.1 _ hini) C.2.2.2.2.2.1 hP hD hS C.2.2.2.2.2.2.2.2.1 hc hfs hcs.1 hcs.2 hd (fun q H1 hP1 hD1 hS1 => ?_)
  have hvs1 := hvs
  rw [← hvs1, List.all_append, Bool.and_eq_true] at g2
  have had : EA w.length ad (fun k => if k = w.length then q else ad k) := fun k hk => by
    have := g1.1
    rcases hk with hk | hk
    · exact if_neg (by omega)
    · exact if_neg (by omega)
  generalize hg : (fun k => if k = w.length then q else ad k) = ad' at had
  have hq : ad' w.length = q := by rw [← hg]; exact if_pos rfl
  have ew : wi dA ad w ++ [(q, .inr (ci, fs))] = wi dA ad' (w ++ [.inr (ci, fs)]) := by
    rw [← wi_push, hq, wi_ext g1 had]; show _ = _ ++ [(q, Sum.inr (ci, fs.map (rv ad')))]; rw [hrf]
  have eL : L.map (fun q => (q.1, rv ad' q.2)) = L.map (fun q => (q.1, rv ad q.2)) := by
    apply List.map_congr_left
    intro z hz
    rw [rv_ext (List.all_eq_true.mp g2.1 _ (List.mem_map_of_mem hz)) had]
  have eS : (.ref w.length :: S).map (rv ad') = .ref q :: S.map (rv ad) := by
    show Value.ref (ad' w.length) :: S.map (rv ad') = _
    rw [hq, rvs_ext g2.2 had]
  have := k _ h2 ad' H1 locs ls (hEE w ad ad' g3 hE had) (by rw [← ew]; exact hP1) (by rw [← ew]; exact hD1) hS1 (by rw [eL]; exact hl)
  rw [eS] at this
  exact this
theorem J_newa (C : jcx p s m args meth c cc nL own ret D dA A E) {aty : ArrayType} {ty : FieldType} {x : Int32} {N : Nat} {K : MW → Option ρ} (t0 : Nat) (ht0 : ∀ dA, (tyL dA)[t0]? = some (dA ty, ty)) (hd : decode cc pc = .ok (.newarray aty, 2)) (hty : newarray.typeOf aty = ty) (hw : Cond.arrayClass (newarray.typeOf aty) ∈ GT) (hz : ∀ cA : ClassId, vp_cell cA (N, .inl (fun _ => 0)) = arrV cA N (fun _ => defaultValue ty)) (hra : ∀ cA : ClassId, ∀ U : State, va_RA U cA ty → U.vm.findClass ("[" ++ ty.toString) = some cA) (hn : ¬ x < 0) (hN : x.toNatClampNeg = N) (hby : N * componentBytes ty ≤ 536870912) (hcs : cells + 1 ≤ R.cells ∧ slots + N ≤ R.slots) {n0 : Nat} (hEE : ∀ (w1 : MW) (ad ad' : Nat → Nat), n0 ≤ w1.length → E ad → EA w1.length ad ad' → E ad') (vs : List Value) (hvs : L.map (fun q => q.2) ++ S = vs) (hf : (nwC n0 w vs (.inl (ty, N, .inl (fun _ => 0)))).bind K = some r) (k : ∀ w1, K w1 = some r → JW p l e R s m args below meth c nL D dA A E Q (cells + 1) (slots + N) (pc + 2) L (.ref w.length :: S) w1) : JW p l e R s m args below meth c nL D dA A E Q cells slots pc L (.int x :: S) w := by
  obtain ⟨w1, h1, h2⟩ := bind_ok hf
  obtain ⟨g1, g2, g3, rfl⟩ := nwC_spec h1
  intro ad H locs ls hE hP hD hS hl
  refine va_newa (atype := aty) (a0 := (N, .inl (fun _ => 0))) C.1 C.2.1 (C.2.2.2.2.1 _ hw) hty C.2.2.2.2.2.1 hP hD hS C.2.2.2.2.2.2.2.2.1 hz hn hN hby hcs.1 hcs.2 hd (fun q cA H1 hK1 hP1 hD1 hS1 => ?_)
  have eA : cA = dA ty := by
    have h5 := hra cA s (hK1.2 (tyL dA).length (cA, ty) (by simp)).2
    have h6 := hra (dA ty) s (C.2.2.2.2.2.1.2 t0 _ (ht0 dA)).2
    exact Option.some.inj (h5.symm.trans h6)
  subst eA
  have hvs1 := hvs
  rw [← hvs1, List.all_append, Bool.and_eq_true] at g2
  have had : EA w.length ad (fun k => if k = w.length then q else ad k) := fun k hk => by
    have := g1.1
    rcases hk with hk | hk
    · exact if_neg (by omega)
    · exact if_neg (by omega)
  generalize hg : (fun k => if k = w.length then q else ad k) = ad' at had
  have hq : ad' w.length = q := by rw [← hg]; exact if_pos rfl
  have ew : wi dA ad w ++ [(q, .inl (dA ty, N, .inl (fun _ => 0)))] = wi dA ad' (w ++ [.inl (ty, N, .inl (fun _ => 0))]) := by
    rw [← wi_push, hq, wi_ext g1 had]; rfl
  have eL : L.map (fun q => (q.1, rv ad' q.2)) = L.map (fun q => (q.1, rv ad q.2)) := by
    apply List.map_congr_left
    intro z hz
    rw [rv_ext (List.all_eq_true.mp g2.1 _ (List.mem_map_of_mem hz)) had]
  have eS : (.ref w.length :: S).map (rv ad') = .ref q :: S.map (rv ad) := by
    show Value.ref (ad' w.length) :: S.map (rv ad') = _
    rw [hq, rvs_ext g2.2 had]
  have := k _ h2 ad' H1 locs ls (hEE w ad ad' g3 hE had) (by rw [← ew]; exact hP1) (by rw [← ew]; exact hD1) hS1 (by rw [eL]; exact hl)
  rw [eS] at this
  exact this
theorem J_newq (C : jcx p s m args meth c cc nL own ret D dA A E) {Cn : String} {index : Nat} {x : Int32} {N : Nat} {K : MW → Option ρ} (t0 : Nat) (ht0 : ∀ dA, (tyL dA)[t0]? = some (dA (.object Cn), .object Cn)) (hmem : Cn ∈ [RX0, RX6, RX1]) (hd : decode cc pc = .ok (.anewarray index, 3)) (hcl : Cond.classLink own index Cn ∈ GT) (hn : ¬ x < 0) (hN : x.toNatClampNeg = N) (hby : N * 4 ≤ 536870912) (hcs : cells + 1 ≤ R.cells ∧ slots + N ≤ R.slots) {n0 : Nat} (hEE : ∀ (w1 : MW) (ad ad' : Nat → Nat), n0 ≤ w1.length → E ad → EA w1.length ad ad' → E ad') (vs : List Value) (hvs : L.map (fun q => q.2) ++ S = vs) (hf : (nwC n0 w vs (.inl (.object Cn, N, .inr (.inr (.inr (.inr (fun _ => none))))))).bind K = some r) (k : ∀ w1, K w1 = some r → JW p l e R s m args below meth c nL D dA A E Q (cells + 1) (slots + N) (pc + 3) L (.ref w.length :: S) w1) : JW p l e R s m args below meth c nL D dA A E Q cells slots pc L (.int x :: S) w := by
  obtain ⟨w1, h1, h2⟩ := bind_ok hf
  obtain ⟨g1, g2, g3, rfl⟩ := nwC_spec h1
  intro ad H locs ls hE hP hD hS hl
  refine va_newq (C := Cn) C.1 C.2.1 C.2.2.2.1 (C.2.2.2.2.1 _ hcl) ((C.2.2.2.2.2.2.2.2.2 ad hE).2.2.2.2.1 Cn hmem) C.2.2.2.2.2.1 hP hD hS C.2.2.2.2.2.2.2.2.1 hn hN hby hcs.1 hcs.2 hd (fun q cA H1 hK1 hP1 hD1 hS1 => ?_)
  have eA : cA = dA (.object Cn) := by
    obtain ⟨_, _, -, -, -, h5⟩ := (hK1.2 (tyL dA).length (cA, .object Cn) (by simp)).2
    obtain ⟨_, _, -, -, -, h6⟩ := (C.2.2.2.2.2.1.2 t0 _ (ht0 dA)).2
    exact Option.some.inj (h5.symm.trans h6)
  subst eA
  have hvs1 := hvs
  rw [← hvs1, List.all_append, Bool.and_eq_true] at g2
  have had : EA w.length ad (fun k => if k = w.length then q else ad k) := fun k hk => by
    have := g1.1
    rcases hk with hk | hk
    · exact if_neg (by omega)
    · exact if_neg (by omega)
  generalize hg : (fun k => if k = w.length then q else ad k) = ad' at had
  have hq : ad' w.length = q := by rw [← hg]; exact if_pos rfl
  have ew : wi dA ad w ++ [(q, .inl (dA (.object Cn), N, .inr (.inr (.inr (.inr (fun _ => none))))))] = wi dA ad' (w ++ [.inl (.object Cn, N, .inr (.inr (.inr (.inr (fun _ => none)))))]) := by
    rw [← wi_push, hq, wi_ext g1 had]; rfl
  have eL : L.map (fun q => (q.1, rv ad' q.2)) = L.map (fun q => (q.1, rv ad q.2)) := by
    apply List.map_congr_left
    intro z hz
    rw [rv_ext (List.all_eq_true.mp g2.1 _ (List.mem_map_of_mem hz)) had]
  have eS : (.ref w.length :: S).map (rv ad') = .ref q :: S.map (rv ad) := by
    show Value.ref (ad' w.length) :: S.map (rv ad') = _
    rw [hq, rvs_ext g2.2 had]
  have := k _ h2 ad' H1 locs ls (hEE w ad ad' g3 hE had) (by rw [← ew]; exact hP1) (by rw [← ew]; exact hD1) hS1 (by rw [eL]; exact hl)
  rw [eS] at this
  exact this
end JK
/-- a method's contract out of its body -/
theorem J_met {l : Launch} {D : va_G} {dA : FieldType → ClassId} {y : MethodName} {cc : ByteArray} {maxL : Nat} {ret : Option FieldType} {rm : Room} {as : List Value} {w w' : MW} {v : Option Value} {own : String} (hy : plainName y.cls = true) (ho : y.cls = own) (hlen : (lg_sl as).length ≤ maxL)
    (body : ∀ (p : Program) (e : Env) (s : State) (m : MethodId) (args : Array Value) (below : List Frame) (meth : Method) (c : Code) (A : Nat → Prop) (E : (Nat → Nat) → Prop), jcx p s m args meth c cc maxL own ret D dA A E → JW p l e rm s m args below meth c maxL D dA A E (MQ below (Qr D dA E v w' A) args s 0 0 A) 0 0 0 (lv_args 0 as) [] w) : CT l D dA y cc maxL ret rm as w v w' := by
  intro ad sz
  refine Met.ofW (cc := cc) (maxL := maxL) (ret := ret) hy rfl ?_
  intro p e s m args below meth c s₁ B hml hv
  obtain ⟨rfl, hsz, hP, hK, hD0, hSW⟩ := hv
  subst hsz
  have hD := hD0.self (sz := s.heap.size)
  have hown : s.vm.findClass own = some m.cls := ho ▸ findClass_of_methodNamed B.named
  have hts := atoms_spec (ws := .code y cc maxL ret :: GT) B.pre
  have hl := lv_entry (as.map (rv ad)) (n := maxL) (by rw [rv_slots]; exact hlen)
  rw [lg_entry_eq]
  rw [rv_args] at hl
  exact body p e s m _ below meth c (va_A (wi dA ad w) s.heap.size) (EN ad) ⟨B.exec, B.bytes, hml, hown, fun x hx => hts x (List.mem_cons_of_mem _ hx), hK, B.returns, B.notSynchronized, fun q h => Or.inr h, fun ad' h => by rw [show ad' = ad from h]; exact hSW⟩ ad s.heap [] _ rfl hP hD va_S.rf hl
theorem J_metA {l : Launch} {D : va_G} {dA : FieldType → ClassId} {y : MethodName} {cc : ByteArray} {maxL : Nat} {ret : Option FieldType} {rm : Room} {mc ms : Nat} {as : List Value} {w w' : MW} {v : Option Value} {own : String} (hy : plainName y.cls = true) (ho : y.cls = own) (hlen : (lg_sl as).length ≤ maxL)
    (body : ∀ (p : Program) (e : Env) (s : State) (m : MethodId) (args : Array Value) (below : List Frame) (meth : Method) (c : Code) (A : Nat → Prop) (E : (Nat → Nat) → Prop), jcx p s m args meth c cc maxL own ret D dA A E → meth.name = y.name → (∀ (w1 : MW) (ad ad' : Nat → Nat), w.length ≤ w1.length → E ad → EA w1.length ad ad' → E ad') → JW p l e rm s m args below meth c maxL D dA A E (MQ below (Qr D dA E v w' A) args s mc ms A) 0 0 0 (lv_args 0 as) [] w) : CA l D dA y cc maxL ret rm mc ms as w v w' := by
  intro ad sz
  refine Met.ofW (cc := cc) (maxL := maxL) (ret := ret) hy rfl ?_
  intro p e s m args below meth c s₁ B hml hv
  obtain ⟨rfl, hsz, hP, hK, hD0, hSW⟩ := hv
  subst hsz
  have hD := hD0.self (sz := s.heap.size)
  have hown : s.vm.findClass own = some m.cls := ho ▸ findClass_of_methodNamed B.named
  have hts := atoms_spec (ws := .code y cc maxL ret :: GT) B.pre
  have hl := lv_entry (as.map (rv ad)) (n := maxL) (by rw [rv_slots]; exact hlen)
  rw [lg_entry_eq]
  rw [rv_args] at hl
  exact body p e s m _ below meth c (va_A (wi dA ad w) s.heap.size) (EA w.length ad) ⟨B.exec, B.bytes, hml, hown, fun x hx => hts x (List.mem_cons_of_mem _ hx), hK, B.returns, B.notSynchronized, fun q h => Or.inr h, fun ad' h => hSW.ad (fun k hk => h k (Or.inr hk))⟩ (name_of_methodNamed B.named B.method).1 (fun w1 a1 a2 h1 h2 h3 k hk => (h3 k (hk.elim (fun h => Or.inl (Nat.lt_of_lt_of_le h h1)) Or.inr)).trans (h2 k hk)) ad s.heap [] _ (fun _ _ => rfl) hP hD va_S.rf hl
end
section
def zr (ty : FieldType) (x : Int32) : Option Int32 := if narrow ty (.int x) = .int x then some x else none
theorem zr_spec {ty : FieldType} {x z : Int32} (h : zr ty x = some z) : narrow ty (.int x) = .int x ∧ z = x := by
  unfold zr at h
  split at h
  · rename_i hc; cases h; exact ⟨hc, rfl⟩
  · cases h
def stL (b : Nat) : Option Int32 := if 10000 ≤ b ∧ b < 10013 then some (nI (sLn.getD (b - 10000) 0)) else none
def stC (b : Nat) (i : Int32) : Option Int32 := if 10000 ≤ b ∧ b < 10013 ∧ 0 ≤ i ∧ i.toNatClampNeg < sLn.getD (b - 10000) 0 then some ((sBy.getD (b - 10000) []).getD i.toNatClampNeg 0) else none
end
section
noncomputable def f_X0_init (w0 : MW) (v0 : Nat) : Option MW :=
  (nwC w0.length w0 [.ref v0, .ref v0] (.inl (.int, 60, .inl (fun _ => 0)))).bind fun w1 =>
  (pV w1 0 v0 0 (.ref w0.length)).bind fun w2 =>
  (pV w2 0 v0 1 (.int (0 : Int32))).bind fun w3 =>
  (pV w3 0 v0 2 (.int (-1 : Int32))).bind fun w4 =>
  some w4
def f_X0_empty (w : MW) (v0 : Nat) : Option MW :=
  (pV w 0 v0 1 (.int (0 : Int32))).bind fun w1 =>
  (pV w1 0 v0 2 (.int (-1 : Int32))).bind fun w2 =>
  some w2
def f_X0_keyAt (w : MW) (v0 : Nat) (v1 : Int32) : Option Int32 :=
  if v1 < 0 then
    some (-1 : Int32)
  else
    (gI w 0 v0 1).bind fun x1 =>
    if x1 ≤ v1 then
      some (-1 : Int32)
    else
      (gR w 0 v0 0).bind fun x2 =>
      (aI w .int x2 v1).bind fun x3 =>
      some (x3 >>> ((1 : Int32) &&& 31))
def f_X0_markAt (w : MW) (v0 : Nat) (v1 : Int32) : Option Int32 :=
  if v1 < 0 then
    some (0 : Int32)
  else
    (gI w 0 v0 1).bind fun x1 =>
    if x1 ≤ v1 then
      some (0 : Int32)
    else
      (gR w 0 v0 0).bind fun x2 =>
      (aI w .int x2 v1).bind fun x3 =>
      some (x3 &&& (1 : Int32))
def f_X0_below_2 (fu : Nat) (w : MW) : Nat → Nat → Int32 → Int32 → Option Int32
  | 0, _, _, _ => none
  | n + 1, v0, v1, v2 =>
    (gI w 0 v0 1).bind fun x2 =>
    if x2 ≤ v2 then
      some v2
    else
      (gR w 0 v0 0).bind fun x3 =>
      (aI w .int x3 v2).bind fun x4 =>
      if v1 ≤ (x4 >>> ((1 : Int32) &&& 31)) then
        some v2
      else
        bnd (v2 + 1) fun x5 =>
        (f_X0_below_2 fu w n) v0 v1 x5
def f_X0_below (fu : Nat) (w : MW) (v0 : Nat) (v1 : Int32) : Option Int32 :=
  bnd (0 : Int32) fun x1 =>
  f_X0_below_2 fu w fu v0 v1 x1
def f_X0_notAbove_2 (fu : Nat) (w : MW) : Nat → Nat → Int32 → Int32 → Option Int32
  | 0, _, _, _ => none
  | n + 1, v0, v1, v2 =>
    (gI w 0 v0 1).bind fun x2 =>
    if x2 ≤ v2 then
      some v2
    else
      (gR w 0 v0 0).bind fun x3 =>
      (aI w .int x3 v2).bind fun x4 =>
      if v1 < (x4 >>> ((1 : Int32) &&& 31)) then
        some v2
      else
        bnd (v2 + 1) fun x5 =>
        (f_X0_notAbove_2 fu w n) v0 v1 x5
def f_X0_notAbove (fu : Nat) (w : MW) (v0 : Nat) (v1 : Int32) : Option Int32 :=
  bnd (0 : Int32) fun x1 =>
  f_X0_notAbove_2 fu w fu v0 v1 x1
def f_X0_rankOf (fu : Nat) (w : MW) (v0 : Nat) (v1 : Int32) : Option Int32 :=
  (cl w 0 v0 (f_X0_below fu w v0 v1)).bind fun q1 =>
  bnd q1 fun x4 =>
  (gI w 0 v0 1).bind fun x5 =>
  if x5 ≤ x4 then
    some (-1 : Int32)
  else
    (gR w 0 v0 0).bind fun x6 =>
    (aI w .int x6 x4).bind fun x7 =>
    if (x7 >>> ((1 : Int32) &&& 31)) = v1 then
      some x4
    else
      some (-1 : Int32)
def f_X0_howManyBetween (fu : Nat) (w : MW) (v0 : Nat) (v1 : Int32) (v2 : Int32) : Option Int32 :=
  (cl w 0 v0 (f_X0_notAbove fu w v0 v2)).bind fun q1 =>
  (cl w 0 v0 (f_X0_below fu w v0 v1)).bind fun q4 =>
  some (imax (0 : Int32) (q1 - q4))
def f_X0_markedBetween_16 (fu : Nat) (w : MW) : Nat → Nat → Int32 → Int32 → Int32 → Option Int32
  | 0, _, _, _, _ => none
  | n + 1, v0, v3, v4, v5 =>
    if v3 ≤ v5 then
      some v4
    else
      (cl w 0 v0 (f_X0_markAt w v0 v5)).bind fun q10 =>
      bnd (v4 + q10) fun x13 =>
      bnd (v5 + 1) fun x14 =>
      (f_X0_markedBetween_16 fu w n) v0 v3 x13 x14
def f_X0_markedBetween (fu : Nat) (w : MW) (v0 : Nat) (v1 : Int32) (v2 : Int32) : Option Int32 :=
  (cl w 0 v0 (f_X0_notAbove fu w v0 v2)).bind fun q1 =>
  bnd q1 fun x4 =>
  bnd (0 : Int32) fun x5 =>
  (cl w 0 v0 (f_X0_below fu w v0 v1)).bind fun q6 =>
  bnd q6 fun x9 =>
  f_X0_markedBetween_16 fu w fu v0 x4 x5 x9
def f_X0_leastDifference_40 (fu : Nat) (w : MW) (lr4 : Nat → Int32 → Int32 → Option Int32) (v0 : Nat) (v2 : Int32) (s0 : Int32) : Option Int32 :=
  bnd s0 fun x11 =>
  bnd (v2 + 1) fun x12 =>
  lr4 v0 x11 x12
def f_X0_leastDifference_4 (fu : Nat) (w : MW) : Nat → Nat → Int32 → Int32 → Option Int32
  | 0, _, _, _ => none
  | n + 1, v0, v1, v2 =>
    (gI w 0 v0 1).bind fun x3 =>
    if x3 ≤ v2 then
      some v1
    else
      (cl w 0 v0 (f_X0_keyAt w v0 v2)).bind fun q4 =>
      (cl w 0 v0 (f_X0_keyAt w v0 (v2 - (1 : Int32)))).bind fun q7 =>
      bnd (q4 - q7) fun x10 =>
      if v1 = (-1 : Int32) then
        f_X0_leastDifference_40 fu w (f_X0_leastDifference_4 fu w n) v0 v2 x10
      else
        f_X0_leastDifference_40 fu w (f_X0_leastDifference_4 fu w n) v0 v2 (imin v1 x10)
def f_X0_leastDifference (fu : Nat) (w : MW) (v0 : Nat) : Option Int32 :=
  bnd (-1 : Int32) fun x1 =>
  bnd (1 : Int32) fun x2 =>
  f_X0_leastDifference_4 fu w fu v0 x1 x2
def f_X0_stretches_36 (fu : Nat) (w : MW) (lr4 : Nat → Int32 → Int32 → Option Int32) (v0 : Nat) (v1 : Int32) (v2 : Int32) : Option Int32 :=
  bnd (v2 + 1) fun x5 =>
  lr4 v0 v1 x5
def f_X0_stretches_33 (fu : Nat) (w : MW) (lr4 : Nat → Int32 → Int32 → Option Int32) (v0 : Nat) (v1 : Int32) (v2 : Int32) : Option Int32 :=
  bnd (v1 + 1) fun x4 =>
  f_X0_stretches_36 fu w lr4 v0 x4 v2
def f_X0_stretches_4 (fu : Nat) (w : MW) : Nat → Nat → Int32 → Int32 → Option Int32
  | 0, _, _, _ => none
  | n + 1, v0, v1, v2 =>
    (gI w 0 v0 1).bind fun x3 =>
    if x3 ≤ v2 then
      some v1
    else
      if v2 = 0 then
        f_X0_stretches_33 fu w (f_X0_stretches_4 fu w n) v0 v1 v2
      else
        (cl w 0 v0 (f_X0_keyAt w v0 v2)).bind fun q6 =>
        (cl w 0 v0 (f_X0_keyAt w v0 (v2 - (1 : Int32)))).bind fun q9 =>
        if (q6 - q9) ≤ (1 : Int32) then
          f_X0_stretches_36 fu w (f_X0_stretches_4 fu w n) v0 v1 v2
        else
          f_X0_stretches_33 fu w (f_X0_stretches_4 fu w n) v0 v1 v2
def f_X0_stretches (fu : Nat) (w : MW) (v0 : Nat) : Option Int32 :=
  bnd (0 : Int32) fun x1 =>
  bnd (0 : Int32) fun x2 =>
  f_X0_stretches_4 fu w fu v0 x1 x2
def f_X0_sum_4 (fu : Nat) (w : MW) : Nat → Nat → Int32 → Int32 → Option Int32
  | 0, _, _, _ => none
  | n + 1, v0, v1, v2 =>
    (gI w 0 v0 1).bind fun x3 =>
    if x3 ≤ v2 then
      some v1
    else
      (cl w 0 v0 (f_X0_keyAt w v0 v2)).bind fun q4 =>
      bnd (v1 + q4) fun x7 =>
      bnd (v2 + 1) fun x8 =>
      (f_X0_sum_4 fu w n) v0 x7 x8
def f_X0_sum (fu : Nat) (w : MW) (v0 : Nat) : Option Int32 :=
  bnd (0 : Int32) fun x1 =>
  bnd (0 : Int32) fun x2 =>
  f_X0_sum_4 fu w fu v0 x1 x2
def f_X0_lastToldWith_41 (fu : Nat) (w : MW) (v1 : Int32) (v2 : Int32) : Option Int32 :=
  if (2 : Int32) ≤ (v2 - v1) then
    some v2
  else
    some v1
def f_X0_lastToldWith_6 (fu : Nat) (w : MW) : Nat → Nat → Int32 → Int32 → Option Int32
  | 0, _, _, _ => none
  | n + 1, v0, v1, v2 =>
    (gI w 0 v0 1).bind fun x2 =>
    if x2 ≤ (v2 + (1 : Int32)) then
      f_X0_lastToldWith_41 fu w v1 v2
    else
      (gR w 0 v0 0).bind fun x3 =>
      (aI w .int x3 (v2 + (1 : Int32))).bind fun x4 =>
      (gR w 0 v0 0).bind fun x5 =>
      (aI w .int x5 v2).bind fun x6 =>
      if (x4 - x6) = (2 : Int32) then
        bnd (v2 + 1) fun x7 =>
        (f_X0_lastToldWith_6 fu w n) v0 v1 x7
      else
        f_X0_lastToldWith_41 fu w v1 v2
def f_X0_lastToldWith (fu : Nat) (w : MW) (v0 : Nat) (v1 : Int32) : Option Int32 :=
  bnd (imax v1 (0 : Int32)) fun x1 =>
  f_X0_lastToldWith_6 fu w fu v0 v1 x1
def f_X0_openGap (w : MW) (v0 : Nat) (v1 : Int32) (v2 : Int32) : Option (Int32 × MW) :=
  if v1 < 0 then
    some ((0 : Int32), w)
  else
    (gI w 0 v0 1).bind fun x1 =>
    if x1 < v1 then
      some ((0 : Int32), w)
    else
      if v2 < 0 then
        some ((0 : Int32), w)
      else
        (gI w 0 v0 1).bind fun x2 =>
        if v2 ≤ ((60 : Int32) - x2) then
          (gR w 0 v0 0).bind fun x3 =>
          (gR w 0 v0 0).bind fun x4 =>
          (gI w 0 v0 1).bind fun x5 =>
          (cpI w .int x3 v1 x4 (v1 + v2) (x5 - v1)).bind fun w6 =>
          (gI w6 0 v0 1).bind fun x7 =>
          (pV w6 0 v0 1 (.int (x7 + v2))).bind fun w8 =>
          (pV w8 0 v0 2 (.int (-1 : Int32))).bind fun w9 =>
          some ((1 : Int32), w9)
        else
          some ((0 : Int32), w)
def f_X0_closeGap (w : MW) (v0 : Nat) (v1 : Int32) (v2 : Int32) : Option MW :=
  if v1 < 0 then
    some w
  else
    if v2 < 0 then
      some w
    else
      (gI w 0 v0 1).bind fun x1 =>
      if (x1 - v1) < v2 then
        some w
      else
        (gR w 0 v0 0).bind fun x2 =>
        (gR w 0 v0 0).bind fun x3 =>
        (gI w 0 v0 1).bind fun x4 =>
        (cpI w .int x2 (v1 + v2) x3 v1 ((x4 - v1) - v2)).bind fun w5 =>
        (gI w5 0 v0 1).bind fun x6 =>
        (pV w5 0 v0 1 (.int (x6 - v2))).bind fun w7 =>
        (pV w7 0 v0 2 (.int (-1 : Int32))).bind fun w8 =>
        some w8
def f_X0_insert (fu : Nat) (w : MW) (v0 : Nat) (v1 : Int32) : Option (Int32 × MW) :=
  (cl w 0 v0 (f_X0_below fu w v0 v1)).bind fun q1 =>
  bnd q1 fun x4 =>
  (cl w 0 v0 (f_X0_openGap w v0 x4 (1 : Int32))).bind fun q5 =>
  if q5.1 = 0 then
    some (x4, q5.2)
  else
    (gR q5.2 0 v0 0).bind fun x8 =>
    (sI q5.2 .int x8 x4 (v1 * (2 : Int32))).bind fun w9 =>
    some (x4, w9)
def f_X0_giveStretch (fu : Nat) (w : MW) (v0 : Nat) (v1 : Int32) (v2 : Int32) (v3 : Nat) : Option MW :=
  if v1 < 0 then
    some w
  else
    if v2 < (1 : Int32) then
      some w
    else
      (gI w 0 v0 1).bind fun x1 =>
      if v2 ≤ (x1 - v1) then
        (gR w 0 v0 0).bind fun x2 =>
        (aI w .int x2 v1).bind fun x3 =>
        (cl w 0 v3 (f_X0_below fu w v3 (x3 >>> ((1 : Int32) &&& 31)))).bind fun q4 =>
        bnd q4 fun x7 =>
        (cl w 0 v3 (f_X0_openGap w v3 x7 v2)).bind fun q8 =>
        if q8.1 = 0 then
          some q8.2
        else
          (gR q8.2 0 v0 0).bind fun x11 =>
          (gR q8.2 0 v3 0).bind fun x12 =>
          (cpI q8.2 .int x11 v1 x12 x7 v2).bind fun w13 =>
          (cl w13 0 v0 (f_X0_closeGap w13 v0 v1 v2)).bind fun q14 =>
          some q14
      else
        some w
def f_J6_compare_7cf53 (v0 : Int32) (v1 : Int32) : Int32 :=
  if v1 ≤ v0 then
    if v0 = v1 then
      (0 : Int32)
    else
      (1 : Int32)
  else
    (-1 : Int32)
def f_X0_absorb_122 (fu : Nat) (w : MW) (v0 : Nat) (v1 : Nat) (v2 : Int32) : Option MW :=
  (pV w 0 v0 1 (.int (imin v2 (60 : Int32)))).bind fun w7 =>
  (cl w7 0 v1 (f_X0_empty w7 v1)).bind fun q8 =>
  some q8
def f_X0_absorb_94 (fu : Nat) (lr25 : MW → Nat → Nat → Int32 → Int32 → Int32 → Int32 → Option MW) (w : MW) (v0 : Nat) (v1 : Nat) (v2 : Int32) (v3 : Int32) (v4 : Int32) (v5 : Int32) (v7 : Int32) : Option MW :=
  (gR w 0 v0 0).bind fun x20 =>
  (sI w .int x20 v5 v7).bind fun w21 =>
  bnd (v5 + (-1)) fun x22 =>
  lr25 w21 v0 v1 v2 v3 v4 x22
def f_X0_absorb_69 (fu : Nat) (lr25 : MW → Nat → Nat → Int32 → Int32 → Int32 → Int32 → Option MW) (w : MW) (v0 : Nat) (v1 : Nat) (v2 : Int32) (v3 : Int32) (v4 : Int32) (v5 : Int32) (v6 : Int32) (v7 : Int32) : Option MW :=
  if 0 < v6 then
    f_X0_absorb_94 fu lr25 w v0 v1 v2 v3 v4 v5 v7
  else
    if v4 < 0 then
      f_X0_absorb_94 fu lr25 w v0 v1 v2 v3 v4 v5 v7
    else
      (gR w 0 v1 0).bind fun x23 =>
      (aI w .int x23 v4).bind fun x24 =>
      bnd (v7 ||| x24) fun x25 =>
      bnd (v4 + (-1)) fun x26 =>
      f_X0_absorb_94 fu lr25 w v0 v1 v2 v3 x26 v5 x25
def f_X0_absorb_25 (fu : Nat) : Nat → MW → Nat → Nat → Int32 → Int32 → Int32 → Int32 → Option MW
  | 0, _, _, _, _, _, _, _ => none
  | n + 1, w, v0, v1, v2, v3, v4, v5 =>
    if v5 < 0 then
      (gI w 0 v0 1).bind fun x6 =>
      if v2 = x6 then
        f_X0_absorb_122 fu w v0 v1 v2
      else
        (pV w 0 v0 2 (.int (-1 : Int32))).bind fun w11 =>
        f_X0_absorb_122 fu w11 v0 v1 v2
    else
      (cl w 0 v0 (f_X0_keyAt w v0 v3)).bind fun q12 =>
      (cl w 0 v1 (f_X0_keyAt w v1 v4)).bind fun q15 =>
      bnd (f_J6_compare_7cf53 q12 q15) fun x18 =>
      bnd (0 : Int32) fun x19 =>
      if x18 < 0 then
        f_X0_absorb_69 fu (f_X0_absorb_25 fu n) w v0 v1 v2 v3 v4 v5 x18 x19
      else
        if v3 < 0 then
          f_X0_absorb_69 fu (f_X0_absorb_25 fu n) w v0 v1 v2 v3 v4 v5 x18 x19
        else
          (gR w 0 v0 0).bind fun x27 =>
          (aI w .int x27 v3).bind fun x28 =>
          bnd x28 fun x29 =>
          bnd (v3 + (-1)) fun x30 =>
          f_X0_absorb_69 fu (f_X0_absorb_25 fu n) w v0 v1 v2 x30 v4 v5 x18 x29
def f_X0_absorb (fu : Nat) (w : MW) (v0 : Nat) (v1 : Nat) (v2 : Int32) : Option MW :=
  (gI w 0 v0 1).bind fun x1 =>
  bnd (x1 - (1 : Int32)) fun x2 =>
  (gI w 0 v1 1).bind fun x3 =>
  bnd (x3 - (1 : Int32)) fun x4 =>
  bnd ((imin v2 (60 : Int32)) - (1 : Int32)) fun x5 =>
  f_X0_absorb_25 fu fu w v0 v1 v2 x2 x4 x5
def f_X0_shiftAll_2 (fu : Nat) : Nat → MW → Nat → Int32 → Int32 → Option MW
  | 0, _, _, _, _ => none
  | n + 1, w, v0, v1, v2 =>
    (gI w 0 v0 1).bind fun x2 =>
    if x2 ≤ v2 then
      (gI w 0 v0 2).bind fun x3 =>
      if x3 = (-1 : Int32) then
        some w
      else
        (gI w 0 v0 2).bind fun x4 =>
        (pV w 0 v0 2 (.int (x4 + v1))).bind fun w5 =>
        some w5
    else
      (gR w 0 v0 0).bind fun x6 =>
      (aI w .int x6 v2).bind fun x7 =>
      (sI w .int x6 v2 (x7 + (v1 * (2 : Int32)))).bind fun w8 =>
      bnd (v2 + 1) fun x9 =>
      (f_X0_shiftAll_2 fu n) w8 v0 v1 x9
def f_X0_shiftAll (fu : Nat) (w : MW) (v0 : Nat) (v1 : Int32) : Option MW :=
  bnd (0 : Int32) fun x1 =>
  f_X0_shiftAll_2 fu fu w v0 v1 x1
def f_X0_markBetween_51 (fu : Nat) (lr17 : MW → Nat → Int32 → Int32 → Int32 → Int32 → Option (Int32 × MW)) (w : MW) (v0 : Nat) (v3 : Int32) (v4 : Int32) (v5 : Int32) (v6 : Int32) : Option (Int32 × MW) :=
  bnd (v6 + 1) fun x12 =>
  lr17 w v0 v3 v4 v5 x12
def f_X0_markBetween_17 (fu : Nat) : Nat → MW → Nat → Int32 → Int32 → Int32 → Int32 → Option (Int32 × MW)
  | 0, _, _, _, _, _, _ => none
  | n + 1, w, v0, v3, v4, v5, v6 =>
    if v4 ≤ v6 then
      some (v5, w)
    else
      (gR w 0 v0 0).bind fun x10 =>
      (aI w .int x10 v6).bind fun x11 =>
      if (x11 &&& (1 : Int32)) = v3 then
        f_X0_markBetween_51 fu (f_X0_markBetween_17 fu n) w v0 v3 v4 v5 v6
      else
        (gR w 0 v0 0).bind fun x13 =>
        (aI w .int x13 v6).bind fun x14 =>
        (sI w .int x13 v6 (x14 ^^^ (1 : Int32))).bind fun w15 =>
        bnd (v5 + 1) fun x16 =>
        f_X0_markBetween_51 fu (f_X0_markBetween_17 fu n) w15 v0 v3 v4 x16 v6
def f_X0_markBetween (fu : Nat) (w : MW) (v0 : Nat) (v1 : Int32) (v2 : Int32) (v3 : Int32) : Option (Int32 × MW) :=
  (cl w 0 v0 (f_X0_notAbove fu w v0 v2)).bind fun q1 =>
  bnd q1 fun x4 =>
  bnd (0 : Int32) fun x5 =>
  (cl w 0 v0 (f_X0_below fu w v0 v1)).bind fun q6 =>
  bnd q6 fun x9 =>
  f_X0_markBetween_17 fu fu w v0 v3 x4 x5 x9
noncomputable def f_X6_init (w0 : MW) (v0 : Nat) : Option MW :=
  (nwC w0.length w0 [.ref v0, .ref v0] (.inl (.int, 240, .inl (fun _ => 0)))).bind fun w1 =>
  (pV w1 6 v0 0 (.ref w0.length)).bind fun w2 =>
  (nwC w0.length w2 [.ref v0, .ref v0] (.inl (.int, 8, .inl (fun _ => 0)))).bind fun w3 =>
  (pV w3 6 v0 1 (.ref w2.length)).bind fun w4 =>
  (nwC w0.length w4 [.ref v0, .ref v0] (.inl (.int, 8, .inl (fun _ => 0)))).bind fun w5 =>
  (pV w5 6 v0 2 (.ref w4.length)).bind fun w6 =>
  some w6
def f_X4_init (w : MW) (v0 : Nat) (v1 : Nat) : Option MW :=
  (pV w 4 v0 0 (.ref v1)).bind fun w1 =>
  (pV w1 4 v0 1 (.int (0 : Int32))).bind fun w2 =>
  some w2
noncomputable def f_X1_init (w0 : MW) (v0 : Nat) : Option MW :=
  (nwC w0.length w0 [.ref v0, .ref v0] (.inr (6, [.null, .null, .null]))).bind fun w1 =>
  (clA w0.length w1 6 w0.length [.ref v0, .ref w0.length, .ref v0] (f_X6_init w1 w0.length)).bind fun q2 =>
  (pV q2 1 v0 0 (.ref w0.length)).bind fun w5 =>
  (nwC w0.length w5 [.ref v0, .ref v0] (.inr (4, [.null, .int 0]))).bind fun w6 =>
  (nwC w0.length w6 [.ref v0, .ref w5.length, .ref w5.length, .ref v0] (.inl (.byte, 800, .inl (fun _ => 0)))).bind fun w7 =>
  (cl w7 4 w5.length (f_X4_init w7 w5.length w6.length)).bind fun q8 =>
  (pV q8 1 v0 1 (.ref w5.length)).bind fun w11 =>
  (nwC w0.length w11 [.ref v0, .ref v0] (.inr (4, [.null, .int 0]))).bind fun w12 =>
  (nwC w0.length w12 [.ref v0, .ref w11.length, .ref w11.length, .ref v0] (.inl (.byte, 360, .inl (fun _ => 0)))).bind fun w13 =>
  (cl w13 4 w11.length (f_X4_init w13 w11.length w12.length)).bind fun q14 =>
  (pV q14 1 v0 2 (.ref w11.length)).bind fun w17 =>
  (pV w17 1 v0 3 (.int (0 : Int32))).bind fun w18 =>
  (pV w18 1 v0 4 (.int (0 : Int32))).bind fun w19 =>
  (pV w19 1 v0 5 (.int (-1 : Int32))).bind fun w20 =>
  some w20
noncomputable def f_X2_init (w0 : MW) (v0 : Nat) (v1 : Nat) : Option MW :=
  (nwC w0.length w0 [.ref v0, .ref v1, .ref v0] (.inl (.int, 8, .inl (fun _ => 0)))).bind fun w1 =>
  (pV w1 2 v0 1 (.ref w0.length)).bind fun w2 =>
  (pV w2 2 v0 0 (.ref v1)).bind fun w3 =>
  some w3
def f_X2_begin_2 (fu : Nat) : Nat → MW → Nat → Int32 → Option MW
  | 0, _, _, _ => none
  | n + 1, w, v0, v1 =>
    if (8 : Int32) ≤ v1 then
      some w
    else
      (gR w 2 v0 1).bind fun x2 =>
      (sI w .int x2 v1 (0 : Int32)).bind fun w3 =>
      bnd (v1 + 1) fun x4 =>
      (f_X2_begin_2 fu n) w3 v0 x4
def f_X2_begin (fu : Nat) (w : MW) (v0 : Nat) : Option MW :=
  bnd (0 : Int32) fun x1 =>
  f_X2_begin_2 fu fu w v0 x1
def f_X2_next_66 (fu : Nat) (w : MW) (v0 : Nat) (v1 : Int32) (v2 : Int32) : Option (Int32 × MW) :=
  if v2 = (-1 : Int32) then
    some (v1, w)
  else
    (gR w 2 v0 1).bind fun x4 =>
    (aI w .int x4 v2).bind fun x5 =>
    (sI w .int x4 v2 (x5 + (1 : Int32))).bind fun w6 =>
    some (v1, w6)
def f_X2_next_60 (fu : Nat) (lr6 : MW → Nat → Int32 → Int32 → Int32 → Option (Int32 × MW)) (w : MW) (v0 : Nat) (v1 : Int32) (v2 : Int32) (v3 : Int32) : Option (Int32 × MW) :=
  bnd (v3 + 1) fun x17 =>
  lr6 w v0 v1 v2 x17
def f_X2_next_55 (fu : Nat) (lr6 : MW → Nat → Int32 → Int32 → Int32 → Option (Int32 × MW)) (w : MW) (v0 : Nat) (v3 : Int32) (v4 : Int32) : Option (Int32 × MW) :=
  bnd v4 fun x18 =>
  bnd v3 fun x19 =>
  f_X2_next_60 fu lr6 w v0 x18 x19 v3
def f_X2_next_6 (fu : Nat) : Nat → MW → Nat → Int32 → Int32 → Int32 → Option (Int32 × MW)
  | 0, _, _, _, _, _ => none
  | n + 1, w, v0, v1, v2, v3 =>
    if (8 : Int32) ≤ v3 then
      f_X2_next_66 fu w v0 v1 v2
    else
      (gR w 2 v0 0).bind fun x7 =>
      (aL w (.object RX0) x7).bind fun x8 =>
      if x8 ≤ v3 then
        f_X2_next_66 fu w v0 v1 v2
      else
        (gR w 2 v0 0).bind fun x9 =>
        (aRn w (.object RX0) x9 v3).bind fun x10 =>
        (gR w 2 v0 1).bind fun x11 =>
        (aI w .int x11 v3).bind fun x12 =>
        (cl w 0 x10 (f_X0_keyAt w x10 x12)).bind fun q13 =>
        bnd q13 fun x16 =>
        if x16 = (-1 : Int32) then
          f_X2_next_60 fu (f_X2_next_6 fu n) w v0 v1 v2 v3
        else
          if v1 = (-1 : Int32) then
            f_X2_next_55 fu (f_X2_next_6 fu n) w v0 v3 x16
          else
            if v1 ≤ x16 then
              f_X2_next_60 fu (f_X2_next_6 fu n) w v0 v1 v2 v3
            else
              f_X2_next_55 fu (f_X2_next_6 fu n) w v0 v3 x16
def f_X2_next (fu : Nat) (w : MW) (v0 : Nat) : Option (Int32 × MW) :=
  bnd (-1 : Int32) fun x1 =>
  bnd (-1 : Int32) fun x2 =>
  bnd (0 : Int32) fun x3 =>
  f_X2_next_6 fu fu w v0 x1 x2 x3
noncomputable def f_X3_init (w0 : MW) (v0 : Nat) : Option MW :=
  (nwC w0.length w0 [.ref v0, .ref v0] (.inl (.object RX6, 13, .inr (.inr (.inr (.inr (fun _ => none))))))).bind fun w1 =>
  (pV w1 3 v0 0 (.ref w0.length)).bind fun w2 =>
  (pV w2 3 v0 1 (.int (0 : Int32))).bind fun w3 =>
  (pV w3 3 v0 2 (.int (0 : Int32))).bind fun w4 =>
  (gR w4 3 v0 0).bind fun x5 =>
  (nwC w0.length w4 [.int (0 : Int32), .ref v0, .int (0 : Int32), .ref x5] (.inr (6, [.null, .null, .null]))).bind fun w6 =>
  (clA w0.length w6 6 w4.length [.int (0 : Int32), .ref v0, .ref w4.length, .int (0 : Int32), .ref x5] (f_X6_init w6 w4.length)).bind fun q7 =>
  (sR q7 RX6 6 x5 (0 : Int32) w4.length).bind fun w10 =>
  (gR w10 3 v0 0).bind fun x11 =>
  (nwC w0.length w10 [.int (1 : Int32), .ref v0, .int (1 : Int32), .ref x11] (.inr (6, [.null, .null, .null]))).bind fun w12 =>
  (clA w0.length w12 6 w10.length [.int (1 : Int32), .ref v0, .ref w10.length, .int (1 : Int32), .ref x11] (f_X6_init w12 w10.length)).bind fun q13 =>
  (sR q13 RX6 6 x11 (1 : Int32) w10.length).bind fun w16 =>
  (gR w16 3 v0 0).bind fun x17 =>
  (nwC w0.length w16 [.int (2 : Int32), .ref v0, .int (2 : Int32), .ref x17] (.inr (6, [.null, .null, .null]))).bind fun w18 =>
  (clA w0.length w18 6 w16.length [.int (2 : Int32), .ref v0, .ref w16.length, .int (2 : Int32), .ref x17] (f_X6_init w18 w16.length)).bind fun q19 =>
  (sR q19 RX6 6 x17 (2 : Int32) w16.length).bind fun w22 =>
  (gR w22 3 v0 0).bind fun x23 =>
  (nwC w0.length w22 [.int (3 : Int32), .ref v0, .int (3 : Int32), .ref x23] (.inr (6, [.null, .null, .null]))).bind fun w24 =>
  (clA w0.length w24 6 w22.length [.int (3 : Int32), .ref v0, .ref w22.length, .int (3 : Int32), .ref x23] (f_X6_init w24 w22.length)).bind fun q25 =>
  (sR q25 RX6 6 x23 (3 : Int32) w22.length).bind fun w28 =>
  (gR w28 3 v0 0).bind fun x29 =>
  (nwC w0.length w28 [.int (4 : Int32), .ref v0, .int (4 : Int32), .ref x29] (.inr (6, [.null, .null, .null]))).bind fun w30 =>
  (clA w0.length w30 6 w28.length [.int (4 : Int32), .ref v0, .ref w28.length, .int (4 : Int32), .ref x29] (f_X6_init w30 w28.length)).bind fun q31 =>
  (sR q31 RX6 6 x29 (4 : Int32) w28.length).bind fun w34 =>
  (gR w34 3 v0 0).bind fun x35 =>
  (nwC w0.length w34 [.int (5 : Int32), .ref v0, .int (5 : Int32), .ref x35] (.inr (6, [.null, .null, .null]))).bind fun w36 =>
  (clA w0.length w36 6 w34.length [.int (5 : Int32), .ref v0, .ref w34.length, .int (5 : Int32), .ref x35] (f_X6_init w36 w34.length)).bind fun q37 =>
  (sR q37 RX6 6 x35 (5 : Int32) w34.length).bind fun w40 =>
  (gR w40 3 v0 0).bind fun x41 =>
  (nwC w0.length w40 [.int (6 : Int32), .ref v0, .int (6 : Int32), .ref x41] (.inr (6, [.null, .null, .null]))).bind fun w42 =>
  (clA w0.length w42 6 w40.length [.int (6 : Int32), .ref v0, .ref w40.length, .int (6 : Int32), .ref x41] (f_X6_init w42 w40.length)).bind fun q43 =>
  (sR q43 RX6 6 x41 (6 : Int32) w40.length).bind fun w46 =>
  (gR w46 3 v0 0).bind fun x47 =>
  (nwC w0.length w46 [.int (7 : Int32), .ref v0, .int (7 : Int32), .ref x47] (.inr (6, [.null, .null, .null]))).bind fun w48 =>
  (clA w0.length w48 6 w46.length [.int (7 : Int32), .ref v0, .ref w46.length, .int (7 : Int32), .ref x47] (f_X6_init w48 w46.length)).bind fun q49 =>
  (sR q49 RX6 6 x47 (7 : Int32) w46.length).bind fun w52 =>
  (gR w52 3 v0 0).bind fun x53 =>
  (nwC w0.length w52 [.int (8 : Int32), .ref v0, .int (8 : Int32), .ref x53] (.inr (6, [.null, .null, .null]))).bind fun w54 =>
  (clA w0.length w54 6 w52.length [.int (8 : Int32), .ref v0, .ref w52.length, .int (8 : Int32), .ref x53] (f_X6_init w54 w52.length)).bind fun q55 =>
  (sR q55 RX6 6 x53 (8 : Int32) w52.length).bind fun w58 =>
  (gR w58 3 v0 0).bind fun x59 =>
  (nwC w0.length w58 [.int (9 : Int32), .ref v0, .int (9 : Int32), .ref x59] (.inr (6, [.null, .null, .null]))).bind fun w60 =>
  (clA w0.length w60 6 w58.length [.int (9 : Int32), .ref v0, .ref w58.length, .int (9 : Int32), .ref x59] (f_X6_init w60 w58.length)).bind fun q61 =>
  (sR q61 RX6 6 x59 (9 : Int32) w58.length).bind fun w64 =>
  (gR w64 3 v0 0).bind fun x65 =>
  (nwC w0.length w64 [.int (10 : Int32), .ref v0, .int (10 : Int32), .ref x65] (.inr (6, [.null, .null, .null]))).bind fun w66 =>
  (clA w0.length w66 6 w64.length [.int (10 : Int32), .ref v0, .ref w64.length, .int (10 : Int32), .ref x65] (f_X6_init w66 w64.length)).bind fun q67 =>
  (sR q67 RX6 6 x65 (10 : Int32) w64.length).bind fun w70 =>
  (gR w70 3 v0 0).bind fun x71 =>
  (nwC w0.length w70 [.int (11 : Int32), .ref v0, .int (11 : Int32), .ref x71] (.inr (6, [.null, .null, .null]))).bind fun w72 =>
  (clA w0.length w72 6 w70.length [.int (11 : Int32), .ref v0, .ref w70.length, .int (11 : Int32), .ref x71] (f_X6_init w72 w70.length)).bind fun q73 =>
  (sR q73 RX6 6 x71 (11 : Int32) w70.length).bind fun w76 =>
  (gR w76 3 v0 0).bind fun x77 =>
  (nwC w0.length w76 [.int (12 : Int32), .ref v0, .int (12 : Int32), .ref x77] (.inr (6, [.null, .null, .null]))).bind fun w78 =>
  (clA w0.length w78 6 w76.length [.int (12 : Int32), .ref v0, .ref w76.length, .int (12 : Int32), .ref x77] (f_X6_init w78 w76.length)).bind fun q79 =>
  (sR q79 RX6 6 x77 (12 : Int32) w76.length).bind fun w82 =>
  some w82
def f_X6_take_4 (fu : Nat) : Nat → MW → Nat → Nat → Int32 → Int32 → Option MW
  | 0, _, _, _, _, _ => none
  | n + 1, w, v0, v1, v2, v3 =>
    if (8 : Int32) ≤ v3 then
      some w
    else
      (gR w 7 v1 0).bind fun x3 =>
      (aRn w (.object RX0) x3 v3).bind fun x4 =>
      (gI w 0 x4 1).bind fun x5 =>
      bnd (imin x5 ((240 : Int32) - v2)) fun x6 =>
      (gR w 0 x4 0).bind fun x7 =>
      (gR w 6 v0 0).bind fun x8 =>
      (cpI w .int x7 (0 : Int32) x8 v2 x6).bind fun w9 =>
      (gR w9 6 v0 1).bind fun x10 =>
      (sI w9 .int x10 v3 x6).bind fun w11 =>
      (gR w11 6 v0 2).bind fun x12 =>
      (gI w11 0 x4 2).bind fun x13 =>
      (sI w11 .int x12 v3 x13).bind fun w14 =>
      bnd (v2 + x6) fun x15 =>
      bnd (v3 + 1) fun x16 =>
      (f_X6_take_4 fu n) w14 v0 v1 x15 x16
def f_X6_take (fu : Nat) (w : MW) (v0 : Nat) (v1 : Nat) : Option MW :=
  bnd (0 : Int32) fun x1 =>
  bnd (0 : Int32) fun x2 =>
  f_X6_take_4 fu fu w v0 v1 x1 x2
def f_X3_prepare (fu : Nat) (w : MW) (v0 : Nat) (v1 : Nat) : Option MW :=
  (gR w 3 v0 0).bind fun x1 =>
  (gI w 3 v0 1).bind fun x2 =>
  (aRn w (.object RX6) x1 x2).bind fun x3 =>
  (cl w 6 x3 (f_X6_take fu w x3 v1)).bind fun q4 =>
  some q4
def f_X3_settle_26 (w : MW) (v0 : Nat) (v1 : Int32) (s0 : Nat) (s1 : Int32) : Option (Int32 × MW) :=
  (pV w 3 s0 1 (.int s1)).bind fun w2 =>
  (gI w2 3 v0 2).bind fun x3 =>
  (pV w2 3 v0 2 (.int (imin (x3 + (1 : Int32)) (12 : Int32)))).bind fun w4 =>
  some (v1, w4)
def f_X3_settle (w : MW) (v0 : Nat) (v1 : Int32) : Option (Int32 × MW) :=
  if v1 < 0 then
    some (v1, w)
  else
    (gI w 3 v0 1).bind fun x1 =>
    if (13 : Int32) ≤ (x1 + (1 : Int32)) then
      f_X3_settle_26 w v0 v1 v0 (0 : Int32)
    else
      (gI w 3 v0 1).bind fun x5 =>
      f_X3_settle_26 w v0 v1 v0 (x5 + (1 : Int32))
def f_X6_give_4 (fu : Nat) : Nat → MW → Nat → Nat → Int32 → Int32 → Option MW
  | 0, _, _, _, _, _ => none
  | n + 1, w, v0, v1, v2, v3 =>
    if (8 : Int32) ≤ v3 then
      some w
    else
      (gR w 7 v1 0).bind fun x3 =>
      (aRn w (.object RX0) x3 v3).bind fun x4 =>
      (gR w 6 v0 1).bind fun x5 =>
      (aI w .int x5 v3).bind fun x6 =>
      bnd (imin x6 ((240 : Int32) - v2)) fun x7 =>
      (gR w 6 v0 0).bind fun x8 =>
      (gR w 0 x4 0).bind fun x9 =>
      (cpI w .int x8 v2 x9 (0 : Int32) x7).bind fun w10 =>
      (pV w10 0 x4 1 (.int x7)).bind fun w11 =>
      (gR w11 6 v0 2).bind fun x12 =>
      (aI w11 .int x12 v3).bind fun x13 =>
      (pV w11 0 x4 2 (.int x13)).bind fun w14 =>
      bnd (v2 + x7) fun x15 =>
      bnd (v3 + 1) fun x16 =>
      (f_X6_give_4 fu n) w14 v0 v1 x15 x16
def f_X6_give (fu : Nat) (w : MW) (v0 : Nat) (v1 : Nat) : Option MW :=
  bnd (0 : Int32) fun x1 =>
  bnd (0 : Int32) fun x2 =>
  f_X6_give_4 fu fu w v0 v1 x1 x2
def f_X3_stepBack_19 (fu : Nat) (w : MW) (v0 : Nat) (v1 : Nat) (s0 : Nat) (s1 : Int32) : Option MW :=
  (pV w 3 s0 1 (.int s1)).bind fun w2 =>
  (gI w2 3 v0 2).bind fun x3 =>
  (pV w2 3 v0 2 (.int (x3 - (1 : Int32)))).bind fun w4 =>
  (gR w4 3 v0 0).bind fun x5 =>
  (gI w4 3 v0 1).bind fun x6 =>
  (aRn w4 (.object RX6) x5 x6).bind fun x7 =>
  (cl w4 6 x7 (f_X6_give fu w4 x7 v1)).bind fun q8 =>
  some q8
def f_X3_stepBack (fu : Nat) (w : MW) (v0 : Nat) (v1 : Nat) : Option MW :=
  (gI w 3 v0 1).bind fun x1 =>
  if x1 ≤ 0 then
    f_X3_stepBack_19 fu w v0 v1 v0 (12 : Int32)
  else
    (gI w 3 v0 1).bind fun x11 =>
    f_X3_stepBack_19 fu w v0 v1 v0 (x11 - (1 : Int32))
def f_X3_forget (w : MW) (v0 : Nat) : Option MW :=
  (pV w 3 v0 2 (.int (0 : Int32))).bind fun w1 =>
  some w1
def f_X4_byteAt (w : MW) (v0 : Nat) (v1 : Int32) : Option Int32 :=
  if v1 < 0 then
    some (-1 : Int32)
  else
    (gI w 4 v0 1).bind fun x1 =>
    if x1 ≤ v1 then
      some (-1 : Int32)
    else
      (gR w 4 v0 0).bind fun x2 =>
      (aL w .byte x2).bind fun x3 =>
      if x3 ≤ v1 then
        some (-1 : Int32)
      else
        (gR w 4 v0 0).bind fun x4 =>
        (aI w .byte x4 v1).bind fun x5 =>
        some (x5 &&& (255 : Int32))
def f_X4_add (w : MW) (v0 : Nat) (v1 : Int32) : Option MW :=
  (gI w 4 v0 1).bind fun x1 =>
  if x1 < 0 then
    some w
  else
    (gI w 4 v0 1).bind fun x2 =>
    (gR w 4 v0 0).bind fun x3 =>
    (aL w .byte x3).bind fun x4 =>
    if x4 ≤ x2 then
      some w
    else
      (gR w 4 v0 0).bind fun x5 =>
      (gI w 4 v0 1).bind fun x6 =>
      (sI w .byte x5 x6 (vp_nar .byte v1.toInt8.toInt32)).bind fun w7 =>
      (gI w7 4 v0 1).bind fun x8 =>
      (pV w7 4 v0 1 (.int (x8 + (1 : Int32)))).bind fun w9 =>
      some w9
def f_X4_addFour (w : MW) (v0 : Nat) (v1 : Int32) : Option MW :=
  (cl w 4 v0 (f_X4_add w v0 (ush v1 (24 : Int32)))).bind fun q1 =>
  (cl q1 4 v0 (f_X4_add q1 v0 (ush v1 (16 : Int32)))).bind fun q4 =>
  (cl q4 4 v0 (f_X4_add q4 v0 (ush v1 (8 : Int32)))).bind fun q7 =>
  (cl q7 4 v0 (f_X4_add q7 v0 v1)).bind fun q10 =>
  some q10
def f_X4_addNumber_51 (fu : Nat) (lr6 : MW → Nat → Int32 → Int32 → Int32 → Option MW) (w : MW) (v0 : Nat) (v1 : Int32) (v2 : Int32) (v3 : Int32) : Option MW :=
  bnd (v3 / (10 : Int32)) fun x6 =>
  lr6 w v0 v1 v2 x6
def f_X4_addNumber_37 (fu : Nat) (lr6 : MW → Nat → Int32 → Int32 → Int32 → Option MW) (w : MW) (v0 : Nat) (v1 : Int32) (v3 : Int32) (v4 : Int32) (s0 : Int32) : Option MW :=
  bnd s0 fun x5 =>
  if x5 = 0 then
    f_X4_addNumber_51 fu lr6 w v0 v1 x5 v3
  else
    (cl w 4 v0 (f_X4_add w v0 ((48 : Int32) + v4))).bind fun q7 =>
    f_X4_addNumber_51 fu lr6 q7 v0 v1 x5 v3
def f_X4_addNumber_6 (fu : Nat) : Nat → MW → Nat → Int32 → Int32 → Int32 → Option MW
  | 0, _, _, _, _, _ => none
  | n + 1, w, v0, v1, v2, v3 =>
    if v3 ≤ 0 then
      some w
    else
      (dv v1 v3).bind fun x3 =>
      bnd (x3 - x3 / (10 : Int32) * (10 : Int32)) fun x4 =>
      if v2 = 0 then
        if 0 < x4 then
          f_X4_addNumber_37 fu (f_X4_addNumber_6 fu n) w v0 v1 v3 x4 (1 : Int32)
        else
          if v3 = (1 : Int32) then
            f_X4_addNumber_37 fu (f_X4_addNumber_6 fu n) w v0 v1 v3 x4 (1 : Int32)
          else
            f_X4_addNumber_37 fu (f_X4_addNumber_6 fu n) w v0 v1 v3 x4 (0 : Int32)
      else
        f_X4_addNumber_37 fu (f_X4_addNumber_6 fu n) w v0 v1 v3 x4 (1 : Int32)
def f_X4_addNumber (fu : Nat) (w : MW) (v0 : Nat) (v1 : Int32) : Option MW :=
  bnd (0 : Int32) fun x1 =>
  bnd (1000 : Int32) fun x2 =>
  f_X4_addNumber_6 fu fu w v0 v1 x1 x2
def f_X4_copy (w : MW) (v0 : Nat) (v1 : Nat) : Option MW :=
  (gI w 4 v1 1).bind fun x1 =>
  (gR w 4 v0 0).bind fun x2 =>
  (aL w .byte x2).bind fun x3 =>
  (pV w 4 v0 1 (.int (imin x1 x3))).bind fun w4 =>
  (gR w4 4 v1 0).bind fun x5 =>
  (gR w4 4 v0 0).bind fun x6 =>
  (gI w4 4 v0 1).bind fun x7 =>
  (cpI w4 .byte x5 (0 : Int32) x6 (0 : Int32) x7).bind fun w8 =>
  some w8
noncomputable def f_X5_init (w0 : MW) (v0 : Nat) (v1 : Nat) (v2 : Nat) : Option MW :=
  (nwC w0.length w0 [.ref v0, .ref v1, .ref v2, .ref v0] (.inl (.int, 4, .inl (fun _ => 0)))).bind fun w1 =>
  (pV w1 5 v0 2 (.ref w0.length)).bind fun w2 =>
  (pV w2 5 v0 0 (.ref v1)).bind fun w3 =>
  (pV w3 5 v0 1 (.ref v2)).bind fun w4 =>
  some w4
def f_X5_isBlank (v0 : Int32) : Int32 :=
  if v0 = (32 : Int32) then
    (1 : Int32)
  else
    if v0 = (10 : Int32) then
      (1 : Int32)
    else
      (0 : Int32)
def f_X5_isLetter (v0 : Int32) : Int32 :=
  if v0 < (97 : Int32) then
    (0 : Int32)
  else
    if (122 : Int32) < v0 then
      (0 : Int32)
    else
      (1 : Int32)
def f_X5_readWord_5 (fu : Nat) : Nat → MW → Nat → Option MW
  | 0, _, _ => none
  | n + 1, w, v0 =>
    (gI w 5 v0 3).bind fun x2 =>
    (gR w 5 v0 0).bind fun x3 =>
    (gI w 4 x3 1).bind fun x4 =>
    if x4 ≤ x2 then
      some w
    else
      (gR w 5 v0 0).bind fun x5 =>
      (gI w 5 v0 3).bind fun x6 =>
      (cl w 4 x5 (f_X4_byteAt w x5 x6)).bind fun q7 =>
      if (f_X5_isLetter q7) = 0 then
        some w
      else
        (gI w 5 v0 3).bind fun x10 =>
        (pV w 5 v0 3 (.int (x10 + (1 : Int32)))).bind fun w11 =>
        (f_X5_readWord_5 fu n) w11 v0
def f_X5_readWord (fu : Nat) (w : MW) (v0 : Nat) : Option MW :=
  (pV w 5 v0 4 (.int (2 : Int32))).bind fun w1 =>
  f_X5_readWord_5 fu fu w1 v0
def f_X5_isDigit (v0 : Int32) : Int32 :=
  if v0 < (48 : Int32) then
    (0 : Int32)
  else
    if (57 : Int32) < v0 then
      (0 : Int32)
    else
      (1 : Int32)
def f_X5_readNumber_94 (fu : Nat) (w : MW) (s0 : Nat) (s1 : Int32) : Option MW :=
  (pV w 5 s0 4 (.int s1)).bind fun w7 =>
  some w7
def f_X5_readNumber_75 (fu : Nat) (w : MW) (v0 : Nat) : Option MW :=
  (gI w 5 v0 3).bind fun x5 =>
  (gI w 5 v0 5).bind fun x6 =>
  if (x5 - x6) ≤ (4 : Int32) then
    f_X5_readNumber_94 fu w v0 (3 : Int32)
  else
    f_X5_readNumber_94 fu w v0 (1 : Int32)
def f_X5_readNumber_5 (fu : Nat) : Nat → MW → Nat → Option MW
  | 0, _, _ => none
  | n + 1, w, v0 =>
    (gI w 5 v0 3).bind fun x2 =>
    (gR w 5 v0 0).bind fun x3 =>
    (gI w 4 x3 1).bind fun x4 =>
    if x4 ≤ x2 then
      f_X5_readNumber_75 fu w v0
    else
      (gR w 5 v0 0).bind fun x8 =>
      (gI w 5 v0 3).bind fun x9 =>
      (cl w 4 x8 (f_X4_byteAt w x8 x9)).bind fun q10 =>
      if (f_X5_isDigit q10) = 0 then
        f_X5_readNumber_75 fu w v0
      else
        (gI w 5 v0 6).bind fun x13 =>
        (gR w 5 v0 0).bind fun x14 =>
        (gI w 5 v0 3).bind fun x15 =>
        (cl w 4 x14 (f_X4_byteAt w x14 x15)).bind fun q16 =>
        (pV w 5 v0 6 (.int (((x13 * (10 : Int32)) + q16) - (48 : Int32)))).bind fun w19 =>
        (gI w19 5 v0 3).bind fun x20 =>
        (pV w19 5 v0 3 (.int (x20 + (1 : Int32)))).bind fun w21 =>
        (f_X5_readNumber_5 fu n) w21 v0
def f_X5_readNumber (fu : Nat) (w : MW) (v0 : Nat) : Option MW :=
  (pV w 5 v0 6 (.int (0 : Int32))).bind fun w1 =>
  f_X5_readNumber_5 fu fu w1 v0
def f_X5_advance_123 (fu : Nat) (w : MW) (v0 : Nat) (s0 : Nat) (s1 : Int32) : Option MW :=
  (pV w 5 s0 4 (.int s1)).bind fun w12 =>
  (gI w12 5 v0 3).bind fun x13 =>
  (pV w12 5 v0 3 (.int (x13 + (1 : Int32)))).bind fun w14 =>
  some w14
def f_X5_advance_44 (fu : Nat) (w : MW) (v0 : Nat) : Option MW :=
  (gI w 5 v0 3).bind fun x4 =>
  (pV w 5 v0 5 (.int x4)).bind fun w5 =>
  (gR w5 5 v0 0).bind fun x6 =>
  (gI w5 5 v0 3).bind fun x7 =>
  (cl w5 4 x6 (f_X4_byteAt w5 x6 x7)).bind fun q8 =>
  bnd q8 fun x11 =>
  if x11 = (-1 : Int32) then
    (pV w5 5 v0 4 (.int (0 : Int32))).bind fun w21 =>
    some w21
  else
    if (f_X5_isLetter x11) = 0 then
      if (f_X5_isDigit x11) = 0 then
        if x11 = (45 : Int32) then
          f_X5_advance_123 fu w5 v0 v0 x11
        else
          if x11 = (59 : Int32) then
            f_X5_advance_123 fu w5 v0 v0 x11
          else
            f_X5_advance_123 fu w5 v0 v0 (1 : Int32)
      else
        (cl w5 5 v0 (f_X5_readNumber fu w5 v0)).bind fun q15 =>
        some q15
    else
      (cl w5 5 v0 (f_X5_readWord fu w5 v0)).bind fun q18 =>
      some q18
def f_X5_advance_0 (fu : Nat) : Nat → MW → Nat → Option MW
  | 0, _, _ => none
  | n + 1, w, v0 =>
    (gI w 5 v0 3).bind fun x1 =>
    (gR w 5 v0 0).bind fun x2 =>
    (gI w 4 x2 1).bind fun x3 =>
    if x3 ≤ x1 then
      f_X5_advance_44 fu w v0
    else
      (gR w 5 v0 0).bind fun x22 =>
      (gI w 5 v0 3).bind fun x23 =>
      (cl w 4 x22 (f_X4_byteAt w x22 x23)).bind fun q24 =>
      if (f_X5_isBlank q24) = 0 then
        f_X5_advance_44 fu w v0
      else
        (gI w 5 v0 3).bind fun x27 =>
        (pV w 5 v0 3 (.int (x27 + (1 : Int32)))).bind fun w28 =>
        (f_X5_advance_0 fu n) w28 v0
def f_X5_advance (fu : Nat) (w : MW) (v0 : Nat) : Option MW :=
  f_X5_advance_0 fu fu w v0
def f_X5_spells_62 (fu : Nat) (w : MW) (lr24 : Nat → Nat → Int32 → Int32 → Option Int32) (v0 : Nat) (v1 : Nat) (v3 : Int32) (s0 : Int32) : Option Int32 :=
  bnd s0 fun x15 =>
  bnd (v3 + 1) fun x16 =>
  lr24 v0 v1 x15 x16
def f_X5_spells_24 (fu : Nat) (w : MW) : Nat → Nat → Nat → Int32 → Int32 → Option Int32
  | 0, _, _, _, _ => none
  | n + 1, v0, v1, v2, v3 =>
    (stL v1).bind fun x6 =>
    if x6 ≤ v3 then
      (zr .boolean v2).bind fun x7 =>
      some x7
    else
      if v2 = 0 then
        (zr .boolean v2).bind fun x8 =>
        some x8
      else
        (gR w 5 v0 0).bind fun x9 =>
        (gI w 5 v0 5).bind fun x10 =>
        (cl w 4 x9 (f_X4_byteAt w x9 (x10 + v3))).bind fun q11 =>
        (stC v1 v3).bind fun x14 =>
        if q11 = x14 then
          f_X5_spells_62 fu w (f_X5_spells_24 fu w n) v0 v1 v3 (1 : Int32)
        else
          f_X5_spells_62 fu w (f_X5_spells_24 fu w n) v0 v1 v3 (0 : Int32)
def f_X5_spells (fu : Nat) (w : MW) (v0 : Nat) (v1 : Nat) : Option Int32 :=
  (gI w 5 v0 3).bind fun x1 =>
  (gI w 5 v0 5).bind fun x2 =>
  (stL v1).bind fun x3 =>
  if (x1 - x2) = x3 then
    bnd (1 : Int32) fun x17 =>
    bnd (0 : Int32) fun x18 =>
    f_X5_spells_24 fu w fu v0 v1 x17 x18
  else
    bnd (0 : Int32) fun x4 =>
    bnd (0 : Int32) fun x5 =>
    f_X5_spells_24 fu w fu v0 v1 x4 x5
def f_X5_lineHere (fu : Nat) (w : MW) (v0 : Nat) : Option Int32 :=
  (cl w 5 v0 (f_X5_spells fu w v0 10000)).bind fun q1 =>
  if q1 = 0 then
    (cl w 5 v0 (f_X5_spells fu w v0 10001)).bind fun q4 =>
    if q4 = 0 then
      (cl w 5 v0 (f_X5_spells fu w v0 10002)).bind fun q7 =>
      if q7 = 0 then
        (cl w 5 v0 (f_X5_spells fu w v0 10003)).bind fun q10 =>
        if q10 = 0 then
          (cl w 5 v0 (f_X5_spells fu w v0 10004)).bind fun q13 =>
          if q13 = 0 then
            (cl w 5 v0 (f_X5_spells fu w v0 10005)).bind fun q16 =>
            if q16 = 0 then
              (cl w 5 v0 (f_X5_spells fu w v0 10006)).bind fun q19 =>
              if q19 = 0 then
                some (-1 : Int32)
              else
                some (6 : Int32)
            else
              some (5 : Int32)
          else
            some (4 : Int32)
        else
          some (3 : Int32)
      else
        some (2 : Int32)
    else
      some (1 : Int32)
  else
    some (0 : Int32)
def f_X5_fail (w : MW) (v0 : Nat) (v1 : Int32) (v2 : Int32) : Option MW :=
  (gI w 5 v0 7).bind fun x1 =>
  if x1 = 0 then
    (pV w 5 v0 7 (.int v1)).bind fun w2 =>
    (pV w2 5 v0 8 (.int v2)).bind fun w3 =>
    some w3
  else
    some w
def f_X5_shapeOf (v0 : Int32) : Nat :=
  if v0 = 0 then
    10007
  else if v0 = 1 then
    10008
  else if v0 = 2 then
    10009
  else if v0 = 3 then
    10012
  else if v0 = 4 then
    10012
  else if v0 = 5 then
    10010
  else if v0 = 6 then
    10011
  else 
    10012
def f_X5_takeNumber_37 (fu : Nat) (w : MW) (v0 : Nat) : Option (Int32 × MW) :=
  (gI w 5 v0 7).bind fun x3 =>
  if x3 = 0 then
    (gI w 5 v0 6).bind fun x4 =>
    bnd x4 fun x5 =>
    (cl w 5 v0 (f_X5_advance fu w v0)).bind fun q6 =>
    some (x5, q6)
  else
    some ((0 : Int32), w)
def f_X5_takeNumber (fu : Nat) (w : MW) (v0 : Nat) (v1 : Int32) : Option (Int32 × MW) :=
  (gI w 5 v0 4).bind fun x1 =>
  if x1 = (3 : Int32) then
    (gI w 5 v0 6).bind fun x2 =>
    if x2 ≤ v1 then
      f_X5_takeNumber_37 fu w v0
    else
      (gI w 5 v0 5).bind fun x9 =>
      (cl w 5 v0 (f_X5_fail w v0 (2 : Int32) x9)).bind fun q10 =>
      f_X5_takeNumber_37 fu q10 v0
  else
    (gI w 5 v0 5).bind fun x13 =>
    (cl w 5 v0 (f_X5_fail w v0 (1 : Int32) x13)).bind fun q14 =>
    f_X5_takeNumber_37 fu q14 v0
def f_X5_takeArgument_44 (fu : Nat) (w : MW) (v2 : Int32) (s0 : Nat) (s1 : Int32) : Option (Int32 × MW) :=
  (cl w 5 s0 (f_X5_takeNumber fu w s0 s1)).bind fun q2 =>
  bnd q2.1 fun x5 =>
  if v2 = 0 then
    some (x5, q2.2)
  else
    some ((-x5), q2.2)
def f_X5_takeArgument_29 (fu : Nat) (w : MW) (v0 : Nat) (v1 : Int32) (v2 : Int32) : Option (Int32 × MW) :=
  if v1 = (115 : Int32) then
    f_X5_takeArgument_44 fu w v2 v0 (7 : Int32)
  else
    f_X5_takeArgument_44 fu w v2 v0 (9999 : Int32)
def f_X5_takeArgument_20 (fu : Nat) (w : MW) (v0 : Nat) (v1 : Int32) (s0 : Int32) : Option (Int32 × MW) :=
  bnd s0 fun x1 =>
  if x1 = 0 then
    f_X5_takeArgument_29 fu w v0 v1 x1
  else
    (cl w 5 v0 (f_X5_advance fu w v0)).bind fun q6 =>
    f_X5_takeArgument_29 fu q6 v0 v1 x1
def f_X5_takeArgument (fu : Nat) (w : MW) (v0 : Nat) (v1 : Int32) : Option (Int32 × MW) :=
  if v1 = (98 : Int32) then
    (gI w 5 v0 4).bind fun x9 =>
    if x9 = (45 : Int32) then
      f_X5_takeArgument_20 fu w v0 v1 (1 : Int32)
    else
      f_X5_takeArgument_20 fu w v0 v1 (0 : Int32)
  else
    f_X5_takeArgument_20 fu w v0 v1 (0 : Int32)
def f_X7_heapAt (w : MW) (v0 : Nat) (v1 : Int32) : Option (Option Nat) :=
  if v1 < 0 then
    some none
  else
    if (8 : Int32) ≤ v1 then
      some none
    else
      (gR w 7 v0 0).bind fun x1 =>
      (aRn w (.object RX0) x1 v1).bind fun x2 =>
      some (some x2)
def f_X10_isKey (v0 : Int32) : Int32 :=
  if v0 < 0 then
    (0 : Int32)
  else
    if (9999 : Int32) < v0 then
      (0 : Int32)
    else
      (1 : Int32)
def f_X7_total_4 (fu : Nat) (w : MW) : Nat → Nat → Int32 → Int32 → Option Int32
  | 0, _, _, _ => none
  | n + 1, v0, v1, v2 =>
    if (8 : Int32) ≤ v2 then
      some v1
    else
      (gR w 7 v0 0).bind fun x3 =>
      (aRn w (.object RX0) x3 v2).bind fun x4 =>
      (gI w 0 x4 1).bind fun x5 =>
      bnd (v1 + x5) fun x6 =>
      bnd (v2 + 1) fun x7 =>
      (f_X7_total_4 fu w n) v0 x6 x7
def f_X7_total (fu : Nat) (w : MW) (v0 : Nat) : Option Int32 :=
  bnd (0 : Int32) fun x1 =>
  bnd (0 : Int32) fun x2 =>
  f_X7_total_4 fu w fu v0 x1 x2
def f_X7_putKey (fu : Nat) (w : MW) (v0 : Nat) (v1 : Int32) (v2 : Int32) : Option (Int32 × MW) :=
  (cl w 7 v0 (f_X7_heapAt w v0 v1)).bind fun q1 =>
  match q1 with
  | none =>
    some ((-1 : Int32), w)
  | some b4 =>
    if (f_X10_isKey v2) = 0 then
      some ((-1 : Int32), w)
    else
      (cl w 0 b4 (f_X0_rankOf fu w b4 v2)).bind fun q5 =>
      if q5 = (-1 : Int32) then
        (gI w 0 b4 1).bind fun x8 =>
        if (60 : Int32) ≤ x8 then
          some ((-4 : Int32), w)
        else
          (cl w 7 v0 (f_X7_total fu w v0)).bind fun q9 =>
          if q9 < (240 : Int32) then
            (cl w 0 b4 (f_X0_insert fu w b4 v2)).bind fun q12 =>
            some (q12.1, q12.2)
          else
            some ((-4 : Int32), w)
      else
        some ((-2 : Int32), w)
def f_X5_putItem_95 (fu : Nat) (lr60 : MW → Nat → Int32 → Int32 → Int32 → Int32 → Option MW) (w : MW) (v0 : Nat) (v1 : Int32) (v2 : Int32) (v4 : Int32) (v5 : Int32) : Option MW :=
  bnd (v5 + 1) fun x15 =>
  lr60 w v0 v1 v2 v4 x15
def f_X5_putItem_60 (fu : Nat) : Nat → MW → Nat → Int32 → Int32 → Int32 → Int32 → Option MW
  | 0, _, _, _, _, _, _ => none
  | n + 1, w, v0, v1, v2, v4, v5 =>
    if v4 < v5 then
      some w
    else
      (gI w 5 v0 7).bind fun x10 =>
      if x10 = 0 then
        (gR w 5 v0 1).bind fun x11 =>
        (cl w 7 x11 (f_X7_putKey fu w x11 v1 v5)).bind fun q12 =>
        if q12.1 = (-4 : Int32) then
          (cl q12.2 5 v0 (f_X5_fail q12.2 v0 (3 : Int32) v2)).bind fun q16 =>
          f_X5_putItem_95 fu (f_X5_putItem_60 fu n) q16 v0 v1 v2 v4 v5
        else
          f_X5_putItem_95 fu (f_X5_putItem_60 fu n) q12.2 v0 v1 v2 v4 v5
      else
        some w
def f_X5_putItem (fu : Nat) (w : MW) (v0 : Nat) (v1 : Int32) : Option MW :=
  (gI w 5 v0 5).bind fun x1 =>
  bnd x1 fun x2 =>
  (cl w 5 v0 (f_X5_takeNumber fu w v0 (9999 : Int32))).bind fun q3 =>
  bnd q3.1 fun x6 =>
  bnd x6 fun x7 =>
  (gI q3.2 5 v0 4).bind fun x8 =>
  if x8 = (45 : Int32) then
    (cl q3.2 5 v0 (f_X5_advance fu q3.2 v0)).bind fun q19 =>
    (gI q19 5 v0 5).bind fun x22 =>
    bnd x22 fun x23 =>
    (cl q19 5 v0 (f_X5_takeNumber fu q19 v0 (9999 : Int32))).bind fun q24 =>
    bnd q24.1 fun x27 =>
    if x6 ≤ x27 then
      bnd x6 fun x28 =>
      f_X5_putItem_60 fu fu q24.2 v0 v1 x2 x27 x28
    else
      (cl q24.2 5 v0 (f_X5_fail q24.2 v0 (2 : Int32) x23)).bind fun q29 =>
      bnd x6 fun x32 =>
      f_X5_putItem_60 fu fu q29 v0 v1 x2 x27 x32
  else
    bnd x6 fun x9 =>
    f_X5_putItem_60 fu fu q3.2 v0 v1 x2 x7 x9
def f_X7_markStretch_42 (fu : Nat) (w : MW) (s0 : Nat) (s1 : Int32) (s2 : Int32) (s3 : Int32) : Option (Int32 × MW) :=
  (cl w 0 s0 (f_X0_markBetween fu w s0 s1 s2 s3)).bind fun q5 =>
  bnd q5.1 fun x8 =>
  if x8 = 0 then
    some ((-2 : Int32), q5.2)
  else
    some (x8, q5.2)
def f_X7_markStretch (fu : Nat) (w : MW) (v0 : Nat) (v1 : Int32) (v2 : Int32) (v3 : Int32) (v4 : Int32) : Option (Int32 × MW) :=
  (cl w 7 v0 (f_X7_heapAt w v0 v1)).bind fun q1 =>
  match q1 with
  | none =>
    some ((-1 : Int32), w)
  | some b4 =>
    if (f_X10_isKey v2) = 0 then
      some ((-1 : Int32), w)
    else
      if (f_X10_isKey v3) = 0 then
        some ((-1 : Int32), w)
      else
        if v4 = 0 then
          f_X7_markStretch_42 fu w b4 v2 v3 (0 : Int32)
        else
          f_X7_markStretch_42 fu w b4 v2 v3 (1 : Int32)
def f_X7_cutAbove (fu : Nat) (w : MW) (v0 : Nat) (v1 : Int32) (v2 : Int32) (v3 : Int32) : Option (Int32 × MW) :=
  (cl w 7 v0 (f_X7_heapAt w v0 v1)).bind fun q1 =>
  match q1 with
  | none =>
    (cl w 7 v0 (f_X7_heapAt w v0 v3)).bind fun q5 =>
    match q5 with
    | none =>
      some ((-1 : Int32), w)
    | some b8 =>
      some ((-1 : Int32), w)
  | some b4 =>
    (cl w 7 v0 (f_X7_heapAt w v0 v3)).bind fun q9 =>
    match q9 with
    | none =>
      some ((-1 : Int32), w)
    | some b12 =>
      if v1 = v3 then
        some ((-1 : Int32), w)
      else
        if (f_X10_isKey v2) = 0 then
          some ((-1 : Int32), w)
        else
          (cl w 0 b4 (f_X0_notAbove fu w b4 v2)).bind fun q13 =>
          bnd q13 fun x16 =>
          (gI w 0 b4 1).bind fun x17 =>
          bnd (x17 - x16) fun x18 =>
          if x18 = 0 then
            some ((-2 : Int32), w)
          else
            (gI w 0 b12 1).bind fun x19 =>
            if x19 ≤ 0 then
              (cl w 0 b4 (f_X0_giveStretch fu w b4 x16 x18 b12)).bind fun q20 =>
              some (x18, q20)
            else
              some ((-3 : Int32), w)
def f_X7_whyNotJoin_38 (w : MW) (v1 : Nat) (v2 : Nat) : Option Int32 :=
  (gI w 0 v1 1).bind fun x3 =>
  (gI w 0 v2 1).bind fun x4 =>
  if (x3 + x4) ≤ (60 : Int32) then
    some (0 : Int32)
  else
    some (-4 : Int32)
def f_X7_whyNotJoin (w : MW) (v0 : Nat) (v1 : Nat) (v2 : Nat) : Option Int32 :=
  (gI w 0 v2 1).bind fun x1 =>
  if x1 = 0 then
    some (-2 : Int32)
  else
    (gI w 0 v1 1).bind fun x2 =>
    if x2 ≤ 0 then
      f_X7_whyNotJoin_38 w v1 v2
    else
      (gI w 0 v1 1).bind fun x5 =>
      (cl w 0 v1 (f_X0_keyAt w v1 (x5 - (1 : Int32)))).bind fun q6 =>
      (cl w 0 v2 (f_X0_keyAt w v2 (0 : Int32))).bind fun q9 =>
      if q6 < q9 then
        f_X7_whyNotJoin_38 w v1 v2
      else
        some (-3 : Int32)
def f_X7_joinTo (fu : Nat) (w : MW) (v0 : Nat) (v1 : Int32) (v2 : Int32) : Option (Int32 × MW) :=
  (cl w 7 v0 (f_X7_heapAt w v0 v1)).bind fun q1 =>
  match q1 with
  | none =>
    (cl w 7 v0 (f_X7_heapAt w v0 v2)).bind fun q5 =>
    match q5 with
    | none =>
      some ((-1 : Int32), w)
    | some b8 =>
      some ((-1 : Int32), w)
  | some b4 =>
    (cl w 7 v0 (f_X7_heapAt w v0 v2)).bind fun q9 =>
    match q9 with
    | none =>
      some ((-1 : Int32), w)
    | some b12 =>
      if v1 = v2 then
        some ((-1 : Int32), w)
      else
        (cl w 7 v0 (f_X7_whyNotJoin w v0 b4 b12)).bind fun q13 =>
        bnd q13 fun x16 =>
        if x16 = 0 then
          (gI w 0 b12 1).bind fun x17 =>
          (cl w 0 b12 (f_X0_giveStretch fu w b12 (0 : Int32) x17 b4)).bind fun q18 =>
          (gI q18 0 b4 1).bind fun x21 =>
          some (x21, q18)
        else
          some (x16, w)
def f_X9_endRun_40 (fu : Nat) : Nat → MW → Nat → Int32 → Option MW
  | 0, _, _, _ => none
  | n + 1, w, v0, v2 =>
    if v2 ≤ (1 : Int32) then
      some w
    else
      (gI w 9 v0 2).bind fun x8 =>
      (pV w 9 v0 2 (.int (x8 + (1 : Int32)))).bind fun w9 =>
      bnd (v2 >>> ((1 : Int32) &&& 31)) fun x10 =>
      (f_X9_endRun_40 fu n) w9 v0 x10
def f_X9_endRun (fu : Nat) (w : MW) (v0 : Nat) (v1 : Int32) : Option MW :=
  if (1 : Int32) ≤ v1 then
    (gI w 9 v0 0).bind fun x1 =>
    (pV w 9 v0 0 (.int (x1 + (1 : Int32)))).bind fun w2 =>
    (gI w2 9 v0 3).bind fun x3 =>
    (pV w2 9 v0 3 (.int (imax x3 v1))).bind fun w4 =>
    (gI w4 9 v0 2).bind fun x5 =>
    (pV w4 9 v0 2 (.int (x5 + (1 : Int32)))).bind fun w6 =>
    bnd v1 fun x7 =>
    f_X9_endRun_40 fu fu w6 v0 x7
  else
    some w
def f_X9_weave_201 (fu : Nat) (lr47 : MW → Nat → Nat → Nat → Int32 → Int32 → Int32 → Int32 → Int32 → Option MW) (w : MW) (v0 : Nat) (v1 : Nat) (v2 : Nat) (v3 : Int32) (v4 : Int32) (v5 : Int32) (v6 : Int32) (s0 : Int32) (s1 : Int32) : Option MW :=
  bnd (s0 - s1) fun x32 =>
  lr47 w v0 v1 v2 v3 v4 v5 v6 x32
def f_X9_weave_186 (fu : Nat) (lr47 : MW → Nat → Nat → Nat → Int32 → Int32 → Int32 → Int32 → Int32 → Option MW) (w : MW) (v0 : Nat) (v1 : Nat) (v2 : Nat) (v3 : Int32) (v5 : Int32) (v6 : Int32) (v7 : Int32) (v8 : Int32) (s0 : Int32) (s1 : Int32) : Option MW :=
  bnd (s0 + s1) fun x31 =>
  if v8 = 0 then
    f_X9_weave_201 fu lr47 w v0 v1 v2 v3 x31 v5 v6 v7 (2 : Int32)
  else
    f_X9_weave_201 fu lr47 w v0 v1 v2 v3 x31 v5 v6 v7 (1 : Int32)
def f_X9_weave_172 (fu : Nat) (lr47 : MW → Nat → Nat → Nat → Int32 → Int32 → Int32 → Int32 → Int32 → Option MW) (w : MW) (v0 : Nat) (v1 : Nat) (v2 : Nat) (v4 : Int32) (v5 : Int32) (v6 : Int32) (v7 : Int32) (v8 : Int32) (s0 : Int32) (s1 : Int32) : Option MW :=
  bnd (s0 + s1) fun x30 =>
  if v8 < 0 then
    f_X9_weave_186 fu lr47 w v0 v1 v2 x30 v5 v6 v7 v8 v4 (0 : Int32)
  else
    f_X9_weave_186 fu lr47 w v0 v1 v2 x30 v5 v6 v7 v8 v4 (1 : Int32)
def f_X9_weave_157 (fu : Nat) (lr47 : MW → Nat → Nat → Nat → Int32 → Int32 → Int32 → Int32 → Int32 → Option MW) (w : MW) (v0 : Nat) (v1 : Nat) (v2 : Nat) (v3 : Int32) (v4 : Int32) (v5 : Int32) (v6 : Int32) (v7 : Int32) (v8 : Int32) (s0 : Nat) (s1 : Int32) (s2 : Int32) : Option MW :=
  (pV w 9 s0 1 (.int (s1 + s2))).bind fun w29 =>
  if 0 < v8 then
    f_X9_weave_172 fu lr47 w29 v0 v1 v2 v4 v5 v6 v7 v8 v3 (0 : Int32)
  else
    f_X9_weave_172 fu lr47 w29 v0 v1 v2 v4 v5 v6 v7 v8 v3 (1 : Int32)
def f_X9_weave_129 (fu : Nat) (lr47 : MW → Nat → Nat → Nat → Int32 → Int32 → Int32 → Int32 → Int32 → Option MW) (w : MW) (v0 : Nat) (v1 : Nat) (v2 : Nat) (v3 : Int32) (v4 : Int32) (v5 : Int32) (v6 : Int32) (v7 : Int32) (v8 : Int32) : Option MW :=
  bnd (v5 + 1) fun x25 =>
  (gI w 9 v0 4).bind fun x26 =>
  (pV w 9 v0 4 (.int (x26 + (1 : Int32)))).bind fun w27 =>
  (gI w27 9 v0 1).bind fun x28 =>
  if v8 = 0 then
    f_X9_weave_157 fu lr47 w27 v0 v1 v2 v3 v4 x25 v6 v7 v8 v0 x28 (1 : Int32)
  else
    f_X9_weave_157 fu lr47 w27 v0 v1 v2 v3 v4 x25 v6 v7 v8 v0 x28 (0 : Int32)
def f_X9_weave_105 (fu : Nat) (lr47 : MW → Nat → Nat → Nat → Int32 → Int32 → Int32 → Int32 → Int32 → Option MW) (w : MW) (v0 : Nat) (v1 : Nat) (v2 : Nat) (v3 : Int32) (v4 : Int32) (v5 : Int32) (v6 : Int32) (v7 : Int32) (v8 : Int32) (s0 : Int32) (s1 : Int32) : Option MW :=
  if s0 = s1 then
    f_X9_weave_129 fu lr47 w v0 v1 v2 v3 v4 v5 v6 v7 v8
  else
    (cl w 9 v0 (f_X9_endRun fu w v0 v5)).bind fun q33 =>
    bnd (0 : Int32) fun x36 =>
    if 0 < v8 then
      bnd (0 : Int32) fun x37 =>
      f_X9_weave_129 fu lr47 q33 v0 v1 v2 v3 v4 x36 x37 v7 v8
    else
      bnd (1 : Int32) fun x38 =>
      f_X9_weave_129 fu lr47 q33 v0 v1 v2 v3 v4 x36 x38 v7 v8
def f_X9_weave_91 (fu : Nat) (lr47 : MW → Nat → Nat → Nat → Int32 → Int32 → Int32 → Int32 → Int32 → Option MW) (w : MW) (v0 : Nat) (v1 : Nat) (v2 : Nat) (v3 : Int32) (v4 : Int32) (v5 : Int32) (v6 : Int32) (v7 : Int32) (s0 : Int32) : Option MW :=
  bnd s0 fun x24 =>
  if 0 < x24 then
    f_X9_weave_105 fu lr47 w v0 v1 v2 v3 v4 v5 v6 v7 x24 v6 (0 : Int32)
  else
    f_X9_weave_105 fu lr47 w v0 v1 v2 v3 v4 v5 v6 v7 x24 v6 (1 : Int32)
def f_X9_weave_47 (fu : Nat) : Nat → MW → Nat → Nat → Nat → Int32 → Int32 → Int32 → Int32 → Int32 → Option MW
  | 0, _, _, _, _, _, _, _, _, _ => none
  | n + 1, w, v0, v1, v2, v3, v4, v5, v6, v7 =>
    if v7 ≤ 0 then
      (cl w 9 v0 (f_X9_endRun fu w v0 v5)).bind fun q13 =>
      some q13
    else
      (gI w 0 v1 1).bind fun x16 =>
      if v3 < x16 then
        (gI w 0 v2 1).bind fun x17 =>
        if v4 < x17 then
          (cl w 0 v1 (f_X0_keyAt w v1 v3)).bind fun q18 =>
          (cl w 0 v2 (f_X0_keyAt w v2 v4)).bind fun q21 =>
          f_X9_weave_91 fu (f_X9_weave_47 fu n) w v0 v1 v2 v3 v4 v5 v6 v7 (f_J6_compare_7cf53 q18 q21)
        else
          f_X9_weave_91 fu (f_X9_weave_47 fu n) w v0 v1 v2 v3 v4 v5 v6 v7 (-1 : Int32)
      else
        f_X9_weave_91 fu (f_X9_weave_47 fu n) w v0 v1 v2 v3 v4 v5 v6 v7 (1 : Int32)
def f_X9_weave (fu : Nat) (w : MW) (v0 : Nat) (v1 : Nat) (v2 : Nat) : Option MW :=
  (pV w 9 v0 0 (.int (0 : Int32))).bind fun w1 =>
  (pV w1 9 v0 1 (.int (0 : Int32))).bind fun w2 =>
  (pV w2 9 v0 2 (.int (0 : Int32))).bind fun w3 =>
  (pV w3 9 v0 3 (.int (0 : Int32))).bind fun w4 =>
  (pV w4 9 v0 4 (.int (0 : Int32))).bind fun w5 =>
  bnd (0 : Int32) fun x6 =>
  bnd (0 : Int32) fun x7 =>
  bnd (0 : Int32) fun x8 =>
  bnd (1 : Int32) fun x9 =>
  (gI w5 0 v1 1).bind fun x10 =>
  (gI w5 0 v2 1).bind fun x11 =>
  bnd (x10 + x11) fun x12 =>
  f_X9_weave_47 fu fu w5 v0 v1 v2 x6 x7 x8 x9 x12
def f_X7_whyNotMelt (w : MW) (v0 : Nat) (v1 : Nat) (v2 : Nat) : Option Int32 :=
  (gI w 0 v1 1).bind fun x1 =>
  if x1 = 0 then
    some (-2 : Int32)
  else
    (gI w 9 v2 4).bind fun x2 =>
    if x2 ≤ (60 : Int32) then
      some (0 : Int32)
    else
      some (-4 : Int32)
def f_X7_meltTo (fu : Nat) (w : MW) (v0 : Nat) (v1 : Int32) (v2 : Int32) : Option (Int32 × MW) :=
  (cl w 7 v0 (f_X7_heapAt w v0 v1)).bind fun q1 =>
  match q1 with
  | none =>
    (cl w 7 v0 (f_X7_heapAt w v0 v2)).bind fun q5 =>
    match q5 with
    | none =>
      some ((-1 : Int32), w)
    | some b8 =>
      some ((-1 : Int32), w)
  | some b4 =>
    (cl w 7 v0 (f_X7_heapAt w v0 v2)).bind fun q9 =>
    match q9 with
    | none =>
      some ((-1 : Int32), w)
    | some b12 =>
      if v1 = v2 then
        some ((-1 : Int32), w)
      else
        (gR w 7 v0 2).bind fun x13 =>
        (cl w 9 x13 (f_X9_weave fu w x13 b4 b12)).bind fun q14 =>
        (gR q14 7 v0 2).bind fun x17 =>
        (cl q14 7 v0 (f_X7_whyNotMelt q14 v0 b12 x17)).bind fun q18 =>
        bnd q18 fun x21 =>
        if x21 = 0 then
          (gR q14 7 v0 2).bind fun x22 =>
          (gI q14 9 x22 4).bind fun x23 =>
          (cl q14 0 b4 (f_X0_absorb fu q14 b4 b12 x23)).bind fun q24 =>
          (gR q24 7 v0 2).bind fun x27 =>
          (gI q24 9 x27 2).bind fun x28 =>
          some (x28, q24)
        else
          some (x21, q14)
def f_X7_shiftBy (fu : Nat) (w : MW) (v0 : Nat) (v1 : Int32) (v2 : Int32) : Option (Int32 × MW) :=
  (cl w 7 v0 (f_X7_heapAt w v0 v1)).bind fun q1 =>
  match q1 with
  | none =>
    some ((-1 : Int32), w)
  | some b4 =>
    if v2 < (-9999 : Int32) then
      some ((-1 : Int32), w)
    else
      if v2 ≤ (9999 : Int32) then
        if v2 = 0 then
          some ((-2 : Int32), w)
        else
          (gI w 0 b4 1).bind fun x5 =>
          if x5 = 0 then
            some ((-2 : Int32), w)
          else
            (cl w 0 b4 (f_X0_keyAt w b4 (0 : Int32))).bind fun q6 =>
            if (f_X10_isKey (q6 + v2)) = 0 then
              some ((-3 : Int32), w)
            else
              (gI w 0 b4 1).bind fun x9 =>
              (cl w 0 b4 (f_X0_keyAt w b4 (x9 - (1 : Int32)))).bind fun q10 =>
              if (f_X10_isKey (q10 + v2)) = 0 then
                some ((-3 : Int32), w)
              else
                (cl w 0 b4 (f_X0_shiftAll fu w b4 v2)).bind fun q13 =>
                (gI q13 0 b4 1).bind fun x16 =>
                some (x16, q13)
      else
        some ((-1 : Int32), w)
def f_X7_moveStretch (fu : Nat) (w : MW) (v0 : Nat) (v1 : Int32) (v2 : Int32) (v3 : Int32) (v4 : Int32) : Option (Int32 × MW) :=
  (cl w 7 v0 (f_X7_heapAt w v0 v1)).bind fun q1 =>
  match q1 with
  | none =>
    (cl w 7 v0 (f_X7_heapAt w v0 v4)).bind fun q5 =>
    match q5 with
    | none =>
      some ((-1 : Int32), w)
    | some b8 =>
      some ((-1 : Int32), w)
  | some b4 =>
    (cl w 7 v0 (f_X7_heapAt w v0 v4)).bind fun q9 =>
    match q9 with
    | none =>
      some ((-1 : Int32), w)
    | some b12 =>
      if v1 = v4 then
        some ((-1 : Int32), w)
      else
        if (f_X10_isKey v2) = 0 then
          some ((-1 : Int32), w)
        else
          if (f_X10_isKey v3) = 0 then
            some ((-1 : Int32), w)
          else
            (cl w 0 b4 (f_X0_howManyBetween fu w b4 v2 v3)).bind fun q13 =>
            bnd q13 fun x16 =>
            if x16 = 0 then
              some ((-2 : Int32), w)
            else
              (cl w 0 b4 (f_X0_below fu w b4 v2)).bind fun q17 =>
              bnd q17 fun x20 =>
              (cl w 0 b4 (f_X0_keyAt w b4 x20)).bind fun q21 =>
              (cl w 0 b4 (f_X0_keyAt w b4 ((x20 + x16) - (1 : Int32)))).bind fun q24 =>
              (cl w 0 b12 (f_X0_howManyBetween fu w b12 q21 q24)).bind fun q27 =>
              if q27 ≤ 0 then
                (gI w 0 b12 1).bind fun x30 =>
                if (x30 + x16) ≤ (60 : Int32) then
                  (cl w 0 b4 (f_X0_giveStretch fu w b4 x20 x16 b12)).bind fun q31 =>
                  some (x16, q31)
                else
                  some ((-4 : Int32), w)
              else
                some ((-3 : Int32), w)
def f_X5_act (fu : Nat) (w : MW) (v0 : Nat) (v1 : Int32) : Option (Int32 × MW) :=
  if v1 = 1 then
    (gR w 5 v0 1).bind fun x2 =>
    (gR w 5 v0 2).bind fun x3 =>
    (aI w .int x3 (0 : Int32)).bind fun x4 =>
    (gR w 5 v0 2).bind fun x5 =>
    (aI w .int x5 (1 : Int32)).bind fun x6 =>
    (gR w 5 v0 2).bind fun x7 =>
    (aI w .int x7 (2 : Int32)).bind fun x8 =>
    (cl w 7 x2 (f_X7_markStretch fu w x2 x4 x6 x8 (1 : Int32))).bind fun q9 =>
    some (q9.1, q9.2)
  else if v1 = 2 then
    (gR w 5 v0 1).bind fun x13 =>
    (gR w 5 v0 2).bind fun x14 =>
    (aI w .int x14 (0 : Int32)).bind fun x15 =>
    (gR w 5 v0 2).bind fun x16 =>
    (aI w .int x16 (1 : Int32)).bind fun x17 =>
    (gR w 5 v0 2).bind fun x18 =>
    (aI w .int x18 (2 : Int32)).bind fun x19 =>
    (cl w 7 x13 (f_X7_cutAbove fu w x13 x15 x17 x19)).bind fun q20 =>
    some (q20.1, q20.2)
  else if v1 = 3 then
    (gR w 5 v0 1).bind fun x24 =>
    (gR w 5 v0 2).bind fun x25 =>
    (aI w .int x25 (0 : Int32)).bind fun x26 =>
    (gR w 5 v0 2).bind fun x27 =>
    (aI w .int x27 (1 : Int32)).bind fun x28 =>
    (cl w 7 x24 (f_X7_joinTo fu w x24 x26 x28)).bind fun q29 =>
    some (q29.1, q29.2)
  else if v1 = 4 then
    (gR w 5 v0 1).bind fun x33 =>
    (gR w 5 v0 2).bind fun x34 =>
    (aI w .int x34 (0 : Int32)).bind fun x35 =>
    (gR w 5 v0 2).bind fun x36 =>
    (aI w .int x36 (1 : Int32)).bind fun x37 =>
    (cl w 7 x33 (f_X7_meltTo fu w x33 x35 x37)).bind fun q38 =>
    some (q38.1, q38.2)
  else if v1 = 5 then
    (gR w 5 v0 1).bind fun x42 =>
    (gR w 5 v0 2).bind fun x43 =>
    (aI w .int x43 (0 : Int32)).bind fun x44 =>
    (gR w 5 v0 2).bind fun x45 =>
    (aI w .int x45 (1 : Int32)).bind fun x46 =>
    (cl w 7 x42 (f_X7_shiftBy fu w x42 x44 x46)).bind fun q47 =>
    some (q47.1, q47.2)
  else if v1 = 6 then
    (gR w 5 v0 1).bind fun x51 =>
    (gR w 5 v0 2).bind fun x52 =>
    (aI w .int x52 (0 : Int32)).bind fun x53 =>
    (gR w 5 v0 2).bind fun x54 =>
    (aI w .int x54 (1 : Int32)).bind fun x55 =>
    (gR w 5 v0 2).bind fun x56 =>
    (aI w .int x56 (2 : Int32)).bind fun x57 =>
    (gR w 5 v0 2).bind fun x58 =>
    (aI w .int x58 (3 : Int32)).bind fun x59 =>
    (cl w 7 x51 (f_X7_moveStretch fu w x51 x53 x55 x57 x59)).bind fun q60 =>
    some (q60.1, q60.2)
  else 
    some ((0 : Int32), w)
def f_X5_doLine_176 (fu : Nat) (w : MW) (v0 : Nat) : Option MW :=
  (cl w 5 v0 (f_X5_advance fu w v0)).bind fun q13 =>
  some q13
def f_X5_doLine_155 (fu : Nat) (w : MW) (v0 : Nat) (v1 : Int32) (v2 : Int32) : Option MW :=
  (gI w 5 v0 7).bind fun x12 =>
  if x12 = 0 then
    (cl w 5 v0 (f_X5_act fu w v0 v2)).bind fun q16 =>
    if 0 ≤ q16.1 then
      f_X5_doLine_176 fu q16.2 v0
    else
      (cl q16.2 5 v0 (f_X5_fail q16.2 v0 (4 : Int32) v1)).bind fun q19 =>
      f_X5_doLine_176 fu q19 v0
  else
    f_X5_doLine_176 fu w v0
def f_X5_doLine_137 (fu : Nat) (w : MW) (v0 : Nat) (v1 : Int32) (v2 : Int32) : Option MW :=
  (gI w 5 v0 4).bind fun x11 =>
  if x11 = (59 : Int32) then
    f_X5_doLine_155 fu w v0 v1 v2
  else
    (gI w 5 v0 5).bind fun x22 =>
    (cl w 5 v0 (f_X5_fail w v0 (1 : Int32) x22)).bind fun q23 =>
    f_X5_doLine_155 fu q23 v0 v1 v2
def f_X5_doLine_94 (fu : Nat) : Nat → MW → Nat → Int32 → Int32 → Int32 → Option MW
  | 0, _, _, _, _, _ => none
  | n + 1, w, v0, v1, v2, v4 =>
    if (800 : Int32) ≤ v4 then
      f_X5_doLine_137 fu w v0 v1 v2
    else
      if v2 = 0 then
        (gI w 5 v0 7).bind fun x26 =>
        if x26 = 0 then
          (gI w 5 v0 4).bind fun x27 =>
          if x27 = (3 : Int32) then
            (gR w 5 v0 2).bind fun x28 =>
            (aI w .int x28 (0 : Int32)).bind fun x29 =>
            (cl w 5 v0 (f_X5_putItem fu w v0 x29)).bind fun q30 =>
            bnd (v4 + 1) fun x33 =>
            (f_X5_doLine_94 fu n) q30 v0 v1 v2 x33
          else
            f_X5_doLine_137 fu w v0 v1 v2
        else
          f_X5_doLine_137 fu w v0 v1 v2
      else
        f_X5_doLine_137 fu w v0 v1 v2
def f_X5_doLine_49 (fu : Nat) : Nat → MW → Nat → Int32 → Int32 → Nat → Int32 → Option MW
  | 0, _, _, _, _, _, _ => none
  | n + 1, w, v0, v1, v2, v3, v4 =>
    (stL v3).bind fun x9 =>
    if x9 ≤ v4 then
      bnd (0 : Int32) fun x10 =>
      f_X5_doLine_94 fu fu w v0 v1 v2 x10
    else
      (gR w 5 v0 2).bind fun x34 =>
      (aL w .int x34).bind fun x35 =>
      if x35 ≤ v4 then
        bnd (0 : Int32) fun x36 =>
        f_X5_doLine_94 fu fu w v0 v1 v2 x36
      else
        (gR w 5 v0 2).bind fun x37 =>
        (stC v3 v4).bind fun x38 =>
        (cl w 5 v0 (f_X5_takeArgument fu w v0 x38)).bind fun q39 =>
        (sI q39.2 .int x37 v4 q39.1).bind fun w42 =>
        bnd (v4 + 1) fun x43 =>
        (f_X5_doLine_49 fu n) w42 v0 v1 v2 v3 x43
def f_X5_doLine_21 (fu : Nat) (w : MW) (v0 : Nat) (v1 : Int32) (s0 : Int32) : Option MW :=
  bnd s0 fun x4 =>
  if x4 = (-1 : Int32) then
    (gI w 5 v0 5).bind fun x44 =>
    (cl w 5 v0 (f_X5_fail w v0 (1 : Int32) x44)).bind fun q45 =>
    some q45
  else
    (cl w 5 v0 (f_X5_advance fu w v0)).bind fun q5 =>
    bnd (0 : Int32) fun x8 =>
    f_X5_doLine_49 fu fu q5 v0 v1 x4 (f_X5_shapeOf x4) x8
def f_X5_doLine (fu : Nat) (w : MW) (v0 : Nat) : Option MW :=
  (gI w 5 v0 5).bind fun x1 =>
  bnd x1 fun x2 =>
  (gI w 5 v0 4).bind fun x3 =>
  if x3 = (2 : Int32) then
    (cl w 5 v0 (f_X5_lineHere fu w v0)).bind fun q48 =>
    f_X5_doLine_21 fu w v0 x2 q48
  else
    f_X5_doLine_21 fu w v0 x2 (-1 : Int32)
def f_X5_perform_21 (fu : Nat) : Nat → MW → Nat → Int32 → Option MW
  | 0, _, _, _ => none
  | n + 1, w, v0, v1 =>
    if (800 : Int32) ≤ v1 then
      some w
    else
      (gI w 5 v0 7).bind fun x8 =>
      if x8 = 0 then
        (gI w 5 v0 4).bind fun x9 =>
        if x9 = 0 then
          some w
        else
          (cl w 5 v0 (f_X5_doLine fu w v0)).bind fun q10 =>
          bnd (v1 + 1) fun x13 =>
          (f_X5_perform_21 fu n) q10 v0 x13
      else
        some w
def f_X5_perform (fu : Nat) (w : MW) (v0 : Nat) : Option MW :=
  (pV w 5 v0 3 (.int (0 : Int32))).bind fun w1 =>
  (pV w1 5 v0 7 (.int (0 : Int32))).bind fun w2 =>
  (pV w2 5 v0 8 (.int (-1 : Int32))).bind fun w3 =>
  (cl w3 5 v0 (f_X5_advance fu w3 v0)).bind fun q4 =>
  bnd (0 : Int32) fun x7 =>
  f_X5_perform_21 fu fu q4 v0 x7
noncomputable def f_X8_init (w0 : MW) (v0 : Nat) : Option MW :=
  (nwC w0.length w0 [.ref v0, .ref v0] (.inl (.int, 61, .inl (fun _ => 0)))).bind fun w1 =>
  (pV w1 8 v0 0 (.ref w0.length)).bind fun w2 =>
  (nwC w0.length w2 [.ref v0, .ref v0] (.inl (.int, 61, .inl (fun _ => 0)))).bind fun w3 =>
  (pV w3 8 v0 1 (.ref w2.length)).bind fun w4 =>
  (nwC w0.length w4 [.ref v0, .ref v0] (.inl (.int, 61, .inl (fun _ => 0)))).bind fun w5 =>
  (pV w5 8 v0 2 (.ref w4.length)).bind fun w6 =>
  (nwC w0.length w6 [.ref v0, .ref v0] (.inl (.int, 61, .inl (fun _ => 0)))).bind fun w7 =>
  (pV w7 8 v0 3 (.ref w6.length)).bind fun w8 =>
  (nwC w0.length w8 [.ref v0, .ref v0] (.inl (.int, 61, .inl (fun _ => 0)))).bind fun w9 =>
  (pV w9 8 v0 4 (.ref w8.length)).bind fun w10 =>
  (nwC w0.length w10 [.ref v0, .ref v0] (.inl (.int, 61, .inl (fun _ => 0)))).bind fun w11 =>
  (pV w11 8 v0 5 (.ref w10.length)).bind fun w12 =>
  (nwC w0.length w12 [.ref v0, .ref v0] (.inl (.int, 61, .inl (fun _ => 0)))).bind fun w13 =>
  (pV w13 8 v0 6 (.ref w12.length)).bind fun w14 =>
  (pV w14 8 v0 7 (.int (0 : Int32))).bind fun w15 =>
  (pV w15 8 v0 8 (.int (-1 : Int32))).bind fun w16 =>
  some w16
def f_X9_init (w : MW) (v0 : Nat) : Option MW :=
  some w
noncomputable def f_X7_init (w0 : MW) (v0 : Nat) : Option MW :=
  (nwC w0.length w0 [.ref v0, .ref v0] (.inl (.object RX0, 8, .inr (.inr (.inr (.inr (fun _ => none))))))).bind fun w1 =>
  (pV w1 7 v0 0 (.ref w0.length)).bind fun w2 =>
  (nwC w0.length w2 [.ref v0, .ref v0] (.inr (8, [.null, .null, .null, .null, .null, .null, .null, .int 0, .int 0]))).bind fun w3 =>
  (clA w0.length w3 8 w2.length [.ref v0, .ref w2.length, .ref v0] (f_X8_init w3 w2.length)).bind fun q4 =>
  (pV q4 7 v0 1 (.ref w2.length)).bind fun w7 =>
  (nwC w0.length w7 [.ref v0, .ref v0] (.inr (9, [.int 0, .int 0, .int 0, .int 0, .int 0]))).bind fun w8 =>
  (cl w8 9 w7.length (f_X9_init w8 w7.length)).bind fun q9 =>
  (pV q9 7 v0 2 (.ref w7.length)).bind fun w12 =>
  (nwC w0.length w12 [.ref v0, .ref v0] (.inl (.int, 8, .inl (fun _ => 0)))).bind fun w13 =>
  (pV w13 7 v0 4 (.ref w12.length)).bind fun w14 =>
  (pV w14 7 v0 5 (.int (-1 : Int32))).bind fun w15 =>
  (pV w15 7 v0 6 (.int (-1 : Int32))).bind fun w16 =>
  (pV w16 7 v0 7 (.int (-1 : Int32))).bind fun w17 =>
  (gR w17 7 v0 0).bind fun x18 =>
  (nwC w0.length w17 [.int (0 : Int32), .ref v0, .int (0 : Int32), .ref x18] (.inr (0, [.null, .int 0, .int 0]))).bind fun w19 =>
  (clA w0.length w19 0 w17.length [.int (0 : Int32), .ref v0, .ref w17.length, .int (0 : Int32), .ref x18] (f_X0_init w19 w17.length)).bind fun q20 =>
  (sR q20 RX0 0 x18 (0 : Int32) w17.length).bind fun w23 =>
  (gR w23 7 v0 0).bind fun x24 =>
  (nwC w0.length w23 [.int (1 : Int32), .ref v0, .int (1 : Int32), .ref x24] (.inr (0, [.null, .int 0, .int 0]))).bind fun w25 =>
  (clA w0.length w25 0 w23.length [.int (1 : Int32), .ref v0, .ref w23.length, .int (1 : Int32), .ref x24] (f_X0_init w25 w23.length)).bind fun q26 =>
  (sR q26 RX0 0 x24 (1 : Int32) w23.length).bind fun w29 =>
  (gR w29 7 v0 0).bind fun x30 =>
  (nwC w0.length w29 [.int (2 : Int32), .ref v0, .int (2 : Int32), .ref x30] (.inr (0, [.null, .int 0, .int 0]))).bind fun w31 =>
  (clA w0.length w31 0 w29.length [.int (2 : Int32), .ref v0, .ref w29.length, .int (2 : Int32), .ref x30] (f_X0_init w31 w29.length)).bind fun q32 =>
  (sR q32 RX0 0 x30 (2 : Int32) w29.length).bind fun w35 =>
  (gR w35 7 v0 0).bind fun x36 =>
  (nwC w0.length w35 [.int (3 : Int32), .ref v0, .int (3 : Int32), .ref x36] (.inr (0, [.null, .int 0, .int 0]))).bind fun w37 =>
  (clA w0.length w37 0 w35.length [.int (3 : Int32), .ref v0, .ref w35.length, .int (3 : Int32), .ref x36] (f_X0_init w37 w35.length)).bind fun q38 =>
  (sR q38 RX0 0 x36 (3 : Int32) w35.length).bind fun w41 =>
  (gR w41 7 v0 0).bind fun x42 =>
  (nwC w0.length w41 [.int (4 : Int32), .ref v0, .int (4 : Int32), .ref x42] (.inr (0, [.null, .int 0, .int 0]))).bind fun w43 =>
  (clA w0.length w43 0 w41.length [.int (4 : Int32), .ref v0, .ref w41.length, .int (4 : Int32), .ref x42] (f_X0_init w43 w41.length)).bind fun q44 =>
  (sR q44 RX0 0 x42 (4 : Int32) w41.length).bind fun w47 =>
  (gR w47 7 v0 0).bind fun x48 =>
  (nwC w0.length w47 [.int (5 : Int32), .ref v0, .int (5 : Int32), .ref x48] (.inr (0, [.null, .int 0, .int 0]))).bind fun w49 =>
  (clA w0.length w49 0 w47.length [.int (5 : Int32), .ref v0, .ref w47.length, .int (5 : Int32), .ref x48] (f_X0_init w49 w47.length)).bind fun q50 =>
  (sR q50 RX0 0 x48 (5 : Int32) w47.length).bind fun w53 =>
  (gR w53 7 v0 0).bind fun x54 =>
  (nwC w0.length w53 [.int (6 : Int32), .ref v0, .int (6 : Int32), .ref x54] (.inr (0, [.null, .int 0, .int 0]))).bind fun w55 =>
  (clA w0.length w55 0 w53.length [.int (6 : Int32), .ref v0, .ref w53.length, .int (6 : Int32), .ref x54] (f_X0_init w55 w53.length)).bind fun q56 =>
  (sR q56 RX0 0 x54 (6 : Int32) w53.length).bind fun w59 =>
  (gR w59 7 v0 0).bind fun x60 =>
  (nwC w0.length w59 [.int (7 : Int32), .ref v0, .int (7 : Int32), .ref x60] (.inr (0, [.null, .int 0, .int 0]))).bind fun w61 =>
  (clA w0.length w61 0 w59.length [.int (7 : Int32), .ref v0, .ref w59.length, .int (7 : Int32), .ref x60] (f_X0_init w61 w59.length)).bind fun q62 =>
  (sR q62 RX0 0 x60 (7 : Int32) w59.length).bind fun w65 =>
  (nwC w0.length w65 [.int (8 : Int32), .ref v0, .ref v0] (.inr (2, [.null, .null]))).bind fun w66 =>
  (gR w66 7 v0 0).bind fun x67 =>
  (clA w0.length w66 2 w65.length [.int (8 : Int32), .ref v0, .ref w65.length, .ref v0] (f_X2_init w66 w65.length x67)).bind fun q68 =>
  (pV q68 7 v0 3 (.ref w65.length)).bind fun w71 =>
  some w71
def f_X7_empty_2 (fu : Nat) : Nat → MW → Nat → Int32 → Option MW
  | 0, _, _, _ => none
  | n + 1, w, v0, v1 =>
    if (8 : Int32) ≤ v1 then
      some w
    else
      (gR w 7 v0 0).bind fun x2 =>
      (aRn w (.object RX0) x2 v1).bind fun x3 =>
      (cl w 0 x3 (f_X0_empty w x3)).bind fun q4 =>
      bnd (v1 + 1) fun x7 =>
      (f_X7_empty_2 fu n) q4 v0 x7
def f_X7_empty (fu : Nat) (w : MW) (v0 : Nat) : Option MW :=
  bnd (0 : Int32) fun x1 =>
  f_X7_empty_2 fu fu w v0 x1
def f_X8_addKey (w : MW) (v0 : Nat) (v1 : Int32) : Option MW :=
  (gI w 8 v0 7).bind fun x1 =>
  if x1 < 0 then
    some w
  else
    (gI w 8 v0 7).bind fun x2 =>
    if (61 : Int32) ≤ x2 then
      some w
    else
      (gR w 8 v0 0).bind fun x3 =>
      (gI w 8 v0 7).bind fun x4 =>
      (sI w .int x3 x4 v1).bind fun w5 =>
      (gI w5 8 v0 7).bind fun x6 =>
      (pV w5 8 v0 7 (.int (x6 + (1 : Int32)))).bind fun w7 =>
      some w7
def f_X10_priority (v0 : Int32) : Int32 :=
  (((v0 * (40503 : Int32)) + (9973 : Int32)) &&& (65535 : Int32))
def f_X8_link_159 (fu : Nat) (w : MW) (s0 : Nat) (s1 : Int32) : Option MW :=
  (pV w 8 s0 8 (.int s1)).bind fun w5 =>
  some w5
def f_X8_link_125 (fu : Nat) (lr4 : MW → Nat → Int32 → Int32 → Option MW) (w : MW) (v0 : Nat) (v1 : Int32) (v2 : Int32) : Option MW :=
  (gR w 8 v0 6).bind fun x15 =>
  (sI w .int x15 v1 v2).bind fun w16 =>
  bnd (v1 + 1) fun x17 =>
  bnd (v2 + 1) fun x18 =>
  lr4 w16 v0 x17 x18
def f_X8_link_107 (fu : Nat) (lr4 : MW → Nat → Int32 → Int32 → Option MW) (w : MW) (v0 : Nat) (v1 : Int32) (v2 : Int32) : Option MW :=
  if v1 ≤ 0 then
    f_X8_link_125 fu lr4 w v0 v1 v2
  else
    (gR w 8 v0 3).bind fun x19 =>
    (gR w 8 v0 6).bind fun x20 =>
    (aI w .int x20 (v1 - (1 : Int32))).bind fun x21 =>
    (sI w .int x19 x21 v2).bind fun w22 =>
    f_X8_link_125 fu lr4 w22 v0 v1 v2
def f_X8_link_94 (fu : Nat) (lr4 : MW → Nat → Int32 → Int32 → Option MW) (w : MW) (v0 : Nat) (v1 : Int32) (v2 : Int32) (v3 : Int32) (s0 : Nat) (s1 : Int32) (s2 : Int32) : Option MW :=
  (sI w .int s0 s1 s2).bind fun w14 =>
  if v3 = (-1 : Int32) then
    f_X8_link_107 fu lr4 w14 v0 v1 v2
  else
    (gR w14 8 v0 1).bind fun x23 =>
    (sI w14 .int x23 v3 v2).bind fun w24 =>
    f_X8_link_107 fu lr4 w24 v0 v1 v2
def f_X8_link_59 (fu : Nat) (lr4 : MW → Nat → Int32 → Int32 → Option MW) (w : MW) (v0 : Nat) (v1 : Int32) (v2 : Int32) (v3 : Int32) : Option MW :=
  (gR w 8 v0 2).bind fun x9 =>
  (sI w .int x9 v2 v3).bind fun w10 =>
  (gR w10 8 v0 3).bind fun x11 =>
  (sI w10 .int x11 v2 (-1 : Int32)).bind fun w12 =>
  (gR w12 8 v0 1).bind fun x13 =>
  if v1 ≤ 0 then
    f_X8_link_94 fu lr4 w12 v0 v1 v2 v3 x13 v2 (-1 : Int32)
  else
    (gR w12 8 v0 6).bind fun x25 =>
    (aI w12 .int x25 (v1 - (1 : Int32))).bind fun x26 =>
    f_X8_link_94 fu lr4 w12 v0 v1 v2 v3 x13 v2 x26
def f_X8_link_14 (fu : Nat) (lr4 : MW → Nat → Int32 → Int32 → Option MW) : Nat → MW → Nat → Int32 → Int32 → Int32 → Option MW
  | 0, _, _, _, _, _ => none
  | n + 1, w, v0, v1, v2, v3 =>
    if v1 ≤ 0 then
      f_X8_link_59 fu lr4 w v0 v1 v2 v3
    else
      (gR w 8 v0 0).bind fun x27 =>
      (gR w 8 v0 6).bind fun x28 =>
      (aI w .int x28 (v1 - (1 : Int32))).bind fun x29 =>
      (aI w .int x27 x29).bind fun x30 =>
      (gR w 8 v0 0).bind fun x31 =>
      (aI w .int x31 v2).bind fun x32 =>
      if (f_X10_priority x32) ≤ (f_X10_priority x30) then
        f_X8_link_59 fu lr4 w v0 v1 v2 v3
      else
        bnd (v1 + (-1)) fun x33 =>
        (gR w 8 v0 6).bind fun x34 =>
        (aI w .int x34 x33).bind fun x35 =>
        bnd x35 fun x36 =>
        (f_X8_link_14 fu lr4 n) w v0 x33 v2 x36
def f_X8_link_4 (fu : Nat) : Nat → MW → Nat → Int32 → Int32 → Option MW
  | 0, _, _, _, _ => none
  | n + 1, w, v0, v1, v2 =>
    (gI w 8 v0 7).bind fun x3 =>
    if x3 ≤ v2 then
      (gI w 8 v0 7).bind fun x4 =>
      if x4 ≤ 0 then
        f_X8_link_159 fu w v0 (-1 : Int32)
      else
        (gR w 8 v0 6).bind fun x6 =>
        (aI w .int x6 (0 : Int32)).bind fun x7 =>
        f_X8_link_159 fu w v0 x7
    else
      bnd (-1 : Int32) fun x8 =>
      f_X8_link_14 fu (f_X8_link_4 fu n) fu w v0 v1 v2 x8
def f_X8_link (fu : Nat) (w : MW) (v0 : Nat) : Option MW :=
  bnd (0 : Int32) fun x1 =>
  bnd (0 : Int32) fun x2 =>
  f_X8_link_4 fu fu w v0 x1 x2
def f_X8_climb_95 (fu : Nat) (lr32 : MW → Nat → Int32 → Option MW) (w : MW) (v0 : Nat) (v1 : Int32) : Option MW :=
  bnd (v1 + 1) fun x10 =>
  lr32 w v0 x10
def f_X8_climb_49 (fu : Nat) (lr32 : MW → Nat → Int32 → Option MW) : Nat → MW → Nat → Int32 → Int32 → Int32 → Option MW
  | 0, _, _, _, _, _ => none
  | n + 1, w, v0, v1, v2, v3 =>
    (gI w 8 v0 7).bind fun x9 =>
    if x9 ≤ v3 then
      f_X8_climb_95 fu lr32 w v0 v1
    else
      if v2 = (-1 : Int32) then
        f_X8_climb_95 fu lr32 w v0 v1
      else
        (gR w 8 v0 4).bind fun x11 =>
        (aI w .int x11 v1).bind fun x12 =>
        (sI w .int x11 v1 (x12 + (1 : Int32))).bind fun w13 =>
        (gR w13 8 v0 5).bind fun x14 =>
        (aI w13 .int x14 v2).bind fun x15 =>
        (sI w13 .int x14 v2 (x15 + (1 : Int32))).bind fun w16 =>
        (gR w16 8 v0 1).bind fun x17 =>
        (aI w16 .int x17 v2).bind fun x18 =>
        bnd x18 fun x19 =>
        bnd (v3 + 1) fun x20 =>
        (f_X8_climb_49 fu lr32 n) w16 v0 v1 x19 x20
def f_X8_climb_32 (fu : Nat) : Nat → MW → Nat → Int32 → Option MW
  | 0, _, _, _ => none
  | n + 1, w, v0, v1 =>
    (gI w 8 v0 7).bind fun x4 =>
    if x4 ≤ v1 then
      some w
    else
      (gR w 8 v0 1).bind fun x5 =>
      (aI w .int x5 v1).bind fun x6 =>
      bnd x6 fun x7 =>
      bnd (0 : Int32) fun x8 =>
      f_X8_climb_49 fu (f_X8_climb_32 fu n) fu w v0 v1 x7 x8
def f_X8_climb_2 (fu : Nat) : Nat → MW → Nat → Int32 → Option MW
  | 0, _, _, _ => none
  | n + 1, w, v0, v1 =>
    (gI w 8 v0 7).bind fun x2 =>
    if x2 ≤ v1 then
      bnd (0 : Int32) fun x3 =>
      f_X8_climb_32 fu fu w v0 x3
    else
      (gR w 8 v0 4).bind fun x21 =>
      (sI w .int x21 v1 (0 : Int32)).bind fun w22 =>
      (gR w22 8 v0 5).bind fun x23 =>
      (sI w22 .int x23 v1 (0 : Int32)).bind fun w24 =>
      bnd (v1 + 1) fun x25 =>
      (f_X8_climb_2 fu n) w24 v0 x25
def f_X8_climb (fu : Nat) (w : MW) (v0 : Nat) : Option MW :=
  bnd (0 : Int32) fun x1 =>
  f_X8_climb_2 fu fu w v0 x1
def f_X8_grow_84 (fu : Nat) (w : MW) (v0 : Nat) : Option MW :=
  (cl w 8 v0 (f_X8_link fu w v0)).bind fun q5 =>
  (cl q5 8 v0 (f_X8_climb fu q5 v0)).bind fun q8 =>
  some q8
def f_X8_grow_68 (fu : Nat) (lr20 : MW → Nat → Nat → Int32 → Int32 → Int32 → Int32 → Option MW) (w : MW) (v0 : Nat) (v1 : Nat) (v2 : Int32) (v3 : Int32) (v4 : Int32) (v5 : Int32) : Option MW :=
  bnd (v5 + 1) fun x18 =>
  lr20 w v0 v1 v2 v3 v4 x18
def f_X8_grow_56 (fu : Nat) (lr20 : MW → Nat → Nat → Int32 → Int32 → Int32 → Int32 → Option MW) (w : MW) (v0 : Nat) (v1 : Nat) (v2 : Int32) (v3 : Int32) (v4 : Int32) (v5 : Int32) (v6 : Int32) : Option MW :=
  if v6 = v3 then
    f_X8_grow_68 fu lr20 w v0 v1 v2 v3 v4 v5
  else
    (cl w 8 v0 (f_X8_addKey w v0 v6)).bind fun q19 =>
    f_X8_grow_68 fu lr20 q19 v0 v1 v2 v3 v4 v5
def f_X8_grow_20 (fu : Nat) : Nat → MW → Nat → Nat → Int32 → Int32 → Int32 → Int32 → Option MW
  | 0, _, _, _, _, _, _, _ => none
  | n + 1, w, v0, v1, v2, v3, v4, v5 =>
    (gI w 0 v1 1).bind fun x4 =>
    if x4 ≤ v5 then
      if v4 = 0 then
        f_X8_grow_84 fu w v0
      else
        (cl w 8 v0 (f_X8_addKey w v0 v2)).bind fun q11 =>
        f_X8_grow_84 fu q11 v0
    else
      (cl w 0 v1 (f_X0_keyAt w v1 v5)).bind fun q14 =>
      bnd q14 fun x17 =>
      if v4 = 0 then
        f_X8_grow_56 fu (f_X8_grow_20 fu n) w v0 v1 v2 v3 v4 v5 x17
      else
        if x17 ≤ v2 then
          f_X8_grow_56 fu (f_X8_grow_20 fu n) w v0 v1 v2 v3 v4 v5 x17
        else
          (cl w 8 v0 (f_X8_addKey w v0 v2)).bind fun q22 =>
          bnd (0 : Int32) fun x25 =>
          f_X8_grow_56 fu (f_X8_grow_20 fu n) q22 v0 v1 v2 v3 x25 v5 x17
def f_X8_grow (fu : Nat) (w : MW) (v0 : Nat) (v1 : Nat) (v2 : Int32) (v3 : Int32) : Option MW :=
  (pV w 8 v0 7 (.int (0 : Int32))).bind fun w1 =>
  if v2 = (-1 : Int32) then
    bnd (0 : Int32) fun x2 =>
    bnd (0 : Int32) fun x3 =>
    f_X8_grow_20 fu fu w1 v0 v1 v2 v3 x2 x3
  else
    bnd (1 : Int32) fun x26 =>
    bnd (0 : Int32) fun x27 =>
    f_X8_grow_20 fu fu w1 v0 v1 v2 v3 x26 x27
def f_X7_treeOf (fu : Nat) (w : MW) (v0 : Nat) (v1 : Nat) : Option (Nat × MW) :=
  (gR w 7 v0 1).bind fun x1 =>
  (cl w 8 x1 (f_X8_grow fu w x1 v1 (-1 : Int32) (-1 : Int32))).bind fun q2 =>
  (gR q2 7 v0 1).bind fun x5 =>
  some (x5, q2)
def f_X7_weaveOf (fu : Nat) (w : MW) (v0 : Nat) (v1 : Nat) (v2 : Nat) : Option (Nat × MW) :=
  (gR w 7 v0 2).bind fun x1 =>
  (cl w 9 x1 (f_X9_weave fu w x1 v1 v2)).bind fun q2 =>
  (gR q2 7 v0 2).bind fun x5 =>
  some (x5, q2)
def f_X7_dropKey (fu : Nat) (w : MW) (v0 : Nat) (v1 : Int32) (v2 : Int32) : Option (Int32 × MW) :=
  (cl w 7 v0 (f_X7_heapAt w v0 v1)).bind fun q1 =>
  match q1 with
  | none =>
    some ((-1 : Int32), w)
  | some b4 =>
    if (f_X10_isKey v2) = 0 then
      some ((-1 : Int32), w)
    else
      (cl w 0 b4 (f_X0_rankOf fu w b4 v2)).bind fun q5 =>
      bnd q5 fun x8 =>
      if x8 = (-1 : Int32) then
        some ((-2 : Int32), w)
      else
        (cl w 0 b4 (f_X0_closeGap w b4 x8 (1 : Int32))).bind fun q9 =>
        (gI q9 0 b4 1).bind fun x12 =>
        some (x12, q9)
def f_X8_isNode (w : MW) (v0 : Nat) (v1 : Int32) : Option Int32 :=
  if v1 < 0 then
    some (0 : Int32)
  else
    (gI w 8 v0 7).bind fun x1 =>
    if x1 ≤ v1 then
      some (0 : Int32)
    else
      some (1 : Int32)
def f_X8_steps_39 (fu : Nat) (w : MW) : Nat → Nat → Int32 → Int32 → Int32 → Int32 → Int32 → Option Int32
  | 0, _, _, _, _, _, _ => none
  | n + 1, v0, v1, v2, v3, v4, v5 =>
    if v4 < v5 then
      (gR w 8 v0 4).bind fun x12 =>
      (aI w .int x12 v1).bind fun x13 =>
      (gR w 8 v0 4).bind fun x14 =>
      (aI w .int x14 v2).bind fun x15 =>
      some ((x13 + x15) - ((2 : Int32) * v3))
    else
      (gR w 8 v0 4).bind fun x16 =>
      (aI w .int x16 v5).bind fun x17 =>
      bnd (imin v3 x17) fun x18 =>
      bnd (v5 + 1) fun x19 =>
      (f_X8_steps_39 fu w n) v0 v1 v2 x18 v4 x19
def f_X8_steps (fu : Nat) (w : MW) (v0 : Nat) (v1 : Int32) (v2 : Int32) : Option Int32 :=
  (cl w 8 v0 (f_X8_isNode w v0 v1)).bind fun q1 =>
  if q1 = 0 then
    some (-1 : Int32)
  else
    (cl w 8 v0 (f_X8_isNode w v0 v2)).bind fun q4 =>
    if q4 = 0 then
      some (-1 : Int32)
    else
      (gR w 8 v0 4).bind fun x7 =>
      (aI w .int x7 v1).bind fun x8 =>
      bnd x8 fun x9 =>
      bnd (imax v1 v2) fun x10 =>
      bnd (imin v1 v2) fun x11 =>
      f_X8_steps_39 fu w fu v0 v1 v2 x9 x10 x11
def f_X7_seekFrom_72 (fu : Nat) (w : MW) (v3 : Nat) (v4 : Int32) (s0 : Int32) : Option (Int32 × MW) :=
  bnd s0 fun x21 =>
  (cl w 0 v3 (f_X0_keyAt w v3 v4)).bind fun q22 =>
  (pV w 0 v3 2 (.int q22)).bind fun w25 =>
  some (x21, w25)
def f_X7_seekFrom (fu : Nat) (w : MW) (v0 : Nat) (v1 : Int32) (v2 : Int32) : Option (Int32 × MW) :=
  (cl w 7 v0 (f_X7_heapAt w v0 v1)).bind fun q1 =>
  match q1 with
  | none =>
    some ((-1 : Int32), w)
  | some b4 =>
    if (f_X10_isKey v2) = 0 then
      some ((-1 : Int32), w)
    else
      (gI w 0 b4 1).bind fun x5 =>
      if x5 = 0 then
        some ((-2 : Int32), w)
      else
        (cl w 0 b4 (f_X0_notAbove fu w b4 v2)).bind fun q6 =>
        bnd (imax (0 : Int32) (q6 - (1 : Int32))) fun x9 =>
        (gI w 0 b4 2).bind fun x10 =>
        if x10 = (-1 : Int32) then
          f_X7_seekFrom_72 fu w b4 x9 (0 : Int32)
        else
          (cl w 7 v0 (f_X7_treeOf fu w v0 b4)).bind fun q11 =>
          (gI q11.2 0 b4 2).bind fun x14 =>
          (cl q11.2 0 b4 (f_X0_rankOf fu q11.2 b4 x14)).bind fun q15 =>
          (cl q11.2 8 q11.1 (f_X8_steps fu q11.2 q11.1 q15 x9)).bind fun q18 =>
          f_X7_seekFrom_72 fu q11.2 b4 x9 q18
def f_X7_notEmpty_28 (fu : Nat) (w : MW) (lr4 : Nat → Int32 → Int32 → Option Int32) (v0 : Nat) (v2 : Int32) (s0 : Int32) (s1 : Int32) : Option Int32 :=
  bnd (s0 + s1) fun x6 =>
  bnd (v2 + 1) fun x7 =>
  lr4 v0 x6 x7
def f_X7_notEmpty_4 (fu : Nat) (w : MW) : Nat → Nat → Int32 → Int32 → Option Int32
  | 0, _, _, _ => none
  | n + 1, v0, v1, v2 =>
    if (8 : Int32) ≤ v2 then
      some v1
    else
      (gR w 7 v0 0).bind fun x3 =>
      (aRn w (.object RX0) x3 v2).bind fun x4 =>
      (gI w 0 x4 1).bind fun x5 =>
      if x5 ≤ 0 then
        f_X7_notEmpty_28 fu w (f_X7_notEmpty_4 fu w n) v0 v2 v1 (0 : Int32)
      else
        f_X7_notEmpty_28 fu w (f_X7_notEmpty_4 fu w n) v0 v2 v1 (1 : Int32)
def f_X7_notEmpty (fu : Nat) (w : MW) (v0 : Nat) : Option Int32 :=
  bnd (0 : Int32) fun x1 =>
  bnd (0 : Int32) fun x2 =>
  f_X7_notEmpty_4 fu w fu v0 x1 x2
def f_X7_allMarked_4 (fu : Nat) (w : MW) : Nat → Nat → Int32 → Int32 → Option Int32
  | 0, _, _, _ => none
  | n + 1, v0, v1, v2 =>
    if (8 : Int32) ≤ v2 then
      some v1
    else
      (gR w 7 v0 0).bind fun x3 =>
      (aRn w (.object RX0) x3 v2).bind fun x4 =>
      (cl w 0 x4 (f_X0_markedBetween fu w x4 (0 : Int32) (9999 : Int32))).bind fun q5 =>
      bnd (v1 + q5) fun x8 =>
      bnd (v2 + 1) fun x9 =>
      (f_X7_allMarked_4 fu w n) v0 x8 x9
def f_X7_allMarked (fu : Nat) (w : MW) (v0 : Nat) : Option Int32 :=
  bnd (0 : Int32) fun x1 =>
  bnd (0 : Int32) fun x2 =>
  f_X7_allMarked_4 fu w fu v0 x1 x2
def f_X7_unlike_46 (fu : Nat) (lr19 : MW → Nat → Int32 → Int32 → Int32 → Int32 → Option (Int32 × MW)) (w : MW) (v0 : Nat) (v1 : Int32) (v4 : Int32) (v5 : Int32) (s0 : Int32) (s1 : Int32) : Option (Int32 × MW) :=
  bnd (s0 + s1) fun x17 =>
  bnd v5 fun x18 =>
  bnd (v4 + 1) fun x19 =>
  lr19 w v0 v1 x17 x18 x19
def f_X7_unlike_19 (fu : Nat) : Nat → MW → Nat → Int32 → Int32 → Int32 → Int32 → Option (Int32 × MW)
  | 0, _, _, _, _, _, _ => none
  | n + 1, w, v0, v1, v2, v3, v4 =>
    if v1 ≤ v4 then
      some (v2, w)
    else
      (gR w 7 v0 3).bind fun x12 =>
      (cl w 2 x12 (f_X2_next fu w x12)).bind fun q13 =>
      bnd q13.1 fun x16 =>
      if x16 = v3 then
        f_X7_unlike_46 fu (f_X7_unlike_19 fu n) q13.2 v0 v1 v4 x16 v2 (0 : Int32)
      else
        f_X7_unlike_46 fu (f_X7_unlike_19 fu n) q13.2 v0 v1 v4 x16 v2 (1 : Int32)
def f_X7_unlike (fu : Nat) (w : MW) (v0 : Nat) : Option (Int32 × MW) :=
  (cl w 7 v0 (f_X7_total fu w v0)).bind fun q1 =>
  bnd q1 fun x4 =>
  bnd (0 : Int32) fun x5 =>
  bnd (-1 : Int32) fun x6 =>
  (gR w 7 v0 3).bind fun x7 =>
  (cl w 2 x7 (f_X2_begin fu w x7)).bind fun q8 =>
  bnd (0 : Int32) fun x11 =>
  f_X7_unlike_19 fu fu q8 v0 x4 x5 x6 x11
def f_X7_lightest_46 (fu : Nat) (w : MW) (lr4 : Nat → Int32 → Int32 → Int32 → Option Int32) (v0 : Nat) (v1 : Int32) (v2 : Int32) (v3 : Int32) : Option Int32 :=
  bnd (v3 + 1) fun x3 =>
  lr4 v0 v1 v2 x3
def f_X7_lightest_4 (fu : Nat) (w : MW) : Nat → Nat → Int32 → Int32 → Int32 → Option Int32
  | 0, _, _, _, _ => none
  | n + 1, v0, v1, v2, v3 =>
    if (8 : Int32) ≤ v3 then
      some v2
    else
      if v3 = v1 then
        f_X7_lightest_46 fu w (f_X7_lightest_4 fu w n) v0 v1 v2 v3
      else
        (gR w 7 v0 4).bind fun x4 =>
        (aI w .int x4 v3).bind fun x5 =>
        if x5 ≤ 0 then
          f_X7_lightest_46 fu w (f_X7_lightest_4 fu w n) v0 v1 v2 v3
        else
          if v2 = (-1 : Int32) then
            bnd v3 fun x6 =>
            f_X7_lightest_46 fu w (f_X7_lightest_4 fu w n) v0 v1 x6 v3
          else
            (gR w 7 v0 4).bind fun x7 =>
            (aI w .int x7 v3).bind fun x8 =>
            (gR w 7 v0 4).bind fun x9 =>
            (aI w .int x9 v2).bind fun x10 =>
            if x10 ≤ x8 then
              f_X7_lightest_46 fu w (f_X7_lightest_4 fu w n) v0 v1 v2 v3
            else
              bnd v3 fun x11 =>
              f_X7_lightest_46 fu w (f_X7_lightest_4 fu w n) v0 v1 x11 v3
def f_X7_lightest (fu : Nat) (w : MW) (v0 : Nat) (v1 : Int32) : Option Int32 :=
  bnd (-1 : Int32) fun x1 =>
  bnd (0 : Int32) fun x2 =>
  f_X7_lightest_4 fu w fu v0 v1 x1 x2
def f_X7_huffman_36 (fu : Nat) : Nat → MW → Nat → Int32 → Int32 → Option (Int32 × MW)
  | 0, _, _, _, _ => none
  | n + 1, w, v0, v1, v2 =>
    if v2 ≤ (1 : Int32) then
      some (v1, w)
    else
      (cl w 7 v0 (f_X7_lightest fu w v0 (-1 : Int32))).bind fun q7 =>
      bnd q7 fun x10 =>
      (cl w 7 v0 (f_X7_lightest fu w v0 x10)).bind fun q11 =>
      bnd q11 fun x14 =>
      if x10 = (-1 : Int32) then
        some (v1, w)
      else
        if x14 = (-1 : Int32) then
          some (v1, w)
        else
          (gR w 7 v0 4).bind fun x15 =>
          (aI w .int x15 x10).bind fun x16 =>
          (gR w 7 v0 4).bind fun x17 =>
          (aI w .int x17 x14).bind fun x18 =>
          bnd (x16 + x18) fun x19 =>
          (gR w 7 v0 4).bind fun x20 =>
          (sI w .int x20 (imax x10 x14) (0 : Int32)).bind fun w21 =>
          (gR w21 7 v0 4).bind fun x22 =>
          (sI w21 .int x22 (imin x10 x14) x19).bind fun w23 =>
          bnd (v1 + x19) fun x24 =>
          bnd (v2 + (-1)) fun x25 =>
          (f_X7_huffman_36 fu n) w23 v0 x24 x25
def f_X7_huffman_2 (fu : Nat) : Nat → MW → Nat → Int32 → Option (Int32 × MW)
  | 0, _, _, _ => none
  | n + 1, w, v0, v1 =>
    if (8 : Int32) ≤ v1 then
      bnd (0 : Int32) fun x2 =>
      (cl w 7 v0 (f_X7_notEmpty fu w v0)).bind fun q3 =>
      bnd q3 fun x6 =>
      f_X7_huffman_36 fu fu w v0 x2 x6
    else
      (gR w 7 v0 4).bind fun x26 =>
      (gR w 7 v0 0).bind fun x27 =>
      (aRn w (.object RX0) x27 v1).bind fun x28 =>
      (gI w 0 x28 1).bind fun x29 =>
      (sI w .int x26 v1 x29).bind fun w30 =>
      bnd (v1 + 1) fun x31 =>
      (f_X7_huffman_2 fu n) w30 v0 x31
def f_X7_huffman (fu : Nat) (w : MW) (v0 : Nat) : Option (Int32 × MW) :=
  bnd (0 : Int32) fun x1 =>
  f_X7_huffman_2 fu fu w v0 x1
def f_X7_takeIfCheaper_27 (w : MW) (v0 : Nat) (v1 : Int32) (v2 : Int32) (s0 : Int32) : Option MW :=
  bnd s0 fun x2 =>
  if x2 = 0 then
    some w
  else
    (gR w 7 v0 0).bind fun x3 =>
    (aRn w (.object RX0) x3 v2).bind fun x4 =>
    (gR w 7 v0 2).bind fun x5 =>
    (cl w 7 v0 (f_X7_whyNotMelt w v0 x4 x5)).bind fun q6 =>
    if q6 = 0 then
      (pV w 7 v0 5 (.int v1)).bind fun w9 =>
      (pV w9 7 v0 6 (.int v2)).bind fun w10 =>
      (gR w10 7 v0 2).bind fun x11 =>
      (gI w10 9 x11 2).bind fun x12 =>
      (pV w10 7 v0 7 (.int x12)).bind fun w13 =>
      some w13
    else
      some w
def f_X7_takeIfCheaper (w : MW) (v0 : Nat) (v1 : Int32) (v2 : Int32) : Option MW :=
  (gI w 7 v0 7).bind fun x1 =>
  if x1 = (-1 : Int32) then
    f_X7_takeIfCheaper_27 w v0 v1 v2 (1 : Int32)
  else
    (gR w 7 v0 2).bind fun x14 =>
    (gI w 9 x14 2).bind fun x15 =>
    (gI w 7 v0 7).bind fun x16 =>
    if x16 ≤ x15 then
      f_X7_takeIfCheaper_27 w v0 v1 v2 (0 : Int32)
    else
      f_X7_takeIfCheaper_27 w v0 v1 v2 (1 : Int32)
def f_X7_findCheapest_82 (fu : Nat) (lr17 : MW → Nat → Int32 → Option MW) (lr27 : MW → Nat → Int32 → Int32 → Option MW) (w : MW) (v0 : Nat) (v1 : Int32) (v2 : Int32) : Option MW :=
  bnd (v2 + 1) fun x10 =>
  lr27 w v0 v1 x10
def f_X7_findCheapest_27 (fu : Nat) (lr17 : MW → Nat → Int32 → Option MW) : Nat → MW → Nat → Int32 → Int32 → Option MW
  | 0, _, _, _, _ => none
  | n + 1, w, v0, v1, v2 =>
    if (8 : Int32) ≤ v2 then
      bnd (v1 + 1) fun x6 =>
      lr17 w v0 x6
    else
      (gR w 7 v0 0).bind fun x7 =>
      (aRn w (.object RX0) x7 v1).bind fun x8 =>
      (gI w 0 x8 1).bind fun x9 =>
      if x9 ≤ 0 then
        f_X7_findCheapest_82 fu lr17 (f_X7_findCheapest_27 fu lr17 n) w v0 v1 v2
      else
        (gR w 7 v0 0).bind fun x11 =>
        (aRn w (.object RX0) x11 v2).bind fun x12 =>
        (gI w 0 x12 1).bind fun x13 =>
        if x13 ≤ 0 then
          f_X7_findCheapest_82 fu lr17 (f_X7_findCheapest_27 fu lr17 n) w v0 v1 v2
        else
          (gR w 7 v0 2).bind fun x14 =>
          (gR w 7 v0 0).bind fun x15 =>
          (aRn w (.object RX0) x15 v1).bind fun x16 =>
          (gR w 7 v0 0).bind fun x17 =>
          (aRn w (.object RX0) x17 v2).bind fun x18 =>
          (cl w 9 x14 (f_X9_weave fu w x14 x16 x18)).bind fun q19 =>
          (cl q19 7 v0 (f_X7_takeIfCheaper q19 v0 v1 v2)).bind fun q22 =>
          f_X7_findCheapest_82 fu lr17 (f_X7_findCheapest_27 fu lr17 n) q22 v0 v1 v2
def f_X7_findCheapest_17 (fu : Nat) : Nat → MW → Nat → Int32 → Option MW
  | 0, _, _, _ => none
  | n + 1, w, v0, v1 =>
    if (8 : Int32) ≤ v1 then
      some w
    else
      bnd (v1 + (1 : Int32)) fun x5 =>
      f_X7_findCheapest_27 fu (f_X7_findCheapest_17 fu n) fu w v0 v1 x5
def f_X7_findCheapest (fu : Nat) (w : MW) (v0 : Nat) : Option MW :=
  (pV w 7 v0 5 (.int (-1 : Int32))).bind fun w1 =>
  (pV w1 7 v0 6 (.int (-1 : Int32))).bind fun w2 =>
  (pV w2 7 v0 7 (.int (-1 : Int32))).bind fun w3 =>
  bnd (0 : Int32) fun x4 =>
  f_X7_findCheapest_17 fu fu w3 v0 x4
def f_X8_keyOf (w : MW) (v0 : Nat) (v1 : Int32) : Option Int32 :=
  (cl w 8 v0 (f_X8_isNode w v0 v1)).bind fun q1 =>
  if q1 = 0 then
    some (-1 : Int32)
  else
    (gR w 8 v0 0).bind fun x4 =>
    (aI w .int x4 v1).bind fun x5 =>
    some x5
def f_X8_rootKey (w : MW) (v0 : Nat) : Option Int32 :=
  (gI w 8 v0 8).bind fun x1 =>
  (cl w 8 v0 (f_X8_keyOf w v0 x1)).bind fun q2 =>
  some q2
def f_X8_depthAt (w : MW) (v0 : Nat) (v1 : Int32) : Option Int32 :=
  (cl w 8 v0 (f_X8_isNode w v0 v1)).bind fun q1 =>
  if q1 = 0 then
    some (-1 : Int32)
  else
    (gR w 8 v0 4).bind fun x4 =>
    (aI w .int x4 v1).bind fun x5 =>
    some x5
def f_X8_keyAbove (w : MW) (v0 : Nat) (v1 : Int32) : Option Int32 :=
  (cl w 8 v0 (f_X8_isNode w v0 v1)).bind fun q1 =>
  if q1 = 0 then
    some (-1 : Int32)
  else
    (gR w 8 v0 1).bind fun x4 =>
    (aI w .int x4 v1).bind fun x5 =>
    (cl w 8 v0 (f_X8_keyOf w v0 x5)).bind fun q6 =>
    some q6
def f_X8_keyAtLeft (w : MW) (v0 : Nat) (v1 : Int32) : Option Int32 :=
  (cl w 8 v0 (f_X8_isNode w v0 v1)).bind fun q1 =>
  if q1 = 0 then
    some (-1 : Int32)
  else
    (gR w 8 v0 2).bind fun x4 =>
    (aI w .int x4 v1).bind fun x5 =>
    (cl w 8 v0 (f_X8_keyOf w v0 x5)).bind fun q6 =>
    some q6
def f_X8_keyAtRight (w : MW) (v0 : Nat) (v1 : Int32) : Option Int32 :=
  (cl w 8 v0 (f_X8_isNode w v0 v1)).bind fun q1 =>
  if q1 = 0 then
    some (-1 : Int32)
  else
    (gR w 8 v0 3).bind fun x4 =>
    (aI w .int x4 v1).bind fun x5 =>
    (cl w 8 v0 (f_X8_keyOf w v0 x5)).bind fun q6 =>
    some q6
def f_X8_howManyBelow (w : MW) (v0 : Nat) (v1 : Int32) : Option Int32 :=
  (cl w 8 v0 (f_X8_isNode w v0 v1)).bind fun q1 =>
  if q1 = 0 then
    some (-1 : Int32)
  else
    (gR w 8 v0 5).bind fun x4 =>
    (aI w .int x4 v1).bind fun x5 =>
    some x5
def f_X8_high_4 (fu : Nat) (w : MW) : Nat → Nat → Int32 → Int32 → Option Int32
  | 0, _, _, _ => none
  | n + 1, v0, v1, v2 =>
    (gI w 8 v0 7).bind fun x3 =>
    if x3 ≤ v2 then
      some v1
    else
      (gR w 8 v0 4).bind fun x4 =>
      (aI w .int x4 v2).bind fun x5 =>
      bnd (imax v1 (x5 + (1 : Int32))) fun x6 =>
      bnd (v2 + 1) fun x7 =>
      (f_X8_high_4 fu w n) v0 x6 x7
def f_X8_high (fu : Nat) (w : MW) (v0 : Nat) : Option Int32 :=
  bnd (0 : Int32) fun x1 =>
  bnd (0 : Int32) fun x2 =>
  f_X8_high_4 fu w fu v0 x1 x2
def f_X8_allDepths_4 (fu : Nat) (w : MW) : Nat → Nat → Int32 → Int32 → Option Int32
  | 0, _, _, _ => none
  | n + 1, v0, v1, v2 =>
    (gI w 8 v0 7).bind fun x3 =>
    if x3 ≤ v2 then
      some v1
    else
      (gR w 8 v0 4).bind fun x4 =>
      (aI w .int x4 v2).bind fun x5 =>
      bnd (v1 + x5) fun x6 =>
      bnd (v2 + 1) fun x7 =>
      (f_X8_allDepths_4 fu w n) v0 x6 x7
def f_X8_allDepths (fu : Nat) (w : MW) (v0 : Nat) : Option Int32 :=
  bnd (0 : Int32) fun x1 =>
  bnd (0 : Int32) fun x2 =>
  f_X8_allDepths_4 fu w fu v0 x1 x2
noncomputable def f_X10_init (w0 : MW) (v0 : Nat) : Option MW :=
  (nwC w0.length w0 [.ref v0, .ref v0] (.inr (7, [.null, .null, .null, .null, .null, .int 0, .int 0, .int 0]))).bind fun w1 =>
  (clA w0.length w1 7 w0.length [.ref v0, .ref w0.length, .ref v0] (f_X7_init w1 w0.length)).bind fun q2 =>
  (pV q2 10 v0 0 (.ref w0.length)).bind fun w5 =>
  (nwC w0.length w5 [.ref v0, .ref v0] (.inr (3, [.null, .int 0, .int 0]))).bind fun w6 =>
  (clA w0.length w6 3 w5.length [.ref v0, .ref w5.length, .ref v0] (f_X3_init w6 w5.length)).bind fun q7 =>
  (pV q7 10 v0 1 (.ref w5.length)).bind fun w10 =>
  (nwC w0.length w10 [.ref v0, .ref v0] (.inr (4, [.null, .int 0]))).bind fun w11 =>
  (nwC w0.length w11 [.ref v0, .ref w10.length, .ref w10.length, .ref v0] (.inl (.byte, 800, .inl (fun _ => 0)))).bind fun w12 =>
  (cl w12 4 w10.length (f_X4_init w12 w10.length w11.length)).bind fun q13 =>
  (pV q13 10 v0 2 (.ref w10.length)).bind fun w16 =>
  (nwC w0.length w16 [.ref v0, .ref v0] (.inr (4, [.null, .int 0]))).bind fun w17 =>
  (nwC w0.length w17 [.ref v0, .ref w16.length, .ref w16.length, .ref v0] (.inl (.byte, 360, .inl (fun _ => 0)))).bind fun w18 =>
  (cl w18 4 w16.length (f_X4_init w18 w16.length w17.length)).bind fun q19 =>
  (pV q19 10 v0 3 (.ref w16.length)).bind fun w22 =>
  (nwC w0.length w22 [.ref v0, .ref v0] (.inr (5, [.null, .null, .null, .int 0, .int 0, .int 0, .int 0, .int 0, .int 0]))).bind fun w23 =>
  (gR w23 10 v0 2).bind fun x24 =>
  (gR w23 10 v0 0).bind fun x25 =>
  (clA w0.length w23 5 w22.length [.ref v0, .ref w22.length, .ref v0] (f_X5_init w23 w22.length x24 x25)).bind fun q26 =>
  (pV q26 10 v0 4 (.ref w22.length)).bind fun w29 =>
  (nwC w0.length w29 [.ref v0, .ref v0] (.inr (6, [.null, .null, .null]))).bind fun w30 =>
  (clA w0.length w30 6 w29.length [.ref v0, .ref w29.length, .ref v0] (f_X6_init w30 w29.length)).bind fun q31 =>
  (pV q31 10 v0 5 (.ref w29.length)).bind fun w34 =>
  (nwC w0.length w34 [.ref v0, .ref v0] (.inl (.object RX1, 3, .inr (.inr (.inr (.inr (fun _ => none))))))).bind fun w35 =>
  (pV w35 10 v0 6 (.ref w34.length)).bind fun w36 =>
  (gR w36 10 v0 6).bind fun x37 =>
  (nwC w0.length w36 [.int (0 : Int32), .ref v0, .int (0 : Int32), .ref x37] (.inr (1, [.null, .null, .null, .int 0, .int 0, .int 0]))).bind fun w38 =>
  (clA w0.length w38 1 w36.length [.int (0 : Int32), .ref v0, .ref w36.length, .int (0 : Int32), .ref x37] (f_X1_init w38 w36.length)).bind fun q39 =>
  (sR q39 RX1 1 x37 (0 : Int32) w36.length).bind fun w42 =>
  (gR w42 10 v0 6).bind fun x43 =>
  (nwC w0.length w42 [.int (1 : Int32), .ref v0, .int (1 : Int32), .ref x43] (.inr (1, [.null, .null, .null, .int 0, .int 0, .int 0]))).bind fun w44 =>
  (clA w0.length w44 1 w42.length [.int (1 : Int32), .ref v0, .ref w42.length, .int (1 : Int32), .ref x43] (f_X1_init w44 w42.length)).bind fun q45 =>
  (sR q45 RX1 1 x43 (1 : Int32) w42.length).bind fun w48 =>
  (gR w48 10 v0 6).bind fun x49 =>
  (nwC w0.length w48 [.int (2 : Int32), .ref v0, .int (2 : Int32), .ref x49] (.inr (1, [.null, .null, .null, .int 0, .int 0, .int 0]))).bind fun w50 =>
  (clA w0.length w50 1 w48.length [.int (2 : Int32), .ref v0, .ref w48.length, .int (2 : Int32), .ref x49] (f_X1_init w50 w48.length)).bind fun q51 =>
  (sR q51 RX1 1 x49 (2 : Int32) w48.length).bind fun w54 =>
  (pV w54 10 v0 7 (.int (0 : Int32))).bind fun w55 =>
  (pV w55 10 v0 8 (.int (-1 : Int32))).bind fun w56 =>
  some w56
def f_X10_feed (w : MW) (v0 : Nat) (v1 : Int32) (v2 : Int32) (v3 : Int32) (v4 : Int32) (v5 : Int32) : Option (Int32 × MW) :=
  (gR w 10 v0 2).bind fun x1 =>
  (gI w 4 x1 1).bind fun x2 =>
  if x2 ≤ (780 : Int32) then
    (gR w 10 v0 2).bind fun x3 =>
    (cl w 4 x3 (f_X4_addFour w x3 v1)).bind fun q4 =>
    (gR q4 10 v0 2).bind fun x7 =>
    (cl q4 4 x7 (f_X4_addFour q4 x7 v2)).bind fun q8 =>
    (gR q8 10 v0 2).bind fun x11 =>
    (cl q8 4 x11 (f_X4_addFour q8 x11 v3)).bind fun q12 =>
    (gR q12 10 v0 2).bind fun x15 =>
    (cl q12 4 x15 (f_X4_addFour q12 x15 v4)).bind fun q16 =>
    (gR q16 10 v0 2).bind fun x19 =>
    (cl q16 4 x19 (f_X4_addFour q16 x19 v5)).bind fun q20 =>
    (gR q20 10 v0 2).bind fun x23 =>
    (gI q20 4 x23 1).bind fun x24 =>
    some (x24, q20)
  else
    some ((-1 : Int32), w)
def f_X10_end (w : MW) (v0 : Nat) (v1 : Int32) : Option (Int32 × MW) :=
  if v1 < 0 then
    some ((-1 : Int32), w)
  else
    (gR w 10 v0 2).bind fun x1 =>
    (gI w 4 x1 1).bind fun x2 =>
    if v1 ≤ x2 then
      (gR w 10 v0 2).bind fun x3 =>
      (pV w 4 x3 1 (.int v1)).bind fun w4 =>
      some (v1, w4)
    else
      some ((-1 : Int32), w)
def f_X10_text (fu : Nat) (w : MW) (v0 : Nat) : Option (Int32 × MW) :=
  (gR w 10 v0 5).bind fun x1 =>
  (gR w 10 v0 0).bind fun x2 =>
  (cl w 6 x1 (f_X6_take fu w x1 x2)).bind fun q3 =>
  (gR q3 10 v0 0).bind fun x6 =>
  (cl q3 7 x6 (f_X7_empty fu q3 x6)).bind fun q7 =>
  (gR q7 10 v0 4).bind fun x10 =>
  (cl q7 5 x10 (f_X5_perform fu q7 x10)).bind fun q11 =>
  (gR q11 10 v0 2).bind fun x14 =>
  (pV q11 4 x14 1 (.int (0 : Int32))).bind fun w15 =>
  (gR w15 10 v0 4).bind fun x16 =>
  (gI w15 5 x16 7).bind fun x17 =>
  (pV w15 10 v0 7 (.int x17)).bind fun w18 =>
  (gR w18 10 v0 4).bind fun x19 =>
  (gI w18 5 x19 8).bind fun x20 =>
  (pV w18 10 v0 8 (.int x20)).bind fun w21 =>
  (gI w21 10 v0 7).bind fun x22 =>
  if x22 = 0 then
    (gR w21 10 v0 1).bind fun x23 =>
    (cl w21 3 x23 (f_X3_forget w21 x23)).bind fun q24 =>
    (gR q24 10 v0 0).bind fun x27 =>
    (cl q24 7 x27 (f_X7_total fu q24 x27)).bind fun q28 =>
    some (q28, q24)
  else
    (gR w21 10 v0 5).bind fun x31 =>
    (gR w21 10 v0 0).bind fun x32 =>
    (cl w21 6 x31 (f_X6_give fu w21 x31 x32)).bind fun q33 =>
    some ((-1 : Int32), q33)
def f_X10_fault (w : MW) (v0 : Nat) (v1 : Int32) : Option Int32 :=
  if v1 = 0 then
    (gI w 10 v0 7).bind fun x2 =>
    some x2
  else if v1 = 1 then
    (gI w 10 v0 8).bind fun x4 =>
    some x4
  else 
    some (-1 : Int32)
def f_X10_put (fu : Nat) (w : MW) (v0 : Nat) (v1 : Int32) (v2 : Int32) : Option (Int32 × MW) :=
  (gR w 10 v0 1).bind fun x1 =>
  (gR w 10 v0 0).bind fun x2 =>
  (cl w 3 x1 (f_X3_prepare fu w x1 x2)).bind fun q3 =>
  (gR q3 10 v0 1).bind fun x6 =>
  (gR q3 10 v0 0).bind fun x7 =>
  (cl q3 7 x7 (f_X7_putKey fu q3 x7 v1 v2)).bind fun q8 =>
  (cl q8.2 3 x6 (f_X3_settle q8.2 x6 q8.1)).bind fun q11 =>
  some (q11.1, q11.2)
def f_X10_drop (fu : Nat) (w : MW) (v0 : Nat) (v1 : Int32) (v2 : Int32) : Option (Int32 × MW) :=
  (gR w 10 v0 1).bind fun x1 =>
  (gR w 10 v0 0).bind fun x2 =>
  (cl w 3 x1 (f_X3_prepare fu w x1 x2)).bind fun q3 =>
  (gR q3 10 v0 1).bind fun x6 =>
  (gR q3 10 v0 0).bind fun x7 =>
  (cl q3 7 x7 (f_X7_dropKey fu q3 x7 v1 v2)).bind fun q8 =>
  (cl q8.2 3 x6 (f_X3_settle q8.2 x6 q8.1)).bind fun q11 =>
  some (q11.1, q11.2)
def f_X10_cut (fu : Nat) (w : MW) (v0 : Nat) (v1 : Int32) (v2 : Int32) (v3 : Int32) : Option (Int32 × MW) :=
  (gR w 10 v0 1).bind fun x1 =>
  (gR w 10 v0 0).bind fun x2 =>
  (cl w 3 x1 (f_X3_prepare fu w x1 x2)).bind fun q3 =>
  (gR q3 10 v0 1).bind fun x6 =>
  (gR q3 10 v0 0).bind fun x7 =>
  (cl q3 7 x7 (f_X7_cutAbove fu q3 x7 v1 v2 v3)).bind fun q8 =>
  (cl q8.2 3 x6 (f_X3_settle q8.2 x6 q8.1)).bind fun q11 =>
  some (q11.1, q11.2)
def f_X10_join (fu : Nat) (w : MW) (v0 : Nat) (v1 : Int32) (v2 : Int32) : Option (Int32 × MW) :=
  (gR w 10 v0 1).bind fun x1 =>
  (gR w 10 v0 0).bind fun x2 =>
  (cl w 3 x1 (f_X3_prepare fu w x1 x2)).bind fun q3 =>
  (gR q3 10 v0 1).bind fun x6 =>
  (gR q3 10 v0 0).bind fun x7 =>
  (cl q3 7 x7 (f_X7_joinTo fu q3 x7 v1 v2)).bind fun q8 =>
  (cl q8.2 3 x6 (f_X3_settle q8.2 x6 q8.1)).bind fun q11 =>
  some (q11.1, q11.2)
def f_X10_melt (fu : Nat) (w : MW) (v0 : Nat) (v1 : Int32) (v2 : Int32) : Option (Int32 × MW) :=
  (gR w 10 v0 1).bind fun x1 =>
  (gR w 10 v0 0).bind fun x2 =>
  (cl w 3 x1 (f_X3_prepare fu w x1 x2)).bind fun q3 =>
  (gR q3 10 v0 1).bind fun x6 =>
  (gR q3 10 v0 0).bind fun x7 =>
  (cl q3 7 x7 (f_X7_meltTo fu q3 x7 v1 v2)).bind fun q8 =>
  (cl q8.2 3 x6 (f_X3_settle q8.2 x6 q8.1)).bind fun q11 =>
  some (q11.1, q11.2)
def f_X10_shift (fu : Nat) (w : MW) (v0 : Nat) (v1 : Int32) (v2 : Int32) : Option (Int32 × MW) :=
  (gR w 10 v0 1).bind fun x1 =>
  (gR w 10 v0 0).bind fun x2 =>
  (cl w 3 x1 (f_X3_prepare fu w x1 x2)).bind fun q3 =>
  (gR q3 10 v0 1).bind fun x6 =>
  (gR q3 10 v0 0).bind fun x7 =>
  (cl q3 7 x7 (f_X7_shiftBy fu q3 x7 v1 v2)).bind fun q8 =>
  (cl q8.2 3 x6 (f_X3_settle q8.2 x6 q8.1)).bind fun q11 =>
  some (q11.1, q11.2)
def f_X10_move (fu : Nat) (w : MW) (v0 : Nat) (v1 : Int32) (v2 : Int32) (v3 : Int32) (v4 : Int32) : Option (Int32 × MW) :=
  (gR w 10 v0 1).bind fun x1 =>
  (gR w 10 v0 0).bind fun x2 =>
  (cl w 3 x1 (f_X3_prepare fu w x1 x2)).bind fun q3 =>
  (gR q3 10 v0 1).bind fun x6 =>
  (gR q3 10 v0 0).bind fun x7 =>
  (cl q3 7 x7 (f_X7_moveStretch fu q3 x7 v1 v2 v3 v4)).bind fun q8 =>
  (cl q8.2 3 x6 (f_X3_settle q8.2 x6 q8.1)).bind fun q11 =>
  some (q11.1, q11.2)
def f_X10_mark_32 (fu : Nat) (w : MW) (s0 : Nat) (s1 : Nat) (s2 : Int32) (s3 : Int32) (s4 : Int32) (s5 : Int32) : Option (Int32 × MW) :=
  (cl w 7 s1 (f_X7_markStretch fu w s1 s2 s3 s4 s5)).bind fun q8 =>
  (cl q8.2 3 s0 (f_X3_settle q8.2 s0 q8.1)).bind fun q11 =>
  some (q11.1, q11.2)
def f_X10_mark (fu : Nat) (w : MW) (v0 : Nat) (v1 : Int32) (v2 : Int32) (v3 : Int32) (v4 : Int32) : Option (Int32 × MW) :=
  (gR w 10 v0 1).bind fun x1 =>
  (gR w 10 v0 0).bind fun x2 =>
  (cl w 3 x1 (f_X3_prepare fu w x1 x2)).bind fun q3 =>
  (gR q3 10 v0 1).bind fun x6 =>
  (gR q3 10 v0 0).bind fun x7 =>
  if v4 = 0 then
    f_X10_mark_32 fu q3 x6 x7 v1 v2 v3 (1 : Int32)
  else
    f_X10_mark_32 fu q3 x6 x7 v1 v2 v3 (0 : Int32)
def f_X10_seek (fu : Nat) (w : MW) (v0 : Nat) (v1 : Int32) (v2 : Int32) : Option (Int32 × MW) :=
  (gR w 10 v0 1).bind fun x1 =>
  (gR w 10 v0 0).bind fun x2 =>
  (cl w 3 x1 (f_X3_prepare fu w x1 x2)).bind fun q3 =>
  (gR q3 10 v0 1).bind fun x6 =>
  (gR q3 10 v0 0).bind fun x7 =>
  (cl q3 7 x7 (f_X7_seekFrom fu q3 x7 v1 v2)).bind fun q8 =>
  (cl q8.2 3 x6 (f_X3_settle q8.2 x6 q8.1)).bind fun q11 =>
  some (q11.1, q11.2)
def f_X10_undo (fu : Nat) (w : MW) (v0 : Nat) : Option (Int32 × MW) :=
  (gR w 10 v0 1).bind fun x1 =>
  (gI w 3 x1 2).bind fun x2 =>
  if x2 = 0 then
    some ((-1 : Int32), w)
  else
    (gR w 10 v0 1).bind fun x3 =>
    (gR w 10 v0 0).bind fun x4 =>
    (cl w 3 x3 (f_X3_stepBack fu w x3 x4)).bind fun q5 =>
    (gR q5 10 v0 1).bind fun x8 =>
    (gI q5 3 x8 2).bind fun x9 =>
    some (x9, q5)
def f_X10_set (fu : Nat) (w : MW) (v0 : Nat) (v1 : Int32) (v2 : Int32) : Option (Int32 × MW) :=
  (gR w 10 v0 0).bind fun x1 =>
  (cl w 7 x1 (f_X7_heapAt w x1 v1)).bind fun q2 =>
  match q2 with
  | none =>
    some ((-1 : Int32), w)
  | some b5 =>
    if v2 = 0 then
      (gI w 0 b5 1).bind fun x7 =>
      some (x7, w)
    else if v2 = 1 then
      (cl w 0 b5 (f_X0_keyAt w b5 (0 : Int32))).bind fun q9 =>
      some (q9, w)
    else if v2 = 2 then
      (gI w 0 b5 1).bind fun x13 =>
      (cl w 0 b5 (f_X0_keyAt w b5 (x13 - (1 : Int32)))).bind fun q14 =>
      some (q14, w)
    else if v2 = 3 then
      (cl w 0 b5 (f_X0_markedBetween fu w b5 (0 : Int32) (9999 : Int32))).bind fun q18 =>
      some (q18, w)
    else if v2 = 4 then
      (gR w 10 v0 0).bind fun x22 =>
      (cl w 7 x22 (f_X7_treeOf fu w x22 b5)).bind fun q23 =>
      (cl q23.2 8 q23.1 (f_X8_rootKey q23.2 q23.1)).bind fun q26 =>
      some (q26, q23.2)
    else if v2 = 5 then
      (gR w 10 v0 0).bind fun x30 =>
      (cl w 7 x30 (f_X7_treeOf fu w x30 b5)).bind fun q31 =>
      (cl q31.2 8 q31.1 (f_X8_high fu q31.2 q31.1)).bind fun q34 =>
      some (q34, q31.2)
    else if v2 = 6 then
      (gI w 0 b5 2).bind fun x38 =>
      some (x38, w)
    else if v2 = 7 then
      (cl w 0 b5 (f_X0_leastDifference fu w b5)).bind fun q40 =>
      some (q40, w)
    else if v2 = 8 then
      (gR w 10 v0 0).bind fun x44 =>
      (cl w 7 x44 (f_X7_treeOf fu w x44 b5)).bind fun q45 =>
      (cl q45.2 8 q45.1 (f_X8_allDepths fu q45.2 q45.1)).bind fun q48 =>
      some (q48, q45.2)
    else if v2 = 9 then
      (cl w 0 b5 (f_X0_stretches fu w b5)).bind fun q52 =>
      some (q52, w)
    else if v2 = 10 then
      (cl w 0 b5 (f_X0_sum fu w b5)).bind fun q56 =>
      some (q56, w)
    else 
      some ((-1 : Int32), w)
def f_X10_key (w : MW) (v0 : Nat) (v1 : Int32) (v2 : Int32) : Option Int32 :=
  (gR w 10 v0 0).bind fun x1 =>
  (cl w 7 x1 (f_X7_heapAt w x1 v1)).bind fun q2 =>
  match q2 with
  | none =>
    some (-1 : Int32)
  | some b5 =>
    (cl w 0 b5 (f_X0_keyAt w b5 v2)).bind fun q6 =>
    some q6
def f_X10_of_25 (fu : Nat) (w : MW) (v0 : Nat) (v2 : Int32) (v3 : Int32) (s0 : Int32) : Option (Int32 × MW) :=
  bnd s0 fun x6 =>
  some ((-1 : Int32), w)
def f_X10_of_25_1 (fu : Nat) (w : MW) (v0 : Nat) (v2 : Int32) (v3 : Int32) (v4 : Nat) (s0 : Int32) : Option (Int32 × MW) :=
  bnd s0 fun x10 =>
  if x10 = (-1 : Int32) then
    some ((-1 : Int32), w)
  else
    if v3 = 0 then
      some (x10, w)
    else if v3 = 1 then
      (cl w 0 v4 (f_X0_markAt w v4 x10)).bind fun q13 =>
      some (q13, w)
    else if v3 = 2 then
      (gR w 10 v0 0).bind fun x17 =>
      (cl w 7 x17 (f_X7_treeOf fu w x17 v4)).bind fun q18 =>
      (cl q18.2 8 q18.1 (f_X8_depthAt q18.2 q18.1 x10)).bind fun q21 =>
      some (q21, q18.2)
    else if v3 = 3 then
      (gR w 10 v0 0).bind fun x25 =>
      (cl w 7 x25 (f_X7_treeOf fu w x25 v4)).bind fun q26 =>
      (cl q26.2 8 q26.1 (f_X8_keyAbove q26.2 q26.1 x10)).bind fun q29 =>
      some (q29, q26.2)
    else if v3 = 4 then
      (gR w 10 v0 0).bind fun x33 =>
      (cl w 7 x33 (f_X7_treeOf fu w x33 v4)).bind fun q34 =>
      (cl q34.2 8 q34.1 (f_X8_keyAtLeft q34.2 q34.1 x10)).bind fun q37 =>
      some (q37, q34.2)
    else if v3 = 5 then
      (gR w 10 v0 0).bind fun x41 =>
      (cl w 7 x41 (f_X7_treeOf fu w x41 v4)).bind fun q42 =>
      (cl q42.2 8 q42.1 (f_X8_keyAtRight q42.2 q42.1 x10)).bind fun q45 =>
      some (q45, q42.2)
    else if v3 = 6 then
      some ((f_X10_priority v2), w)
    else if v3 = 7 then
      (gR w 10 v0 0).bind fun x50 =>
      (cl w 7 x50 (f_X7_treeOf fu w x50 v4)).bind fun q51 =>
      (cl q51.2 8 q51.1 (f_X8_howManyBelow q51.2 q51.1 x10)).bind fun q54 =>
      some (q54, q51.2)
    else 
      some ((-1 : Int32), w)
def f_X10_of (fu : Nat) (w : MW) (v0 : Nat) (v1 : Int32) (v2 : Int32) (v3 : Int32) : Option (Int32 × MW) :=
  (gR w 10 v0 0).bind fun x1 =>
  (cl w 7 x1 (f_X7_heapAt w x1 v1)).bind fun q2 =>
  match q2 with
  | none =>
    f_X10_of_25 fu w v0 v2 v3 (-1 : Int32)
  | some b5 =>
    (cl w 0 b5 (f_X0_rankOf fu w b5 v2)).bind fun q7 =>
    f_X10_of_25_1 fu w v0 v2 v3 b5 q7
def f_X10_within (fu : Nat) (w : MW) (v0 : Nat) (v1 : Int32) (v2 : Int32) (v3 : Int32) (v4 : Int32) : Option Int32 :=
  (gR w 10 v0 0).bind fun x1 =>
  (cl w 7 x1 (f_X7_heapAt w x1 v1)).bind fun q2 =>
  match q2 with
  | none =>
    some (-1 : Int32)
  | some b5 =>
    if v4 = 0 then
      (cl w 0 b5 (f_X0_howManyBetween fu w b5 v2 v3)).bind fun q6 =>
      some q6
    else
      (cl w 0 b5 (f_X0_markedBetween fu w b5 v2 v3)).bind fun q9 =>
      some q9
def f_X10_far (fu : Nat) (w : MW) (v0 : Nat) (v1 : Int32) (v2 : Int32) (v3 : Int32) : Option (Int32 × MW) :=
  (gR w 10 v0 0).bind fun x1 =>
  (cl w 7 x1 (f_X7_heapAt w x1 v1)).bind fun q2 =>
  match q2 with
  | none =>
    some ((-1 : Int32), w)
  | some b5 =>
    (gR w 10 v0 0).bind fun x6 =>
    (cl w 7 x6 (f_X7_treeOf fu w x6 b5)).bind fun q7 =>
    (cl q7.2 0 b5 (f_X0_rankOf fu q7.2 b5 v2)).bind fun q10 =>
    (cl q7.2 0 b5 (f_X0_rankOf fu q7.2 b5 v3)).bind fun q13 =>
    (cl q7.2 8 q7.1 (f_X8_steps fu q7.2 q7.1 q10 q13)).bind fun q16 =>
    some (q16, q7.2)
def f_X10_where_33 (fu : Nat) (w : MW) (lr4 : Nat → Int32 → Int32 → Int32 → Option Int32) (v0 : Nat) (v1 : Int32) (v2 : Int32) (v3 : Int32) : Option Int32 :=
  bnd (v3 + 1) fun x9 =>
  lr4 v0 v1 v2 x9
def f_X10_where_4 (fu : Nat) (w : MW) : Nat → Nat → Int32 → Int32 → Int32 → Option Int32
  | 0, _, _, _, _ => none
  | n + 1, v0, v1, v2, v3 =>
    if (8 : Int32) ≤ v3 then
      some v2
    else
      (gR w 10 v0 0).bind fun x3 =>
      (gR w 7 x3 0).bind fun x4 =>
      (aRn w (.object RX0) x4 v3).bind fun x5 =>
      (cl w 0 x5 (f_X0_rankOf fu w x5 v1)).bind fun q6 =>
      if q6 = (-1 : Int32) then
        f_X10_where_33 fu w (f_X10_where_4 fu w n) v0 v1 v2 v3
      else
        bnd (v2 ||| ((1 : Int32) <<< (v3 &&& 31))) fun x10 =>
        f_X10_where_33 fu w (f_X10_where_4 fu w n) v0 v1 x10 v3
def f_X10_where (fu : Nat) (w : MW) (v0 : Nat) (v1 : Int32) : Option Int32 :=
  bnd (0 : Int32) fun x1 =>
  bnd (0 : Int32) fun x2 =>
  f_X10_where_4 fu w fu v0 v1 x1 x2
def f_X10_count (fu : Nat) (w : MW) (v0 : Nat) (v1 : Int32) : Option (Int32 × MW) :=
  if v1 = 0 then
    (gR w 10 v0 0).bind fun x2 =>
    (cl w 7 x2 (f_X7_total fu w x2)).bind fun q3 =>
    some (q3, w)
  else if v1 = 1 then
    (gR w 10 v0 0).bind fun x7 =>
    (cl w 7 x7 (f_X7_notEmpty fu w x7)).bind fun q8 =>
    some (q8, w)
  else if v1 = 2 then
    (gR w 10 v0 0).bind fun x12 =>
    (cl w 7 x12 (f_X7_unlike fu w x12)).bind fun q13 =>
    some (q13.1, q13.2)
  else if v1 = 3 then
    (gR w 10 v0 0).bind fun x17 =>
    (cl w 7 x17 (f_X7_allMarked fu w x17)).bind fun q18 =>
    some (q18, w)
  else if v1 = 4 then
    (gR w 10 v0 1).bind fun x22 =>
    (gI w 3 x22 2).bind fun x23 =>
    some (x23, w)
  else if v1 = 5 then
    (gR w 10 v0 2).bind fun x25 =>
    (gI w 4 x25 1).bind fun x26 =>
    some (x26, w)
  else if v1 = 6 then
    (gR w 10 v0 0).bind fun x28 =>
    (cl w 7 x28 (f_X7_huffman fu w x28)).bind fun q29 =>
    some (q29.1, q29.2)
  else if v1 = 7 then
    (gR w 10 v0 3).bind fun x33 =>
    (gI w 4 x33 1).bind fun x34 =>
    some (x34, w)
  else 
    some ((-1 : Int32), w)
def f_X10_pair (fu : Nat) (w : MW) (v0 : Nat) (v1 : Int32) (v2 : Int32) (v3 : Int32) : Option (Int32 × MW) :=
  (gR w 10 v0 0).bind fun x1 =>
  (cl w 7 x1 (f_X7_heapAt w x1 v1)).bind fun q2 =>
  match q2 with
  | none =>
    (gR w 10 v0 0).bind fun x6 =>
    (cl w 7 x6 (f_X7_heapAt w x6 v2)).bind fun q7 =>
    match q7 with
    | none =>
      some ((-1 : Int32), w)
    | some b10 =>
      some ((-1 : Int32), w)
  | some b5 =>
    (gR w 10 v0 0).bind fun x11 =>
    (cl w 7 x11 (f_X7_heapAt w x11 v2)).bind fun q12 =>
    match q12 with
    | none =>
      some ((-1 : Int32), w)
    | some b15 =>
      if v1 = v2 then
        some ((-1 : Int32), w)
      else
        (gR w 10 v0 0).bind fun x16 =>
        (cl w 7 x16 (f_X7_weaveOf fu w x16 b5 b15)).bind fun q17 =>
        if v3 = 0 then
          (gI q17.2 9 q17.1 0).bind fun x21 =>
          some (x21, q17.2)
        else if v3 = 1 then
          (gI q17.2 9 q17.1 1).bind fun x23 =>
          some (x23, q17.2)
        else if v3 = 2 then
          (gI q17.2 9 q17.1 2).bind fun x25 =>
          some (x25, q17.2)
        else if v3 = 3 then
          (gI q17.2 9 q17.1 4).bind fun x27 =>
          (gI q17.2 9 q17.1 1).bind fun x28 =>
          some ((x27 - x28), q17.2)
        else if v3 = 4 then
          (gI q17.2 9 q17.1 3).bind fun x30 =>
          some (x30, q17.2)
        else if v3 = 5 then
          (gR q17.2 10 v0 0).bind fun x32 =>
          (cl q17.2 7 x32 (f_X7_whyNotJoin q17.2 x32 b5 b15)).bind fun q33 =>
          if q33 = 0 then
            some ((1 : Int32), q17.2)
          else
            some ((0 : Int32), q17.2)
        else if v3 = 6 then
          (gR q17.2 10 v0 0).bind fun x37 =>
          (cl q17.2 7 x37 (f_X7_whyNotMelt q17.2 x37 b15 q17.1)).bind fun q38 =>
          if q38 = 0 then
            some ((1 : Int32), q17.2)
          else
            some ((0 : Int32), q17.2)
        else 
          some ((-1 : Int32), q17.2)
def f_X10_cheapest (fu : Nat) (w : MW) (v0 : Nat) (v1 : Int32) : Option (Int32 × MW) :=
  (gR w 10 v0 0).bind fun x1 =>
  (cl w 7 x1 (f_X7_findCheapest fu w x1)).bind fun q2 =>
  if v1 = 0 then
    (gR q2 10 v0 0).bind fun x6 =>
    (gI q2 7 x6 5).bind fun x7 =>
    some (x7, q2)
  else if v1 = 1 then
    (gR q2 10 v0 0).bind fun x9 =>
    (gI q2 7 x9 6).bind fun x10 =>
    some (x10, q2)
  else if v1 = 2 then
    (gR q2 10 v0 0).bind fun x12 =>
    (gI q2 7 x12 7).bind fun x13 =>
    some (x13, q2)
  else 
    some ((-1 : Int32), q2)
def f_X10_merged_31 (fu : Nat) : Nat → MW → Nat → Int32 → Int32 → Int32 → Option (Int32 × MW)
  | 0, _, _, _, _, _ => none
  | n + 1, w, v0, v1, v2, v3 =>
    if v1 < v3 then
      some (v2, w)
    else
      (gR w 10 v0 0).bind fun x12 =>
      (gR w 7 x12 3).bind fun x13 =>
      (cl w 2 x13 (f_X2_next fu w x13)).bind fun q14 =>
      bnd q14.1 fun x17 =>
      bnd (v3 + 1) fun x18 =>
      (f_X10_merged_31 fu n) q14.2 v0 v1 x17 x18
def f_X10_merged (fu : Nat) (w : MW) (v0 : Nat) (v1 : Int32) : Option (Int32 × MW) :=
  if v1 < 0 then
    some ((-1 : Int32), w)
  else
    (gR w 10 v0 0).bind fun x1 =>
    (cl w 7 x1 (f_X7_total fu w x1)).bind fun q2 =>
    if v1 < q2 then
      (gR w 10 v0 0).bind fun x5 =>
      (gR w 7 x5 3).bind fun x6 =>
      (cl w 2 x6 (f_X2_begin fu w x6)).bind fun q7 =>
      bnd (-1 : Int32) fun x10 =>
      bnd (0 : Int32) fun x11 =>
      f_X10_merged_31 fu fu q7 v0 v1 x10 x11
    else
      some ((-1 : Int32), w)
def f_X10_would_76 (fu : Nat) (w : MW) (v0 : Nat) (s0 : Nat) (s1 : Nat) (s2 : Int32) (s3 : Int32) : Option (Int32 × MW) :=
  (cl w 8 s0 (f_X8_grow fu w s0 s1 s2 s3)).bind fun q12 =>
  (gR q12 10 v0 0).bind fun x15 =>
  (gR q12 7 x15 1).bind fun x16 =>
  (cl q12 8 x16 (f_X8_high fu q12 x16)).bind fun q17 =>
  some (q17, q12)
def f_X10_would_67 (fu : Nat) (w : MW) (v0 : Nat) (v2 : Int32) (v3 : Int32) (s0 : Nat) (s1 : Nat) (s2 : Int32) : Option (Int32 × MW) :=
  if v3 = 0 then
    f_X10_would_76 fu w v0 s0 s1 s2 (-1 : Int32)
  else
    f_X10_would_76 fu w v0 s0 s1 s2 v2
def f_X10_would_39 (fu : Nat) (w : MW) (v0 : Nat) (v2 : Int32) (v3 : Int32) (v4 : Nat) (s0 : Int32) : Option (Int32 × MW) :=
  bnd s0 fun x9 =>
  if x9 = v3 then
    (gR w 10 v0 0).bind fun x10 =>
    (gR w 7 x10 1).bind fun x11 =>
    if v3 = 0 then
      f_X10_would_67 fu w v0 v2 v3 x11 v4 v2
    else
      f_X10_would_67 fu w v0 v2 v3 x11 v4 (-1 : Int32)
  else
    some ((-1 : Int32), w)
def f_X10_would (fu : Nat) (w : MW) (v0 : Nat) (v1 : Int32) (v2 : Int32) (v3 : Int32) : Option (Int32 × MW) :=
  (gR w 10 v0 0).bind fun x1 =>
  (cl w 7 x1 (f_X7_heapAt w x1 v1)).bind fun q2 =>
  match q2 with
  | none =>
    some ((-1 : Int32), w)
  | some b5 =>
    if (f_X10_isKey v2) = 0 then
      some ((-1 : Int32), w)
    else
      (cl w 0 b5 (f_X0_rankOf fu w b5 v2)).bind fun q6 =>
      if q6 = (-1 : Int32) then
        f_X10_would_39 fu w v0 v2 v3 b5 (0 : Int32)
      else
        f_X10_would_39 fu w v0 v2 v3 b5 (1 : Int32)
def f_X10_halves (w : MW) (v0 : Nat) (v1 : Int32) : Option Int32 :=
  (gR w 10 v0 0).bind fun x1 =>
  (cl w 7 x1 (f_X7_heapAt w x1 v1)).bind fun q2 =>
  match q2 with
  | none =>
    some (-1 : Int32)
  | some b5 =>
    (gI w 0 b5 1).bind fun x6 =>
    if (2 : Int32) ≤ x6 then
      (gI w 0 b5 1).bind fun x7 =>
      (cl w 0 b5 (f_X0_keyAt w b5 (((x7 + (1 : Int32)) / (2 : Int32)) - (1 : Int32)))).bind fun q8 =>
      some q8
    else
      some (-1 : Int32)
def f_X10_tell_111 (fu : Nat) (lr25 : MW → Nat → Nat → Int32 → Option (Int32 × MW)) (w : MW) (v0 : Nat) (v2 : Nat) (v3 : Int32) (v4 : Int32) : Option (Int32 × MW) :=
  bnd ((imax v3 v4) + (1 : Int32)) fun x26 =>
  lr25 w v0 v2 x26
def f_X10_tell_93 (fu : Nat) (lr25 : MW → Nat → Nat → Int32 → Option (Int32 × MW)) (w : MW) (v0 : Nat) (v2 : Nat) (v3 : Int32) (v4 : Int32) : Option (Int32 × MW) :=
  (cl w 0 v2 (f_X0_markAt w v2 v3)).bind fun q23 =>
  if q23 = (1 : Int32) then
    (gR w 10 v0 3).bind fun x27 =>
    (cl w 4 x27 (f_X4_add w x27 (42 : Int32))).bind fun q28 =>
    f_X10_tell_111 fu lr25 q28 v0 v2 v3 v4
  else
    f_X10_tell_111 fu lr25 w v0 v2 v3 v4
def f_X10_tell_53 (fu : Nat) (lr25 : MW → Nat → Nat → Int32 → Option (Int32 × MW)) (w : MW) (v0 : Nat) (v2 : Nat) (v3 : Int32) (v4 : Int32) : Option (Int32 × MW) :=
  (gR w 10 v0 3).bind fun x16 =>
  (cl w 0 v2 (f_X0_keyAt w v2 v3)).bind fun q17 =>
  (cl w 4 x16 (f_X4_addNumber fu w x16 q17)).bind fun q20 =>
  if v4 ≤ v3 then
    f_X10_tell_93 fu lr25 q20 v0 v2 v3 v4
  else
    (gR q20 10 v0 3).bind fun x31 =>
    (cl q20 4 x31 (f_X4_add q20 x31 (45 : Int32))).bind fun q32 =>
    (gR q32 10 v0 3).bind fun x35 =>
    (cl q32 0 v2 (f_X0_keyAt q32 v2 v4)).bind fun q36 =>
    (cl q32 4 x35 (f_X4_addNumber fu q32 x35 q36)).bind fun q39 =>
    f_X10_tell_93 fu lr25 q39 v0 v2 v3 v4
def f_X10_tell_25 (fu : Nat) : Nat → MW → Nat → Nat → Int32 → Option (Int32 × MW)
  | 0, _, _, _, _ => none
  | n + 1, w, v0, v2, v3 =>
    (gI w 0 v2 1).bind fun x9 =>
    if x9 ≤ v3 then
      (gR w 10 v0 3).bind fun x10 =>
      (gI w 4 x10 1).bind fun x11 =>
      some (x11, w)
    else
      (cl w 0 v2 (f_X0_lastToldWith fu w v2 v3)).bind fun q12 =>
      bnd q12 fun x15 =>
      if v3 ≤ 0 then
        f_X10_tell_53 fu (f_X10_tell_25 fu n) w v0 v2 v3 x15
      else
        (gR w 10 v0 3).bind fun x42 =>
        (cl w 4 x42 (f_X4_add w x42 (32 : Int32))).bind fun q43 =>
        f_X10_tell_53 fu (f_X10_tell_25 fu n) q43 v0 v2 v3 x15
def f_X10_tell (fu : Nat) (w : MW) (v0 : Nat) (v1 : Int32) : Option (Int32 × MW) :=
  (gR w 10 v0 0).bind fun x1 =>
  (cl w 7 x1 (f_X7_heapAt w x1 v1)).bind fun q2 =>
  match q2 with
  | none =>
    some ((-1 : Int32), w)
  | some b5 =>
    (gR w 10 v0 3).bind fun x6 =>
    (pV w 4 x6 1 (.int (0 : Int32))).bind fun w7 =>
    bnd (0 : Int32) fun x8 =>
    f_X10_tell_25 fu fu w7 v0 b5 x8
def f_X10_octet (w : MW) (v0 : Nat) (v1 : Int32) : Option Int32 :=
  (gR w 10 v0 3).bind fun x1 =>
  (cl w 4 x1 (f_X4_byteAt w x1 v1)).bind fun q2 =>
  some q2
def f_X10_image (fu : Nat) (w : MW) (v0 : Nat) (v1 : Int32) : Option (Int32 × MW) :=
  if v1 < 0 then
    some ((0 : Int32), w)
  else
    if v1 < (3 : Int32) then
      (gR w 10 v0 6).bind fun x1 =>
      (aRn w (.object RX1) x1 v1).bind fun x2 =>
      (pV w 1 x2 3 (.int (1 : Int32))).bind fun w3 =>
      (gR w3 1 x2 0).bind fun x4 =>
      (gR w3 10 v0 0).bind fun x5 =>
      (cl w3 6 x4 (f_X6_take fu w3 x4 x5)).bind fun q6 =>
      (gR q6 1 x2 1).bind fun x9 =>
      (gR q6 10 v0 2).bind fun x10 =>
      (cl q6 4 x9 (f_X4_copy q6 x9 x10)).bind fun q11 =>
      (gR q11 1 x2 2).bind fun x14 =>
      (gR q11 10 v0 3).bind fun x15 =>
      (cl q11 4 x14 (f_X4_copy q11 x14 x15)).bind fun q16 =>
      (gI q16 10 v0 7).bind fun x19 =>
      (pV q16 1 x2 4 (.int x19)).bind fun w20 =>
      (gI w20 10 v0 8).bind fun x21 =>
      (pV w20 1 x2 5 (.int x21)).bind fun w22 =>
      some ((1 : Int32), w22)
    else
      some ((0 : Int32), w)
def f_X10_again (fu : Nat) (w : MW) (v0 : Nat) (v1 : Int32) : Option (Int32 × MW) :=
  if v1 < 0 then
    some ((0 : Int32), w)
  else
    if (3 : Int32) ≤ v1 then
      some ((0 : Int32), w)
    else
      (gR w 10 v0 6).bind fun x1 =>
      (aRn w (.object RX1) x1 v1).bind fun x2 =>
      (gI w 1 x2 3).bind fun x3 =>
      if x3 = 0 then
        some ((0 : Int32), w)
      else
        (gR w 10 v0 6).bind fun x4 =>
        (aRn w (.object RX1) x4 v1).bind fun x5 =>
        (gR w 1 x5 0).bind fun x6 =>
        (gR w 10 v0 0).bind fun x7 =>
        (cl w 6 x6 (f_X6_give fu w x6 x7)).bind fun q8 =>
        (gR q8 10 v0 2).bind fun x11 =>
        (gR q8 1 x5 1).bind fun x12 =>
        (cl q8 4 x11 (f_X4_copy q8 x11 x12)).bind fun q13 =>
        (gR q13 10 v0 3).bind fun x16 =>
        (gR q13 1 x5 2).bind fun x17 =>
        (cl q13 4 x16 (f_X4_copy q13 x16 x17)).bind fun q18 =>
        (gI q18 1 x5 4).bind fun x21 =>
        (pV q18 10 v0 7 (.int x21)).bind fun w22 =>
        (gI w22 1 x5 5).bind fun x23 =>
        (pV w22 10 v0 8 (.int x23)).bind fun w24 =>
        (gR w24 10 v0 1).bind fun x25 =>
        (cl w24 3 x25 (f_X3_forget w24 x25)).bind fun q26 =>
        some ((1 : Int32), q26)
end
section
def f_X11_empties_26 (fu : Nat) : Nat → MW → Nat → Int32 → Int32 → Option MW
  | 0, _, _, _, _ => none
  | n + 1, w, v0, v1, v2 =>
    if (8 : Int32) ≤ v2 then
      some w
    else
      (gR w 11 v0 0).bind fun x3 =>
      (sI w .int x3 ((v1 + ((122 : Int32) * v2)) + (1 : Int32)) (-1 : Int32)).bind fun w4 =>
      bnd (v2 + 1) fun x5 =>
      (f_X11_empties_26 fu n) w4 v0 v1 x5
def f_X11_empties_2 (fu : Nat) : Nat → MW → Nat → Int32 → Int32 → Option MW
  | 0, _, _, _, _ => none
  | n + 1, w, v0, v1, v2 =>
    if (976 : Int32) ≤ v2 then
      bnd (0 : Int32) fun x2 =>
      f_X11_empties_26 fu fu w v0 v1 x2
    else
      (gR w 11 v0 0).bind fun x6 =>
      (sI w .int x6 (v1 + v2) (0 : Int32)).bind fun w7 =>
      bnd (v2 + 1) fun x8 =>
      (f_X11_empties_2 fu n) w7 v0 v1 x8
def f_X11_empties (fu : Nat) (w : MW) (v0 : Nat) (v1 : Int32) : Option MW :=
  bnd (0 : Int32) fun x1 =>
  f_X11_empties_2 fu fu w v0 v1 x1
noncomputable def f_X11_init (fu : Nat) (w0 : MW) (v0 : Nat) : Option MW :=
  (nwC w0.length w0 [.ref v0, .ref v0] (.inl (.int, 20204, .inl (fun _ => 0)))).bind fun w1 =>
  (pV w1 11 v0 0 (.ref w0.length)).bind fun w2 =>
  (nwC w0.length w2 [.ref v0, .ref v0] (.inl (.int, 800, .inl (fun _ => 0)))).bind fun w3 =>
  (pV w3 11 v0 1 (.ref w2.length)).bind fun w4 =>
  (nwC w0.length w4 [.ref v0, .ref v0] (.inl (.int, 400, .inl (fun _ => 0)))).bind fun w5 =>
  (pV w5 11 v0 2 (.ref w4.length)).bind fun w6 =>
  (nwC w0.length w6 [.ref v0, .ref v0] (.inl (.boolean, 3, .inl (fun _ => 0)))).bind fun w7 =>
  (pV w7 11 v0 3 (.ref w6.length)).bind fun w8 =>
  (pV w8 11 v0 7 (.int (-1 : Int32))).bind fun w9 =>
  (nwC w0.length w9 [.ref v0, .ref v0] (.inl (.int, 64, .inl (fun _ => 0)))).bind fun w10 =>
  (pV w10 11 v0 10 (.ref w9.length)).bind fun w11 =>
  (nwC w0.length w11 [.ref v0, .ref v0] (.inl (.int, 8, .inl (fun _ => 0)))).bind fun w12 =>
  (pV w12 11 v0 21 (.ref w11.length)).bind fun w13 =>
  (cl w13 11 v0 (f_X11_empties fu w13 v0 (0 : Int32))).bind fun q14 =>
  some q14
def f_X11_isIn (v0 : Int32) (v1 : Int32) (v2 : Int32) : Int32 :=
  if v0 < v1 then
    (0 : Int32)
  else
    if v2 < v0 then
      (0 : Int32)
    else
      (1 : Int32)
def f_X11_copies_3 (fu : Nat) : Nat → MW → Nat → Int32 → Int32 → Int32 → Int32 → Option MW
  | 0, _, _, _, _, _, _ => none
  | n + 1, w, v0, v1, v2, v3, v4 =>
    if v3 ≤ v4 then
      some w
    else
      (gR w 11 v0 0).bind fun x2 =>
      (gR w 11 v0 0).bind fun x3 =>
      (aI w .int x3 (v1 + v4)).bind fun x4 =>
      (sI w .int x2 (v2 + v4) x4).bind fun w5 =>
      bnd (v4 + 1) fun x6 =>
      (f_X11_copies_3 fu n) w5 v0 v1 v2 v3 x6
def f_X11_copies (fu : Nat) (w : MW) (v0 : Nat) (v1 : Int32) (v2 : Int32) (v3 : Int32) : Option MW :=
  bnd (0 : Int32) fun x1 =>
  f_X11_copies_3 fu fu w v0 v1 v2 v3 x1
def f_X11_isSet (v0 : Int32) : Int32 :=
  (f_X11_isIn v0 (0 : Int32) (7 : Int32))
def f_X11_isKey (v0 : Int32) : Int32 :=
  (f_X11_isIn v0 (0 : Int32) (9999 : Int32))
def f_X11_many (w : MW) (v0 : Nat) (v1 : Int32) : Option Int32 :=
  (gR w 11 v0 0).bind fun x1 =>
  (gI w 11 v0 9).bind fun x2 =>
  (aI w .int x1 (x2 + ((122 : Int32) * v1))).bind fun x3 =>
  some x3
def f_X11_keyAt (w : MW) (v0 : Nat) (v1 : Int32) (v2 : Int32) : Option Int32 :=
  (gR w 11 v0 0).bind fun x1 =>
  (gI w 11 v0 9).bind fun x2 =>
  (aI w .int x1 (((x2 + ((122 : Int32) * v1)) + (2 : Int32)) + v2)).bind fun x3 =>
  some x3
def f_X11_markAt (w : MW) (v0 : Nat) (v1 : Int32) (v2 : Int32) : Option Int32 :=
  (gR w 11 v0 0).bind fun x1 =>
  (gI w 11 v0 9).bind fun x2 =>
  (aI w .int x1 (((x2 + ((122 : Int32) * v1)) + (62 : Int32)) + v2)).bind fun x3 =>
  some x3
def f_X11_finger (w : MW) (v0 : Nat) (v1 : Int32) : Option Int32 :=
  (gR w 11 v0 0).bind fun x1 =>
  (gI w 11 v0 9).bind fun x2 =>
  (aI w .int x1 ((x2 + ((122 : Int32) * v1)) + (1 : Int32))).bind fun x3 =>
  some x3
def f_X11_points (w : MW) (v0 : Nat) (v1 : Int32) (v2 : Int32) : Option MW :=
  (gR w 11 v0 0).bind fun x1 =>
  (gI w 11 v0 9).bind fun x2 =>
  (sI w .int x1 ((x2 + ((122 : Int32) * v1)) + (1 : Int32)) v2).bind fun w3 =>
  some w3
def f_X11_below_2 (fu : Nat) (w : MW) : Nat → Nat → Int32 → Int32 → Int32 → Option Int32
  | 0, _, _, _, _ => none
  | n + 1, v0, v1, v2, v3 =>
    (cl w 11 v0 (f_X11_many w v0 v1)).bind fun q2 =>
    if q2 ≤ v3 then
      some v3
    else
      (cl w 11 v0 (f_X11_keyAt w v0 v1 v3)).bind fun q5 =>
      if v2 ≤ q5 then
        some v3
      else
        bnd (v3 + 1) fun x8 =>
        (f_X11_below_2 fu w n) v0 v1 v2 x8
def f_X11_below (fu : Nat) (w : MW) (v0 : Nat) (v1 : Int32) (v2 : Int32) : Option Int32 :=
  bnd (0 : Int32) fun x1 =>
  f_X11_below_2 fu w fu v0 v1 v2 x1
def f_X11_placeOf (fu : Nat) (w : MW) (v0 : Nat) (v1 : Int32) (v2 : Int32) : Option Int32 :=
  (cl w 11 v0 (f_X11_below fu w v0 v1 v2)).bind fun q1 =>
  bnd q1 fun x4 =>
  (cl w 11 v0 (f_X11_many w v0 v1)).bind fun q5 =>
  if q5 ≤ x4 then
    some (-1 : Int32)
  else
    (cl w 11 v0 (f_X11_keyAt w v0 v1 x4)).bind fun q8 =>
    if q8 = v2 then
      some x4
    else
      some (-1 : Int32)
def f_X11_puts_26 (fu : Nat) : Nat → MW → Nat → Int32 → Int32 → Int32 → Int32 → Int32 → Int32 → Option MW
  | 0, _, _, _, _, _, _, _, _ => none
  | n + 1, w, v0, v1, v2, v3, v4, v5, v6 =>
    if v6 ≤ v4 then
      (gR w 11 v0 0).bind fun x11 =>
      (sI w .int x11 ((v5 + (2 : Int32)) + v4) v2).bind fun w12 =>
      (gR w12 11 v0 0).bind fun x13 =>
      (sI w12 .int x13 ((v5 + (62 : Int32)) + v4) v3).bind fun w14 =>
      (gR w14 11 v0 0).bind fun x15 =>
      (aI w14 .int x15 v5).bind fun x16 =>
      (sI w14 .int x15 v5 (x16 + (1 : Int32))).bind fun w17 =>
      (cl w17 11 v0 (f_X11_points w17 v0 v1 (-1 : Int32))).bind fun q18 =>
      some q18
    else
      (gR w 11 v0 0).bind fun x21 =>
      (gR w 11 v0 0).bind fun x22 =>
      (aI w .int x22 (((v5 + (2 : Int32)) + v6) - (1 : Int32))).bind fun x23 =>
      (sI w .int x21 ((v5 + (2 : Int32)) + v6) x23).bind fun w24 =>
      (gR w24 11 v0 0).bind fun x25 =>
      (gR w24 11 v0 0).bind fun x26 =>
      (aI w24 .int x26 (((v5 + (62 : Int32)) + v6) - (1 : Int32))).bind fun x27 =>
      (sI w24 .int x25 ((v5 + (62 : Int32)) + v6) x27).bind fun w28 =>
      bnd (v6 + (-1)) fun x29 =>
      (f_X11_puts_26 fu n) w28 v0 v1 v2 v3 v4 v5 x29
def f_X11_puts (fu : Nat) (w : MW) (v0 : Nat) (v1 : Int32) (v2 : Int32) (v3 : Int32) : Option MW :=
  (cl w 11 v0 (f_X11_below fu w v0 v1 v2)).bind fun q1 =>
  bnd q1 fun x4 =>
  (gI w 11 v0 9).bind fun x5 =>
  bnd (x5 + ((122 : Int32) * v1)) fun x6 =>
  (cl w 11 v0 (f_X11_many w v0 v1)).bind fun q7 =>
  bnd q7 fun x10 =>
  f_X11_puts_26 fu fu w v0 v1 v2 v3 x4 x6 x10
def f_X11_drops_13 (fu : Nat) : Nat → MW → Nat → Int32 → Int32 → Int32 → Option MW
  | 0, _, _, _, _, _ => none
  | n + 1, w, v0, v1, v3, v4 =>
    (cl w 11 v0 (f_X11_many w v0 v1)).bind fun q4 =>
    if q4 ≤ (v4 + (1 : Int32)) then
      (gR w 11 v0 0).bind fun x7 =>
      (aI w .int x7 v3).bind fun x8 =>
      (sI w .int x7 v3 (x8 - (1 : Int32))).bind fun w9 =>
      (cl w9 11 v0 (f_X11_points w9 v0 v1 (-1 : Int32))).bind fun q10 =>
      some q10
    else
      (gR w 11 v0 0).bind fun x13 =>
      (gR w 11 v0 0).bind fun x14 =>
      (aI w .int x14 (((v3 + (2 : Int32)) + v4) + (1 : Int32))).bind fun x15 =>
      (sI w .int x13 ((v3 + (2 : Int32)) + v4) x15).bind fun w16 =>
      (gR w16 11 v0 0).bind fun x17 =>
      (gR w16 11 v0 0).bind fun x18 =>
      (aI w16 .int x18 (((v3 + (62 : Int32)) + v4) + (1 : Int32))).bind fun x19 =>
      (sI w16 .int x17 ((v3 + (62 : Int32)) + v4) x19).bind fun w20 =>
      bnd (v4 + 1) fun x21 =>
      (f_X11_drops_13 fu n) w20 v0 v1 v3 x21
def f_X11_drops (fu : Nat) (w : MW) (v0 : Nat) (v1 : Int32) (v2 : Int32) : Option MW :=
  (gI w 11 v0 9).bind fun x1 =>
  bnd (x1 + ((122 : Int32) * v1)) fun x2 =>
  bnd v2 fun x3 =>
  f_X11_drops_13 fu fu w v0 v1 x2 x3
def f_X11_total_4 (fu : Nat) (w : MW) : Nat → Nat → Int32 → Int32 → Option Int32
  | 0, _, _, _ => none
  | n + 1, v0, v1, v2 =>
    if (8 : Int32) ≤ v2 then
      some v1
    else
      (cl w 11 v0 (f_X11_many w v0 v2)).bind fun q3 =>
      bnd (v1 + q3) fun x6 =>
      bnd (v2 + 1) fun x7 =>
      (f_X11_total_4 fu w n) v0 x6 x7
def f_X11_total (fu : Nat) (w : MW) (v0 : Nat) : Option Int32 :=
  bnd (0 : Int32) fun x1 =>
  bnd (0 : Int32) fun x2 =>
  f_X11_total_4 fu w fu v0 x1 x2
def f_X11_twins_37 (fu : Nat) (w : MW) (lr5 : Nat → Int32 → Int32 → Int32 → Int32 → Option Int32) (v0 : Nat) (v1 : Int32) (v2 : Int32) (v4 : Int32) (s0 : Int32) (s1 : Int32) : Option Int32 :=
  bnd (s0 + s1) fun x12 =>
  bnd (v4 + 1) fun x13 =>
  lr5 v0 v1 v2 x12 x13
def f_X11_twins_5 (fu : Nat) (w : MW) : Nat → Nat → Int32 → Int32 → Int32 → Int32 → Option Int32
  | 0, _, _, _, _, _ => none
  | n + 1, v0, v1, v2, v3, v4 =>
    (cl w 11 v0 (f_X11_many w v0 v2)).bind fun q3 =>
    if q3 ≤ v4 then
      some v3
    else
      (cl w 11 v0 (f_X11_keyAt w v0 v2 v4)).bind fun q6 =>
      (cl w 11 v0 (f_X11_placeOf fu w v0 v1 q6)).bind fun q9 =>
      if q9 = (-1 : Int32) then
        f_X11_twins_37 fu w (f_X11_twins_5 fu w n) v0 v1 v2 v4 v3 (0 : Int32)
      else
        f_X11_twins_37 fu w (f_X11_twins_5 fu w n) v0 v1 v2 v4 v3 (1 : Int32)
def f_X11_twins (fu : Nat) (w : MW) (v0 : Nat) (v1 : Int32) (v2 : Int32) : Option Int32 :=
  bnd (0 : Int32) fun x1 =>
  bnd (0 : Int32) fun x2 =>
  f_X11_twins_5 fu w fu v0 v1 v2 x1 x2
def f_X11_counted_38 (fu : Nat) (w : MW) (lr6 : Nat → Int32 → Int32 → Int32 → Int32 → Int32 → Option Int32) (v0 : Nat) (v1 : Int32) (v2 : Int32) (v3 : Int32) (v5 : Int32) (s0 : Int32) (s1 : Int32) : Option Int32 :=
  bnd (s0 + s1) fun x9 =>
  bnd (v5 + 1) fun x10 =>
  lr6 v0 v1 v2 v3 x9 x10
def f_X11_counted_6 (fu : Nat) (w : MW) : Nat → Nat → Int32 → Int32 → Int32 → Int32 → Int32 → Option Int32
  | 0, _, _, _, _, _, _ => none
  | n + 1, v0, v1, v2, v3, v4, v5 =>
    (cl w 11 v0 (f_X11_many w v0 v1)).bind fun q3 =>
    if q3 ≤ v5 then
      some v4
    else
      (cl w 11 v0 (f_X11_keyAt w v0 v1 v5)).bind fun q6 =>
      if (f_X11_isIn q6 v2 v3) = 0 then
        f_X11_counted_38 fu w (f_X11_counted_6 fu w n) v0 v1 v2 v3 v5 v4 (0 : Int32)
      else
        f_X11_counted_38 fu w (f_X11_counted_6 fu w n) v0 v1 v2 v3 v5 v4 (1 : Int32)
def f_X11_counted (fu : Nat) (w : MW) (v0 : Nat) (v1 : Int32) (v2 : Int32) (v3 : Int32) : Option Int32 :=
  bnd (0 : Int32) fun x1 =>
  bnd (0 : Int32) fun x2 =>
  f_X11_counted_6 fu w fu v0 v1 v2 v3 x1 x2
def f_X11_laysRow_11 (fu : Nat) : Nat → MW → Nat → Int32 → Int32 → Option MW
  | 0, _, _, _, _ => none
  | n + 1, w, v0, v1, v2 =>
    (gI w 11 v0 11).bind fun x6 =>
    if x6 ≤ v2 then
      some w
    else
      (gR w 11 v0 10).bind fun x7 =>
      (cl w 11 v0 (f_X11_keyAt w v0 v1 v2)).bind fun q8 =>
      (sI w .int x7 v2 q8).bind fun w11 =>
      bnd (v2 + 1) fun x12 =>
      (f_X11_laysRow_11 fu n) w11 v0 v1 x12
def f_X11_laysRow (fu : Nat) (w : MW) (v0 : Nat) (v1 : Int32) : Option MW :=
  (cl w 11 v0 (f_X11_many w v0 v1)).bind fun q1 =>
  (pV w 11 v0 11 (.int q1)).bind fun w4 =>
  bnd (0 : Int32) fun x5 =>
  f_X11_laysRow_11 fu fu w4 v0 v1 x5
def f_X11_priority (v0 : Int32) : Int32 :=
  (((v0 * (40503 : Int32)) + (9973 : Int32)) - ((v0 * (40503 : Int32)) + (9973 : Int32)) / (65536 : Int32) * (65536 : Int32))
def f_X11_ahead_50 (fu : Nat) (w : MW) (lr16 : Nat → Int32 → Int32 → Int32 → Option Int32) (v0 : Nat) (v2 : Int32) (v4 : Int32) (s0 : Int32) : Option Int32 :=
  bnd s0 fun x7 =>
  bnd (v4 + 1) fun x8 =>
  lr16 v0 v2 x7 x8
def f_X11_ahead_16 (fu : Nat) (w : MW) : Nat → Nat → Int32 → Int32 → Int32 → Option Int32
  | 0, _, _, _, _ => none
  | n + 1, v0, v2, v3, v4 =>
    if v2 < v4 then
      some v3
    else
      (gR w 11 v0 10).bind fun x3 =>
      (aI w .int x3 v4).bind fun x4 =>
      (gR w 11 v0 10).bind fun x5 =>
      (aI w .int x5 v3).bind fun x6 =>
      if (f_X11_priority x4) ≤ (f_X11_priority x6) then
        f_X11_ahead_50 fu w (f_X11_ahead_16 fu w n) v0 v2 v4 v3
      else
        f_X11_ahead_50 fu w (f_X11_ahead_16 fu w n) v0 v2 v4 v4
def f_X11_ahead_10 (fu : Nat) (w : MW) (v0 : Nat) (v1 : Int32) (v2 : Int32) (s0 : Int32) : Option Int32 :=
  bnd s0 fun x1 =>
  bnd (v1 + (1 : Int32)) fun x2 =>
  f_X11_ahead_16 fu w fu v0 v2 x1 x2
def f_X11_ahead (fu : Nat) (w : MW) (v0 : Nat) (v1 : Int32) (v2 : Int32) : Option Int32 :=
  if v1 ≤ v2 then
    f_X11_ahead_10 fu w v0 v1 v2 v1
  else
    f_X11_ahead_10 fu w v0 v1 v2 (-1 : Int32)
def f_X11_goesTo_80 (fu : Nat) (lr38 : MW → Nat → Int32 → Int32 → Option MW) (w : MW) (v0 : Nat) (v1 : Int32) : Option MW :=
  (gI w 11 v0 12).bind fun x16 =>
  (gI w 11 v0 13).bind fun x17 =>
  (cl w 11 v0 (f_X11_ahead fu w v0 x16 x17)).bind fun q18 =>
  bnd q18 fun x21 =>
  lr38 w v0 v1 x21
def f_X11_goesTo_38 (fu : Nat) : Nat → MW → Nat → Int32 → Int32 → Option MW
  | 0, _, _, _, _ => none
  | n + 1, w, v0, v1, v2 =>
    if v2 = v1 then
      some w
    else
      (pV w 11 v0 14 (.int v2)).bind fun w12 =>
      (gI w12 11 v0 15).bind fun x13 =>
      (pV w12 11 v0 15 (.int (x13 + (1 : Int32)))).bind fun w14 =>
      if v2 ≤ v1 then
        (pV w14 11 v0 12 (.int (v2 + (1 : Int32)))).bind fun w15 =>
        f_X11_goesTo_80 fu (f_X11_goesTo_38 fu n) w15 v0 v1
      else
        (pV w14 11 v0 13 (.int (v2 - (1 : Int32)))).bind fun w22 =>
        f_X11_goesTo_80 fu (f_X11_goesTo_38 fu n) w22 v0 v1
def f_X11_goesTo (fu : Nat) (w : MW) (v0 : Nat) (v1 : Int32) : Option MW :=
  (pV w 11 v0 12 (.int (0 : Int32))).bind fun w1 =>
  (gI w1 11 v0 11).bind fun x2 =>
  (pV w1 11 v0 13 (.int (x2 - (1 : Int32)))).bind fun w3 =>
  (pV w3 11 v0 14 (.int (-1 : Int32))).bind fun w4 =>
  (pV w4 11 v0 15 (.int (0 : Int32))).bind fun w5 =>
  (gI w5 11 v0 12).bind fun x6 =>
  (gI w5 11 v0 13).bind fun x7 =>
  (cl w5 11 v0 (f_X11_ahead fu w5 v0 x6 x7)).bind fun q8 =>
  bnd q8 fun x11 =>
  f_X11_goesTo_38 fu fu w5 v0 v1 x11
def f_X11_depth (fu : Nat) (w : MW) (v0 : Nat) (v1 : Int32) : Option (Int32 × MW) :=
  (cl w 11 v0 (f_X11_goesTo fu w v0 v1)).bind fun q1 =>
  (gI q1 11 v0 15).bind fun x4 =>
  some (x4, q1)
def f_X11_high_34 (fu : Nat) (lr4 : MW → Nat → Int32 → Int32 → Option (Int32 × MW)) (w : MW) (v0 : Nat) (v2 : Int32) (s0 : Int32) : Option (Int32 × MW) :=
  bnd s0 fun x7 =>
  bnd (v2 + 1) fun x8 =>
  lr4 w v0 x7 x8
def f_X11_high_4 (fu : Nat) : Nat → MW → Nat → Int32 → Int32 → Option (Int32 × MW)
  | 0, _, _, _, _ => none
  | n + 1, w, v0, v1, v2 =>
    (gI w 11 v0 11).bind fun x3 =>
    if x3 ≤ v2 then
      some (v1, w)
    else
      (cl w 11 v0 (f_X11_depth fu w v0 v2)).bind fun q4 =>
      if (q4.1 + (1 : Int32)) ≤ v1 then
        f_X11_high_34 fu (f_X11_high_4 fu n) q4.2 v0 v2 v1
      else
        (cl q4.2 11 v0 (f_X11_depth fu q4.2 v0 v2)).bind fun q9 =>
        f_X11_high_34 fu (f_X11_high_4 fu n) q9.2 v0 v2 (q9.1 + (1 : Int32))
def f_X11_high (fu : Nat) (w : MW) (v0 : Nat) : Option (Int32 × MW) :=
  bnd (0 : Int32) fun x1 =>
  bnd (0 : Int32) fun x2 =>
  f_X11_high_4 fu fu w v0 x1 x2
def f_X11_farOf_21 (fu : Nat) (w : MW) (v0 : Nat) (v1 : Int32) (v2 : Int32) (v3 : Int32) (s0 : Int32) : Option (Int32 × MW) :=
  bnd s0 fun x2 =>
  (cl w 11 v0 (f_X11_depth fu w v0 v1)).bind fun q3 =>
  (cl q3.2 11 v0 (f_X11_depth fu q3.2 v0 v2)).bind fun q6 =>
  (cl q6.2 11 v0 (f_X11_ahead fu q6.2 v0 v3 x2)).bind fun q9 =>
  (cl q6.2 11 v0 (f_X11_depth fu q6.2 v0 q9)).bind fun q12 =>
  some (((q3.1 + q6.1) - ((2 : Int32) * q12.1)), q12.2)
def f_X11_farOf_10 (fu : Nat) (w : MW) (v0 : Nat) (v1 : Int32) (v2 : Int32) (s0 : Int32) : Option (Int32 × MW) :=
  bnd s0 fun x1 =>
  if v2 ≤ v1 then
    f_X11_farOf_21 fu w v0 v1 v2 x1 v1
  else
    f_X11_farOf_21 fu w v0 v1 v2 x1 v2
def f_X11_farOf (fu : Nat) (w : MW) (v0 : Nat) (v1 : Int32) (v2 : Int32) : Option (Int32 × MW) :=
  if v2 ≤ v1 then
    f_X11_farOf_10 fu w v0 v1 v2 v2
  else
    f_X11_farOf_10 fu w v0 v1 v2 v1
def f_X11_endsRun_59 (fu : Nat) : Nat → MW → Nat → Int32 → Option MW
  | 0, _, _, _ => none
  | n + 1, w, v0, v1 =>
    if v1 ≤ (1 : Int32) then
      some w
    else
      (gI w 11 v0 17).bind fun x12 =>
      (pV w 11 v0 17 (.int (x12 + (1 : Int32)))).bind fun w13 =>
      bnd (v1 / (2 : Int32)) fun x14 =>
      (f_X11_endsRun_59 fu n) w13 v0 x14
def f_X11_endsRun_41 (fu : Nat) (w : MW) (v0 : Nat) (s0 : Nat) (s1 : Int32) : Option MW :=
  (pV w 11 s0 18 (.int s1)).bind fun w7 =>
  (gI w7 11 v0 17).bind fun x8 =>
  (pV w7 11 v0 17 (.int (x8 + (1 : Int32)))).bind fun w9 =>
  (gI w9 11 v0 19).bind fun x10 =>
  bnd x10 fun x11 =>
  f_X11_endsRun_59 fu fu w9 v0 x11
def f_X11_endsRun (fu : Nat) (w : MW) (v0 : Nat) : Option MW :=
  (gI w 11 v0 19).bind fun x1 =>
  if x1 = 0 then
    some w
  else
    (gI w 11 v0 16).bind fun x2 =>
    (pV w 11 v0 16 (.int (x2 + (1 : Int32)))).bind fun w3 =>
    (gI w3 11 v0 19).bind fun x4 =>
    (gI w3 11 v0 18).bind fun x5 =>
    if x4 ≤ x5 then
      (gI w3 11 v0 18).bind fun x6 =>
      f_X11_endsRun_41 fu w3 v0 v0 x6
    else
      (gI w3 11 v0 19).bind fun x15 =>
      f_X11_endsRun_41 fu w3 v0 v0 x15
def f_X11_goes_22 (fu : Nat) (w : MW) (v0 : Nat) : Option MW :=
  (gI w 11 v0 19).bind fun x2 =>
  (pV w 11 v0 19 (.int (x2 + (1 : Int32)))).bind fun w3 =>
  some w3
def f_X11_goes (fu : Nat) (w : MW) (v0 : Nat) (v1 : Int32) : Option MW :=
  (gI w 11 v0 20).bind fun x1 =>
  if v1 = x1 then
    f_X11_goes_22 fu w v0
  else
    (cl w 11 v0 (f_X11_endsRun fu w v0)).bind fun q4 =>
    (pV q4 11 v0 19 (.int (0 : Int32))).bind fun w7 =>
    (pV w7 11 v0 20 (.int v1)).bind fun w8 =>
    f_X11_goes_22 fu w8 v0
def f_X11_laysRuns_146 (fu : Nat) (lr30 : MW → Nat → Int32 → Int32 → Int32 → Int32 → Option MW) (w : MW) (v0 : Nat) (v1 : Int32) (v2 : Int32) (v3 : Int32) (s0 : Int32) (s1 : Int32) : Option MW :=
  bnd (s0 + s1) fun x23 =>
  lr30 w v0 v1 v2 v3 x23
def f_X11_laysRuns_130 (fu : Nat) (lr30 : MW → Nat → Int32 → Int32 → Int32 → Int32 → Option MW) (w : MW) (v0 : Nat) (v1 : Int32) (v2 : Int32) (v4 : Int32) (v5 : Int32) (v6 : Int32) (s0 : Int32) (s1 : Int32) : Option MW :=
  bnd (s0 + s1) fun x22 =>
  if v5 < v6 then
    f_X11_laysRuns_146 fu lr30 w v0 v1 v2 x22 v4 (0 : Int32)
  else
    f_X11_laysRuns_146 fu lr30 w v0 v1 v2 x22 v4 (1 : Int32)
def f_X11_laysRuns_117 (fu : Nat) (lr30 : MW → Nat → Int32 → Int32 → Int32 → Int32 → Option MW) (w : MW) (v0 : Nat) (v1 : Int32) (v2 : Int32) (v3 : Int32) (v4 : Int32) (v5 : Int32) (v6 : Int32) : Option MW :=
  if v6 < v5 then
    f_X11_laysRuns_130 fu lr30 w v0 v1 v2 v4 v5 v6 v3 (0 : Int32)
  else
    f_X11_laysRuns_130 fu lr30 w v0 v1 v2 v4 v5 v6 v3 (1 : Int32)
def f_X11_laysRuns_95 (fu : Nat) (lr30 : MW → Nat → Int32 → Int32 → Int32 → Int32 → Option MW) (w : MW) (v0 : Nat) (v1 : Int32) (v2 : Int32) (v3 : Int32) (v4 : Int32) (v5 : Int32) (s0 : Int32) : Option MW :=
  bnd s0 fun x18 =>
  if x18 < v5 then
    (cl w 11 v0 (f_X11_goes fu w v0 (1 : Int32))).bind fun q19 =>
    f_X11_laysRuns_117 fu lr30 q19 v0 v1 v2 v3 v4 v5 x18
  else
    (cl w 11 v0 (f_X11_goes fu w v0 (0 : Int32))).bind fun q24 =>
    f_X11_laysRuns_117 fu lr30 q24 v0 v1 v2 v3 v4 v5 x18
def f_X11_laysRuns_70 (fu : Nat) (lr30 : MW → Nat → Int32 → Int32 → Int32 → Int32 → Option MW) (w : MW) (v0 : Nat) (v1 : Int32) (v2 : Int32) (v3 : Int32) (v4 : Int32) (s0 : Int32) : Option MW :=
  bnd s0 fun x14 =>
  (cl w 11 v0 (f_X11_many w v0 v2)).bind fun q15 =>
  if q15 ≤ v4 then
    f_X11_laysRuns_95 fu lr30 w v0 v1 v2 v3 v4 x14 (10000 : Int32)
  else
    (cl w 11 v0 (f_X11_keyAt w v0 v2 v4)).bind fun q27 =>
    f_X11_laysRuns_95 fu lr30 w v0 v1 v2 v3 v4 x14 q27
def f_X11_laysRuns_49 (fu : Nat) (lr30 : MW → Nat → Int32 → Int32 → Int32 → Int32 → Option MW) (w : MW) (v0 : Nat) (v1 : Int32) (v2 : Int32) (v3 : Int32) (v4 : Int32) : Option MW :=
  (cl w 11 v0 (f_X11_many w v0 v1)).bind fun q11 =>
  if q11 ≤ v3 then
    f_X11_laysRuns_70 fu lr30 w v0 v1 v2 v3 v4 (10000 : Int32)
  else
    (cl w 11 v0 (f_X11_keyAt w v0 v1 v3)).bind fun q30 =>
    f_X11_laysRuns_70 fu lr30 w v0 v1 v2 v3 v4 q30
def f_X11_laysRuns_30 (fu : Nat) : Nat → MW → Nat → Int32 → Int32 → Int32 → Int32 → Option MW
  | 0, _, _, _, _, _, _ => none
  | n + 1, w, v0, v1, v2, v3, v4 =>
    (cl w 11 v0 (f_X11_many w v0 v1)).bind fun q8 =>
    if v3 < q8 then
      f_X11_laysRuns_49 fu (f_X11_laysRuns_30 fu n) w v0 v1 v2 v3 v4
    else
      (cl w 11 v0 (f_X11_many w v0 v2)).bind fun q33 =>
      if q33 ≤ v4 then
        (cl w 11 v0 (f_X11_endsRun fu w v0)).bind fun q36 =>
        some q36
      else
        f_X11_laysRuns_49 fu (f_X11_laysRuns_30 fu n) w v0 v1 v2 v3 v4
def f_X11_laysRuns (fu : Nat) (w : MW) (v0 : Nat) (v1 : Int32) (v2 : Int32) : Option MW :=
  (pV w 11 v0 16 (.int (0 : Int32))).bind fun w1 =>
  (pV w1 11 v0 17 (.int (0 : Int32))).bind fun w2 =>
  (pV w2 11 v0 18 (.int (0 : Int32))).bind fun w3 =>
  (pV w3 11 v0 19 (.int (0 : Int32))).bind fun w4 =>
  (pV w4 11 v0 20 (.int (-1 : Int32))).bind fun w5 =>
  bnd (0 : Int32) fun x6 =>
  bnd (0 : Int32) fun x7 =>
  f_X11_laysRuns_30 fu fu w5 v0 v1 v2 x6 x7
def f_X11_areTwo (w : MW) (v0 : Nat) (v1 : Int32) (v2 : Int32) : Option Int32 :=
  if (f_X11_isSet v1) = 0 then
    some (0 : Int32)
  else
    if (f_X11_isSet v2) = 0 then
      some (0 : Int32)
    else
      if v1 = v2 then
        some (0 : Int32)
      else
        some (1 : Int32)
def f_X11_refusesPut (fu : Nat) (w : MW) (v0 : Nat) (v1 : Int32) (v2 : Int32) : Option Int32 :=
  if (f_X11_isSet v1) = 0 then
    some (1 : Int32)
  else
    if (f_X11_isKey v2) = 0 then
      some (1 : Int32)
    else
      (cl w 11 v0 (f_X11_placeOf fu w v0 v1 v2)).bind fun q1 =>
      if q1 = (-1 : Int32) then
        (cl w 11 v0 (f_X11_many w v0 v1)).bind fun q4 =>
        if q4 = (60 : Int32) then
          some (4 : Int32)
        else
          (cl w 11 v0 (f_X11_total fu w v0)).bind fun q7 =>
          if q7 = (240 : Int32) then
            some (4 : Int32)
          else
            some (0 : Int32)
      else
        some (2 : Int32)
def f_X11_refusesCut (fu : Nat) (w : MW) (v0 : Nat) (v1 : Int32) (v2 : Int32) (v3 : Int32) : Option Int32 :=
  (cl w 11 v0 (f_X11_areTwo w v0 v1 v3)).bind fun q1 =>
  if q1 = 0 then
    some (1 : Int32)
  else
    if (f_X11_isKey v2) = 0 then
      some (1 : Int32)
    else
      (cl w 11 v0 (f_X11_counted fu w v0 v1 (v2 + (1 : Int32)) (9999 : Int32))).bind fun q4 =>
      if q4 = 0 then
        some (2 : Int32)
      else
        (cl w 11 v0 (f_X11_many w v0 v3)).bind fun q7 =>
        if q7 ≤ 0 then
          some (0 : Int32)
        else
          some (3 : Int32)
def f_X11_refusesJoin_52 (w : MW) (v0 : Nat) (v1 : Int32) (v2 : Int32) : Option Int32 :=
  (cl w 11 v0 (f_X11_many w v0 v1)).bind fun q10 =>
  (cl w 11 v0 (f_X11_many w v0 v2)).bind fun q13 =>
  if (q10 + q13) ≤ (60 : Int32) then
    some (0 : Int32)
  else
    some (4 : Int32)
def f_X11_refusesJoin (w : MW) (v0 : Nat) (v1 : Int32) (v2 : Int32) : Option Int32 :=
  (cl w 11 v0 (f_X11_areTwo w v0 v1 v2)).bind fun q1 =>
  if q1 = 0 then
    some (1 : Int32)
  else
    (cl w 11 v0 (f_X11_many w v0 v2)).bind fun q4 =>
    if q4 = 0 then
      some (2 : Int32)
    else
      (cl w 11 v0 (f_X11_many w v0 v1)).bind fun q7 =>
      if q7 ≤ 0 then
        f_X11_refusesJoin_52 w v0 v1 v2
      else
        (cl w 11 v0 (f_X11_many w v0 v1)).bind fun q16 =>
        (cl w 11 v0 (f_X11_keyAt w v0 v1 (q16 - (1 : Int32)))).bind fun q19 =>
        (cl w 11 v0 (f_X11_keyAt w v0 v2 (0 : Int32))).bind fun q22 =>
        if q19 < q22 then
          f_X11_refusesJoin_52 w v0 v1 v2
        else
          some (3 : Int32)
def f_X11_refusesMelt (fu : Nat) (w : MW) (v0 : Nat) (v1 : Int32) (v2 : Int32) : Option Int32 :=
  (cl w 11 v0 (f_X11_areTwo w v0 v1 v2)).bind fun q1 =>
  if q1 = 0 then
    some (1 : Int32)
  else
    (cl w 11 v0 (f_X11_many w v0 v2)).bind fun q4 =>
    if q4 = 0 then
      some (2 : Int32)
    else
      (cl w 11 v0 (f_X11_many w v0 v1)).bind fun q7 =>
      (cl w 11 v0 (f_X11_many w v0 v2)).bind fun q10 =>
      (cl w 11 v0 (f_X11_twins fu w v0 v1 v2)).bind fun q13 =>
      if ((q7 + q10) - q13) ≤ (60 : Int32) then
        some (0 : Int32)
      else
        some (4 : Int32)
def f_X11_refusesShift (w : MW) (v0 : Nat) (v1 : Int32) (v2 : Int32) : Option Int32 :=
  if (f_X11_isSet v1) = 0 then
    some (1 : Int32)
  else
    if (f_X11_isIn v2 (-9999 : Int32) (9999 : Int32)) = 0 then
      some (1 : Int32)
    else
      if v2 = 0 then
        some (2 : Int32)
      else
        (cl w 11 v0 (f_X11_many w v0 v1)).bind fun q1 =>
        if q1 = 0 then
          some (2 : Int32)
        else
          (cl w 11 v0 (f_X11_keyAt w v0 v1 (0 : Int32))).bind fun q4 =>
          if (f_X11_isKey (q4 + v2)) = 0 then
            some (3 : Int32)
          else
            (cl w 11 v0 (f_X11_many w v0 v1)).bind fun q7 =>
            (cl w 11 v0 (f_X11_keyAt w v0 v1 (q7 - (1 : Int32)))).bind fun q10 =>
            if (f_X11_isKey (q10 + v2)) = 0 then
              some (3 : Int32)
            else
              some (0 : Int32)
def f_X11_refusesMove (fu : Nat) (w : MW) (v0 : Nat) (v1 : Int32) (v2 : Int32) (v3 : Int32) (v4 : Int32) : Option Int32 :=
  (cl w 11 v0 (f_X11_areTwo w v0 v1 v4)).bind fun q1 =>
  if q1 = 0 then
    some (1 : Int32)
  else
    if (f_X11_isKey v2) = 0 then
      some (1 : Int32)
    else
      if (f_X11_isKey v3) = 0 then
        some (1 : Int32)
      else
        (cl w 11 v0 (f_X11_counted fu w v0 v1 v2 v3)).bind fun q4 =>
        bnd q4 fun x7 =>
        if x7 = 0 then
          some (2 : Int32)
        else
          (cl w 11 v0 (f_X11_below fu w v0 v1 v2)).bind fun q8 =>
          bnd q8 fun x11 =>
          (cl w 11 v0 (f_X11_keyAt w v0 v1 x11)).bind fun q12 =>
          (cl w 11 v0 (f_X11_keyAt w v0 v1 ((x11 + x7) - (1 : Int32)))).bind fun q15 =>
          (cl w 11 v0 (f_X11_counted fu w v0 v4 q12 q15)).bind fun q18 =>
          if q18 ≤ 0 then
            (cl w 11 v0 (f_X11_many w v0 v4)).bind fun q21 =>
            if (q21 + x7) ≤ (60 : Int32) then
              some (0 : Int32)
            else
              some (4 : Int32)
          else
            some (3 : Int32)
def f_X11_marked_76 (fu : Nat) (lr6 : MW → Nat → Int32 → Int32 → Int32 → Int32 → Int32 → Int32 → Int32 → Option (Int32 × MW)) (w : MW) (v0 : Nat) (v1 : Int32) (v2 : Int32) (v3 : Int32) (v4 : Int32) (v5 : Int32) (v6 : Int32) (v7 : Int32) : Option (Int32 × MW) :=
  bnd (v7 + 1) fun x9 =>
  lr6 w v0 v1 v2 v3 v4 v5 v6 x9
def f_X11_marked_6 (fu : Nat) : Nat → MW → Nat → Int32 → Int32 → Int32 → Int32 → Int32 → Int32 → Int32 → Option (Int32 × MW)
  | 0, _, _, _, _, _, _, _, _, _ => none
  | n + 1, w, v0, v1, v2, v3, v4, v5, v6, v7 =>
    (cl w 11 v0 (f_X11_many w v0 v1)).bind fun q3 =>
    if q3 ≤ v7 then
      some (v6, w)
    else
      (cl w 11 v0 (f_X11_keyAt w v0 v1 v7)).bind fun q6 =>
      if (f_X11_isIn q6 v2 v3) = 0 then
        f_X11_marked_76 fu (f_X11_marked_6 fu n) w v0 v1 v2 v3 v4 v5 v6 v7
      else
        (cl w 11 v0 (f_X11_markAt w v0 v1 v7)).bind fun q10 =>
        if q10 = v4 then
          f_X11_marked_76 fu (f_X11_marked_6 fu n) w v0 v1 v2 v3 v4 v5 v6 v7
        else
          bnd (v6 + 1) fun x13 =>
          if v5 = 0 then
            f_X11_marked_76 fu (f_X11_marked_6 fu n) w v0 v1 v2 v3 v4 v5 x13 v7
          else
            (gR w 11 v0 0).bind fun x14 =>
            (gI w 11 v0 9).bind fun x15 =>
            (sI w .int x14 (((x15 + ((122 : Int32) * v1)) + (62 : Int32)) + v7) v4).bind fun w16 =>
            f_X11_marked_76 fu (f_X11_marked_6 fu n) w16 v0 v1 v2 v3 v4 v5 x13 v7
def f_X11_marked (fu : Nat) (w : MW) (v0 : Nat) (v1 : Int32) (v2 : Int32) (v3 : Int32) (v4 : Int32) (v5 : Int32) : Option (Int32 × MW) :=
  bnd (0 : Int32) fun x1 =>
  bnd (0 : Int32) fun x2 =>
  f_X11_marked_6 fu fu w v0 v1 v2 v3 v4 v5 x1 x2
def f_X11_refusesMark (fu : Nat) (w : MW) (v0 : Nat) (v1 : Int32) (v2 : Int32) (v3 : Int32) (v4 : Int32) : Option (Int32 × MW) :=
  if (f_X11_isSet v1) = 0 then
    some ((1 : Int32), w)
  else
    if (f_X11_isKey v2) = 0 then
      some ((1 : Int32), w)
    else
      if (f_X11_isKey v3) = 0 then
        some ((1 : Int32), w)
      else
        (cl w 11 v0 (f_X11_marked fu w v0 v1 v2 v3 v4 (0 : Int32))).bind fun q1 =>
        if q1.1 = 0 then
          some ((2 : Int32), q1.2)
        else
          some ((0 : Int32), q1.2)
def f_X11_goOver_109 (fu : Nat) (lr20 : MW → Nat → Int32 → Int32 → Int32 → Int32 → Int32 → Option (Int32 × MW)) (w : MW) (v0 : Nat) (v1 : Int32) (v4 : Int32) (v5 : Int32) (v6 : Int32) (v7 : Int32) : Option (Int32 × MW) :=
  bnd (v7 + 1) fun x25 =>
  lr20 w v0 v1 v4 v5 v6 x25
def f_X11_goOver_20 (fu : Nat) : Nat → MW → Nat → Int32 → Int32 → Int32 → Int32 → Int32 → Option (Int32 × MW)
  | 0, _, _, _, _, _, _, _ => none
  | n + 1, w, v0, v1, v4, v5, v6, v7 =>
    if v5 ≤ v7 then
      some (v5, w)
    else
      (cl w 11 v0 (f_X11_keyAt w v0 v1 v6)).bind fun q10 =>
      bnd q10 fun x13 =>
      (cl w 11 v0 (f_X11_markAt w v0 v1 v6)).bind fun q14 =>
      bnd q14 fun x17 =>
      (cl w 11 v0 (f_X11_drops fu w v0 v1 v6)).bind fun q18 =>
      (cl q18 11 v0 (f_X11_placeOf fu q18 v0 v4 x13)).bind fun q21 =>
      bnd q21 fun x24 =>
      if x24 = (-1 : Int32) then
        (cl q18 11 v0 (f_X11_puts fu q18 v0 v4 x13 x17)).bind fun q29 =>
        f_X11_goOver_109 fu (f_X11_goOver_20 fu n) q29 v0 v1 v4 v5 v6 v7
      else
        if x17 = (1 : Int32) then
          (gR q18 11 v0 0).bind fun x26 =>
          (gI q18 11 v0 9).bind fun x27 =>
          (sI q18 .int x26 (((x27 + ((122 : Int32) * v4)) + (62 : Int32)) + x24) (1 : Int32)).bind fun w28 =>
          f_X11_goOver_109 fu (f_X11_goOver_20 fu n) w28 v0 v1 v4 v5 v6 v7
        else
          f_X11_goOver_109 fu (f_X11_goOver_20 fu n) q18 v0 v1 v4 v5 v6 v7
def f_X11_goOver (fu : Nat) (w : MW) (v0 : Nat) (v1 : Int32) (v2 : Int32) (v3 : Int32) (v4 : Int32) : Option (Int32 × MW) :=
  (cl w 11 v0 (f_X11_counted fu w v0 v1 v2 v3)).bind fun q1 =>
  bnd q1 fun x4 =>
  (cl w 11 v0 (f_X11_below fu w v0 v1 v2)).bind fun q5 =>
  bnd q5 fun x8 =>
  bnd (0 : Int32) fun x9 =>
  f_X11_goOver_20 fu fu w v0 v1 v4 x4 x8 x9
def f_X11_shifts_2 (fu : Nat) : Nat → MW → Nat → Int32 → Int32 → Int32 → Option MW
  | 0, _, _, _, _, _ => none
  | n + 1, w, v0, v1, v2, v3 =>
    (cl w 11 v0 (f_X11_many w v0 v1)).bind fun q2 =>
    if q2 ≤ v3 then
      (cl w 11 v0 (f_X11_finger w v0 v1)).bind fun q5 =>
      if q5 = (-1 : Int32) then
        some w
      else
        (cl w 11 v0 (f_X11_finger w v0 v1)).bind fun q8 =>
        (cl w 11 v0 (f_X11_points w v0 v1 (q8 + v2))).bind fun q11 =>
        some q11
    else
      (gR w 11 v0 0).bind fun x14 =>
      (gI w 11 v0 9).bind fun x15 =>
      (aI w .int x14 (((x15 + ((122 : Int32) * v1)) + (2 : Int32)) + v3)).bind fun x16 =>
      (sI w .int x14 (((x15 + ((122 : Int32) * v1)) + (2 : Int32)) + v3) (x16 + v2)).bind fun w17 =>
      bnd (v3 + 1) fun x18 =>
      (f_X11_shifts_2 fu n) w17 v0 v1 v2 x18
def f_X11_shifts (fu : Nat) (w : MW) (v0 : Nat) (v1 : Int32) (v2 : Int32) : Option MW :=
  bnd (0 : Int32) fun x1 =>
  f_X11_shifts_2 fu fu w v0 v1 v2 x1
def f_X11_keeps_32 (fu : Nat) (w : MW) (v0 : Nat) : Option MW :=
  (gI w 11 v0 8).bind fun x2 =>
  (cl w 11 v0 (f_X11_copies fu w v0 (0 : Int32) ((1952 : Int32) + ((976 : Int32) * x2)) (976 : Int32))).bind fun q3 =>
  (gI q3 11 v0 8).bind fun x6 =>
  (pV q3 11 v0 8 (.int (x6 + (1 : Int32)))).bind fun w7 =>
  some w7
def f_X11_keeps (fu : Nat) (w : MW) (v0 : Nat) : Option MW :=
  (gI w 11 v0 8).bind fun x1 =>
  if x1 = (12 : Int32) then
    (cl w 11 v0 (f_X11_copies fu w v0 (2928 : Int32) (1952 : Int32) (10736 : Int32))).bind fun q8 =>
    (gI q8 11 v0 8).bind fun x11 =>
    (pV q8 11 v0 8 (.int (x11 - (1 : Int32)))).bind fun w12 =>
    f_X11_keeps_32 fu w12 v0
  else
    f_X11_keeps_32 fu w v0
def f_X11_begins (fu : Nat) (w : MW) (v0 : Nat) (v1 : Int32) : Option (Int32 × MW) :=
  if v1 = 0 then
    (cl w 11 v0 (f_X11_keeps fu w v0)).bind fun q1 =>
    some (v1, q1)
  else
    some (v1, w)
def f_X11_put (fu : Nat) (w : MW) (v0 : Nat) (v1 : Int32) (v2 : Int32) : Option (Int32 × MW) :=
  (cl w 11 v0 (f_X11_refusesPut fu w v0 v1 v2)).bind fun q1 =>
  (cl w 11 v0 (f_X11_begins fu w v0 q1)).bind fun q4 =>
  bnd q4.1 fun x7 =>
  if x7 ≤ 0 then
    (cl q4.2 11 v0 (f_X11_puts fu q4.2 v0 v1 v2 (0 : Int32))).bind fun q8 =>
    (cl q8 11 v0 (f_X11_below fu q8 v0 v1 v2)).bind fun q11 =>
    some (q11, q8)
  else
    some ((-x7), q4.2)
def f_X11_drop_34 (fu : Nat) (w : MW) (v0 : Nat) (v1 : Int32) (v2 : Int32) (s0 : Nat) (s1 : Int32) : Option (Int32 × MW) :=
  (cl w 11 s0 (f_X11_begins fu w s0 s1)).bind fun q1 =>
  bnd q1.1 fun x4 =>
  if x4 ≤ 0 then
    (cl q1.2 11 v0 (f_X11_placeOf fu q1.2 v0 v1 v2)).bind fun q5 =>
    (cl q1.2 11 v0 (f_X11_drops fu q1.2 v0 v1 q5)).bind fun q8 =>
    (cl q8 11 v0 (f_X11_many q8 v0 v1)).bind fun q11 =>
    some (q11, q8)
  else
    some ((-x4), q1.2)
def f_X11_drop (fu : Nat) (w : MW) (v0 : Nat) (v1 : Int32) (v2 : Int32) : Option (Int32 × MW) :=
  if (f_X11_isSet v1) = 0 then
    f_X11_drop_34 fu w v0 v1 v2 v0 (1 : Int32)
  else
    if (f_X11_isKey v2) = 0 then
      f_X11_drop_34 fu w v0 v1 v2 v0 (1 : Int32)
    else
      (cl w 11 v0 (f_X11_placeOf fu w v0 v1 v2)).bind fun q14 =>
      if q14 = (-1 : Int32) then
        f_X11_drop_34 fu w v0 v1 v2 v0 (2 : Int32)
      else
        f_X11_drop_34 fu w v0 v1 v2 v0 (0 : Int32)
def f_X11_cut (fu : Nat) (w : MW) (v0 : Nat) (v1 : Int32) (v2 : Int32) (v3 : Int32) : Option (Int32 × MW) :=
  (cl w 11 v0 (f_X11_refusesCut fu w v0 v1 v2 v3)).bind fun q1 =>
  (cl w 11 v0 (f_X11_begins fu w v0 q1)).bind fun q4 =>
  bnd q4.1 fun x7 =>
  if x7 ≤ 0 then
    (cl q4.2 11 v0 (f_X11_goOver fu q4.2 v0 v1 (v2 + (1 : Int32)) (9999 : Int32) v3)).bind fun q8 =>
    some (q8.1, q8.2)
  else
    some ((-x7), q4.2)
def f_X11_join (fu : Nat) (w : MW) (v0 : Nat) (v1 : Int32) (v2 : Int32) : Option (Int32 × MW) :=
  (cl w 11 v0 (f_X11_refusesJoin w v0 v1 v2)).bind fun q1 =>
  (cl w 11 v0 (f_X11_begins fu w v0 q1)).bind fun q4 =>
  bnd q4.1 fun x7 =>
  if x7 ≤ 0 then
    (cl q4.2 11 v0 (f_X11_many q4.2 v0 v1)).bind fun q8 =>
    (cl q4.2 11 v0 (f_X11_goOver fu q4.2 v0 v2 (0 : Int32) (9999 : Int32) v1)).bind fun q11 =>
    some ((q8 + q11.1), q11.2)
  else
    some ((-x7), q4.2)
def f_X11_melt (fu : Nat) (w : MW) (v0 : Nat) (v1 : Int32) (v2 : Int32) : Option (Int32 × MW) :=
  (cl w 11 v0 (f_X11_refusesMelt fu w v0 v1 v2)).bind fun q1 =>
  (cl w 11 v0 (f_X11_begins fu w v0 q1)).bind fun q4 =>
  bnd q4.1 fun x7 =>
  if x7 ≤ 0 then
    (cl q4.2 11 v0 (f_X11_laysRuns fu q4.2 v0 v1 v2)).bind fun q8 =>
    (gI q8 11 v0 17).bind fun x11 =>
    bnd x11 fun x12 =>
    (cl q8 11 v0 (f_X11_goOver fu q8 v0 v2 (0 : Int32) (9999 : Int32) v1)).bind fun q13 =>
    bnd q13.1 fun x16 =>
    if x16 ≤ 0 then
      some ((0 : Int32), q13.2)
    else
      some (x12, q13.2)
  else
    some ((-x7), q4.2)
def f_X11_shift (fu : Nat) (w : MW) (v0 : Nat) (v1 : Int32) (v2 : Int32) : Option (Int32 × MW) :=
  (cl w 11 v0 (f_X11_refusesShift w v0 v1 v2)).bind fun q1 =>
  (cl w 11 v0 (f_X11_begins fu w v0 q1)).bind fun q4 =>
  bnd q4.1 fun x7 =>
  if x7 ≤ 0 then
    (cl q4.2 11 v0 (f_X11_shifts fu q4.2 v0 v1 v2)).bind fun q8 =>
    (cl q8 11 v0 (f_X11_many q8 v0 v1)).bind fun q11 =>
    some (q11, q8)
  else
    some ((-x7), q4.2)
def f_X11_move (fu : Nat) (w : MW) (v0 : Nat) (v1 : Int32) (v2 : Int32) (v3 : Int32) (v4 : Int32) : Option (Int32 × MW) :=
  (cl w 11 v0 (f_X11_refusesMove fu w v0 v1 v2 v3 v4)).bind fun q1 =>
  (cl w 11 v0 (f_X11_begins fu w v0 q1)).bind fun q4 =>
  bnd q4.1 fun x7 =>
  if x7 ≤ 0 then
    (cl q4.2 11 v0 (f_X11_goOver fu q4.2 v0 v1 v2 v3 v4)).bind fun q8 =>
    some (q8.1, q8.2)
  else
    some ((-x7), q4.2)
def f_X11_mark_48 (fu : Nat) (w : MW) (s0 : Nat) (s1 : Int32) (s2 : Int32) (s3 : Int32) (s4 : Int32) : Option (Int32 × MW) :=
  (cl w 11 s0 (f_X11_marked fu w s0 s1 s2 s3 s4 (1 : Int32))).bind fun q8 =>
  some (q8.1, q8.2)
def f_X11_mark_15 (fu : Nat) (w : MW) (v0 : Nat) (v1 : Int32) (v2 : Int32) (v3 : Int32) (v4 : Int32) (s0 : Nat) (s1 : Nat) (s2 : Int32) (s3 : Int32) (s4 : Int32) (s5 : Int32) : Option (Int32 × MW) :=
  (cl w 11 s1 (f_X11_refusesMark fu w s1 s2 s3 s4 s5)).bind fun q1 =>
  (cl q1.2 11 s0 (f_X11_begins fu q1.2 s0 q1.1)).bind fun q4 =>
  bnd q4.1 fun x7 =>
  if x7 ≤ 0 then
    if v4 = 0 then
      f_X11_mark_48 fu q4.2 v0 v1 v2 v3 (1 : Int32)
    else
      f_X11_mark_48 fu q4.2 v0 v1 v2 v3 (0 : Int32)
  else
    some ((-x7), q4.2)
def f_X11_mark (fu : Nat) (w : MW) (v0 : Nat) (v1 : Int32) (v2 : Int32) (v3 : Int32) (v4 : Int32) : Option (Int32 × MW) :=
  if v4 = 0 then
    f_X11_mark_15 fu w v0 v1 v2 v3 v4 v0 v0 v1 v2 v3 (1 : Int32)
  else
    f_X11_mark_15 fu w v0 v1 v2 v3 v4 v0 v0 v1 v2 v3 (0 : Int32)
def f_X11_seek_92 (fu : Nat) (w : MW) (v0 : Nat) (v1 : Int32) (v4 : Int32) (s0 : Int32) : Option (Int32 × MW) :=
  bnd s0 fun x19 =>
  (cl w 11 v0 (f_X11_keyAt w v0 v1 v4)).bind fun q20 =>
  (cl w 11 v0 (f_X11_points w v0 v1 q20)).bind fun q23 =>
  (cl q23 11 v0 (f_X11_laysRow fu q23 v0 v1)).bind fun q26 =>
  (cl q26 11 v0 (f_X11_farOf fu q26 v0 x19 v4)).bind fun q29 =>
  some (q29.1, q29.2)
def f_X11_seek_66 (fu : Nat) (w : MW) (v0 : Nat) (v1 : Int32) (s0 : Int32) : Option (Int32 × MW) :=
  bnd s0 fun x9 =>
  (cl w 11 v0 (f_X11_finger w v0 v1)).bind fun q10 =>
  if q10 = (-1 : Int32) then
    f_X11_seek_92 fu w v0 v1 x9 x9
  else
    (cl w 11 v0 (f_X11_finger w v0 v1)).bind fun q13 =>
    (cl w 11 v0 (f_X11_placeOf fu w v0 v1 q13)).bind fun q16 =>
    f_X11_seek_92 fu w v0 v1 x9 q16
def f_X11_seek_32 (fu : Nat) (w : MW) (v0 : Nat) (v1 : Int32) (v2 : Int32) (s0 : Nat) (s1 : Int32) : Option (Int32 × MW) :=
  (cl w 11 s0 (f_X11_begins fu w s0 s1)).bind fun q1 =>
  bnd q1.1 fun x4 =>
  if x4 ≤ 0 then
    (cl q1.2 11 v0 (f_X11_below fu q1.2 v0 v1 (v2 + (1 : Int32)))).bind fun q5 =>
    bnd (q5 - (1 : Int32)) fun x8 =>
    if 0 ≤ x8 then
      f_X11_seek_66 fu q1.2 v0 v1 x8
    else
      f_X11_seek_66 fu q1.2 v0 v1 (0 : Int32)
  else
    some ((-x4), q1.2)
def f_X11_seek (fu : Nat) (w : MW) (v0 : Nat) (v1 : Int32) (v2 : Int32) : Option (Int32 × MW) :=
  if (f_X11_isSet v1) = 0 then
    f_X11_seek_32 fu w v0 v1 v2 v0 (1 : Int32)
  else
    if (f_X11_isKey v2) = 0 then
      f_X11_seek_32 fu w v0 v1 v2 v0 (1 : Int32)
    else
      (cl w 11 v0 (f_X11_many w v0 v1)).bind fun q32 =>
      if q32 = 0 then
        f_X11_seek_32 fu w v0 v1 v2 v0 (2 : Int32)
      else
        f_X11_seek_32 fu w v0 v1 v2 v0 (0 : Int32)
def f_X11_undo (fu : Nat) (w : MW) (v0 : Nat) : Option (Int32 × MW) :=
  (gI w 11 v0 8).bind fun x1 =>
  if x1 = 0 then
    some ((-1 : Int32), w)
  else
    (gI w 11 v0 8).bind fun x2 =>
    (pV w 11 v0 8 (.int (x2 - (1 : Int32)))).bind fun w3 =>
    (gI w3 11 v0 8).bind fun x4 =>
    (cl w3 11 v0 (f_X11_copies fu w3 v0 ((1952 : Int32) + ((976 : Int32) * x4)) (0 : Int32) (976 : Int32))).bind fun q5 =>
    (gI q5 11 v0 8).bind fun x8 =>
    some (x8, q5)
def f_X11_summed_140 (fu : Nat) (lr13 : MW → Nat → Int32 → Int32 → Int32 → Int32 → Int32 → Option (Int32 × MW)) (w : MW) (v0 : Nat) (v1 : Int32) (v2 : Int32) (v4 : Int32) (v5 : Int32) (s0 : Int32) (s1 : Int32) : Option (Int32 × MW) :=
  bnd (s0 + s1) fun x12 =>
  bnd (v5 + 1) fun x13 =>
  lr13 w v0 v1 v2 x12 v4 x13
def f_X11_summed_75 (fu : Nat) (lr13 : MW → Nat → Int32 → Int32 → Int32 → Int32 → Int32 → Option (Int32 × MW)) (w : MW) (v0 : Nat) (v1 : Int32) (v2 : Int32) (v3 : Int32) (v5 : Int32) (v6 : Int32) (s0 : Int32) : Option (Int32 × MW) :=
  bnd s0 fun x9 =>
  if v2 = (3 : Int32) then
    (cl w 11 v0 (f_X11_markAt w v0 v1 v5)).bind fun q17 =>
    f_X11_summed_140 fu lr13 w v0 v1 v2 x9 v5 v3 q17
  else
    if v2 = (8 : Int32) then
      (cl w 11 v0 (f_X11_depth fu w v0 v5)).bind fun q14 =>
      f_X11_summed_140 fu lr13 q14.2 v0 v1 v2 x9 v5 v3 q14.1
    else
      if v2 = (9 : Int32) then
        if v5 ≤ 0 then
          f_X11_summed_140 fu lr13 w v0 v1 v2 x9 v5 v3 (1 : Int32)
        else
          if v6 = (1 : Int32) then
            f_X11_summed_140 fu lr13 w v0 v1 v2 x9 v5 v3 (0 : Int32)
          else
            f_X11_summed_140 fu lr13 w v0 v1 v2 x9 v5 v3 (1 : Int32)
      else
        (gR w 11 v0 10).bind fun x10 =>
        (aI w .int x10 v5).bind fun x11 =>
        f_X11_summed_140 fu lr13 w v0 v1 v2 x9 v5 v3 x11
def f_X11_summed_48 (fu : Nat) (lr13 : MW → Nat → Int32 → Int32 → Int32 → Int32 → Int32 → Option (Int32 × MW)) (w : MW) (v0 : Nat) (v1 : Int32) (v2 : Int32) (v3 : Int32) (v4 : Int32) (v5 : Int32) (s0 : Int32) : Option (Int32 × MW) :=
  bnd s0 fun x8 =>
  if v5 ≤ 0 then
    f_X11_summed_75 fu lr13 w v0 v1 v2 v3 v5 x8 v4
  else
    if v4 = (-1 : Int32) then
      f_X11_summed_75 fu lr13 w v0 v1 v2 v3 v5 x8 x8
    else
      if v4 ≤ x8 then
        f_X11_summed_75 fu lr13 w v0 v1 v2 v3 v5 x8 v4
      else
        f_X11_summed_75 fu lr13 w v0 v1 v2 v3 v5 x8 x8
def f_X11_summed_13 (fu : Nat) : Nat → MW → Nat → Int32 → Int32 → Int32 → Int32 → Int32 → Option (Int32 × MW)
  | 0, _, _, _, _, _, _, _ => none
  | n + 1, w, v0, v1, v2, v3, v4, v5 =>
    (gI w 11 v0 11).bind fun x7 =>
    if x7 ≤ v5 then
      if v2 = (7 : Int32) then
        some (v4, w)
      else
        some (v3, w)
    else
      if v5 ≤ 0 then
        f_X11_summed_48 fu (f_X11_summed_13 fu n) w v0 v1 v2 v3 v4 v5 (0 : Int32)
      else
        (gR w 11 v0 10).bind fun x20 =>
        (aI w .int x20 v5).bind fun x21 =>
        (gR w 11 v0 10).bind fun x22 =>
        (aI w .int x22 (v5 - (1 : Int32))).bind fun x23 =>
        f_X11_summed_48 fu (f_X11_summed_13 fu n) w v0 v1 v2 v3 v4 v5 (x21 - x23)
def f_X11_summed (fu : Nat) (w : MW) (v0 : Nat) (v1 : Int32) (v2 : Int32) : Option (Int32 × MW) :=
  (cl w 11 v0 (f_X11_laysRow fu w v0 v1)).bind fun q1 =>
  bnd (0 : Int32) fun x4 =>
  bnd (-1 : Int32) fun x5 =>
  bnd (0 : Int32) fun x6 =>
  f_X11_summed_13 fu fu q1 v0 v1 v2 x4 x5 x6
def f_X11_set (fu : Nat) (w : MW) (v0 : Nat) (v1 : Int32) (v2 : Int32) : Option (Int32 × MW) :=
  if (f_X11_isSet v1) = 0 then
    some ((-1 : Int32), w)
  else
    (cl w 11 v0 (f_X11_laysRow fu w v0 v1)).bind fun q1 =>
    if v2 = 0 then
      (gI q1 11 v0 11).bind fun x5 =>
      some (x5, q1)
    else if v2 = 1 then
      (gI q1 11 v0 11).bind fun x7 =>
      if x7 = 0 then
        some ((-1 : Int32), q1)
      else
        (gR q1 11 v0 10).bind fun x8 =>
        (aI q1 .int x8 (0 : Int32)).bind fun x9 =>
        some (x9, q1)
    else if v2 = 2 then
      (gI q1 11 v0 11).bind fun x11 =>
      if x11 = 0 then
        some ((-1 : Int32), q1)
      else
        (gR q1 11 v0 10).bind fun x12 =>
        (gI q1 11 v0 11).bind fun x13 =>
        (aI q1 .int x12 (x13 - (1 : Int32))).bind fun x14 =>
        some (x14, q1)
    else if v2 = 3 then
      (cl q1 11 v0 (f_X11_summed fu q1 v0 v1 v2)).bind fun q16 =>
      some (q16.1, q16.2)
    else if v2 = 4 then
      (gI q1 11 v0 11).bind fun x20 =>
      if x20 = 0 then
        some ((-1 : Int32), q1)
      else
        (gR q1 11 v0 10).bind fun x21 =>
        (gI q1 11 v0 11).bind fun x22 =>
        (cl q1 11 v0 (f_X11_ahead fu q1 v0 (0 : Int32) (x22 - (1 : Int32)))).bind fun q23 =>
        (aI q1 .int x21 q23).bind fun x26 =>
        some (x26, q1)
    else if v2 = 5 then
      (cl q1 11 v0 (f_X11_high fu q1 v0)).bind fun q28 =>
      some (q28.1, q28.2)
    else if v2 = 6 then
      (cl q1 11 v0 (f_X11_finger q1 v0 v1)).bind fun q32 =>
      some (q32, q1)
    else if v2 = 7 then
      (cl q1 11 v0 (f_X11_summed fu q1 v0 v1 v2)).bind fun q36 =>
      some (q36.1, q36.2)
    else if v2 = 8 then
      (cl q1 11 v0 (f_X11_summed fu q1 v0 v1 v2)).bind fun q40 =>
      some (q40.1, q40.2)
    else if v2 = 9 then
      (cl q1 11 v0 (f_X11_summed fu q1 v0 v1 v2)).bind fun q44 =>
      some (q44.1, q44.2)
    else if v2 = 10 then
      (cl q1 11 v0 (f_X11_summed fu q1 v0 v1 v2)).bind fun q48 =>
      some (q48.1, q48.2)
    else 
      some ((-1 : Int32), q1)
def f_X11_key (w : MW) (v0 : Nat) (v1 : Int32) (v2 : Int32) : Option Int32 :=
  if (f_X11_isSet v1) = 0 then
    some (-1 : Int32)
  else
    (cl w 11 v0 (f_X11_many w v0 v1)).bind fun q1 =>
    if (f_X11_isIn v2 (0 : Int32) (q1 - (1 : Int32))) = 0 then
      some (-1 : Int32)
    else
      (cl w 11 v0 (f_X11_keyAt w v0 v1 v2)).bind fun q4 =>
      some q4
def f_X11_keyOf (w : MW) (v0 : Nat) (v1 : Int32) : Option Int32 :=
  if v1 = (-1 : Int32) then
    some (-1 : Int32)
  else
    (gR w 11 v0 10).bind fun x1 =>
    (aI w .int x1 v1).bind fun x2 =>
    some x2
def f_X11_of (fu : Nat) (w : MW) (v0 : Nat) (v1 : Int32) (v2 : Int32) (v3 : Int32) : Option (Int32 × MW) :=
  if (f_X11_isSet v1) = 0 then
    some ((-1 : Int32), w)
  else
    (cl w 11 v0 (f_X11_placeOf fu w v0 v1 v2)).bind fun q1 =>
    if q1 = (-1 : Int32) then
      some ((-1 : Int32), w)
    else
      (cl w 11 v0 (f_X11_laysRow fu w v0 v1)).bind fun q4 =>
      (cl q4 11 v0 (f_X11_placeOf fu q4 v0 v1 v2)).bind fun q7 =>
      bnd q7 fun x10 =>
      (cl q4 11 v0 (f_X11_goesTo fu q4 v0 x10)).bind fun q11 =>
      if v3 = 0 then
        some (x10, q11)
      else if v3 = 1 then
        (cl q11 11 v0 (f_X11_markAt q11 v0 v1 x10)).bind fun q16 =>
        some (q16, q11)
      else if v3 = 2 then
        (gI q11 11 v0 15).bind fun x20 =>
        some (x20, q11)
      else if v3 = 3 then
        (gI q11 11 v0 14).bind fun x22 =>
        (cl q11 11 v0 (f_X11_keyOf q11 v0 x22)).bind fun q23 =>
        some (q23, q11)
      else if v3 = 4 then
        (gI q11 11 v0 12).bind fun x27 =>
        (cl q11 11 v0 (f_X11_ahead fu q11 v0 x27 (x10 - (1 : Int32)))).bind fun q28 =>
        (cl q11 11 v0 (f_X11_keyOf q11 v0 q28)).bind fun q31 =>
        some (q31, q11)
      else if v3 = 5 then
        (gI q11 11 v0 13).bind fun x35 =>
        (cl q11 11 v0 (f_X11_ahead fu q11 v0 (x10 + (1 : Int32)) x35)).bind fun q36 =>
        (cl q11 11 v0 (f_X11_keyOf q11 v0 q36)).bind fun q39 =>
        some (q39, q11)
      else if v3 = 6 then
        some ((f_X11_priority v2), q11)
      else if v3 = 7 then
        (gI q11 11 v0 13).bind fun x44 =>
        (gI q11 11 v0 12).bind fun x45 =>
        some ((x44 - x45), q11)
      else 
        some ((-1 : Int32), q11)
def f_X11_within_63 (fu : Nat) (w : MW) (lr15 : Nat → Int32 → Int32 → Int32 → Int32 → Int32 → Int32 → Option Int32) (v0 : Nat) (v1 : Int32) (v2 : Int32) (v3 : Int32) (v4 : Int32) (v6 : Int32) (s0 : Int32) (s1 : Int32) : Option Int32 :=
  bnd (s0 + s1) fun x9 =>
  bnd (v6 + 1) fun x10 =>
  lr15 v0 v1 v2 v3 v4 x9 x10
def f_X11_within_15 (fu : Nat) (w : MW) : Nat → Nat → Int32 → Int32 → Int32 → Int32 → Int32 → Int32 → Option Int32
  | 0, _, _, _, _, _, _, _ => none
  | n + 1, v0, v1, v2, v3, v4, v5, v6 =>
    (cl w 11 v0 (f_X11_many w v0 v1)).bind fun q3 =>
    if q3 ≤ v6 then
      some v5
    else
      (cl w 11 v0 (f_X11_keyAt w v0 v1 v6)).bind fun q6 =>
      if (f_X11_isIn q6 v2 v3) = 0 then
        f_X11_within_63 fu w (f_X11_within_15 fu w n) v0 v1 v2 v3 v4 v6 v5 (0 : Int32)
      else
        if v4 = 0 then
          f_X11_within_63 fu w (f_X11_within_15 fu w n) v0 v1 v2 v3 v4 v6 v5 (1 : Int32)
        else
          (cl w 11 v0 (f_X11_markAt w v0 v1 v6)).bind fun q11 =>
          if q11 = (1 : Int32) then
            f_X11_within_63 fu w (f_X11_within_15 fu w n) v0 v1 v2 v3 v4 v6 v5 (1 : Int32)
          else
            f_X11_within_63 fu w (f_X11_within_15 fu w n) v0 v1 v2 v3 v4 v6 v5 (0 : Int32)
def f_X11_within (fu : Nat) (w : MW) (v0 : Nat) (v1 : Int32) (v2 : Int32) (v3 : Int32) (v4 : Int32) : Option Int32 :=
  if (f_X11_isSet v1) = 0 then
    some (-1 : Int32)
  else
    bnd (0 : Int32) fun x1 =>
    bnd (0 : Int32) fun x2 =>
    f_X11_within_15 fu w fu v0 v1 v2 v3 v4 x1 x2
def f_X11_far (fu : Nat) (w : MW) (v0 : Nat) (v1 : Int32) (v2 : Int32) (v3 : Int32) : Option (Int32 × MW) :=
  if (f_X11_isSet v1) = 0 then
    some ((-1 : Int32), w)
  else
    (cl w 11 v0 (f_X11_placeOf fu w v0 v1 v2)).bind fun q1 =>
    if q1 = (-1 : Int32) then
      some ((-1 : Int32), w)
    else
      (cl w 11 v0 (f_X11_placeOf fu w v0 v1 v3)).bind fun q4 =>
      if q4 = (-1 : Int32) then
        some ((-1 : Int32), w)
      else
        (cl w 11 v0 (f_X11_laysRow fu w v0 v1)).bind fun q7 =>
        (cl q7 11 v0 (f_X11_placeOf fu q7 v0 v1 v2)).bind fun q10 =>
        (cl q7 11 v0 (f_X11_placeOf fu q7 v0 v1 v3)).bind fun q13 =>
        (cl q7 11 v0 (f_X11_farOf fu q7 v0 q10 q13)).bind fun q16 =>
        some (q16.1, q16.2)
def f_X11_where_28 (fu : Nat) (w : MW) (lr4 : Nat → Int32 → Int32 → Int32 → Option Int32) (v0 : Nat) (v1 : Int32) (v3 : Int32) (s0 : Int32) (s1 : Int32) : Option Int32 :=
  bnd (s0 ||| s1) fun x6 =>
  bnd (v3 + 1) fun x7 =>
  lr4 v0 v1 x6 x7
def f_X11_where_4 (fu : Nat) (w : MW) : Nat → Nat → Int32 → Int32 → Int32 → Option Int32
  | 0, _, _, _, _ => none
  | n + 1, v0, v1, v2, v3 =>
    if (8 : Int32) ≤ v3 then
      some v2
    else
      (cl w 11 v0 (f_X11_placeOf fu w v0 v3 v1)).bind fun q3 =>
      if q3 = (-1 : Int32) then
        f_X11_where_28 fu w (f_X11_where_4 fu w n) v0 v1 v3 v2 (0 : Int32)
      else
        f_X11_where_28 fu w (f_X11_where_4 fu w n) v0 v1 v3 v2 ((1 : Int32) <<< (v3 &&& 31))
def f_X11_where (fu : Nat) (w : MW) (v0 : Nat) (v1 : Int32) : Option Int32 :=
  bnd (0 : Int32) fun x1 =>
  bnd (0 : Int32) fun x2 =>
  f_X11_where_4 fu w fu v0 v1 x1 x2
def f_X11_unlike_46 (fu : Nat) (w : MW) (lr4 : Nat → Int32 → Int32 → Option Int32) (lr12 : Nat → Int32 → Int32 → Int32 → Option Int32) (v0 : Nat) (v2 : Int32) (v3 : Int32) (s0 : Int32) (s1 : Int32) : Option Int32 :=
  bnd (s0 + s1) fun x14 =>
  bnd (v3 + 1) fun x15 =>
  lr12 v0 x14 v2 x15
def f_X11_unlike_12 (fu : Nat) (w : MW) (lr4 : Nat → Int32 → Int32 → Option Int32) : Nat → Nat → Int32 → Int32 → Int32 → Option Int32
  | 0, _, _, _, _ => none
  | n + 1, v0, v1, v2, v3 =>
    (cl w 11 v0 (f_X11_many w v0 v2)).bind fun q4 =>
    if q4 ≤ v3 then
      bnd (v2 + 1) fun x7 =>
      lr4 v0 v1 x7
    else
      (cl w 11 v0 (f_X11_keyAt w v0 v2 v3)).bind fun q8 =>
      (cl w 11 v0 (f_X11_where fu w v0 q8)).bind fun q11 =>
      if (q11 &&& (((1 : Int32) <<< (v2 &&& 31)) - (1 : Int32))) = 0 then
        f_X11_unlike_46 fu w lr4 (f_X11_unlike_12 fu w lr4 n) v0 v2 v3 v1 (1 : Int32)
      else
        f_X11_unlike_46 fu w lr4 (f_X11_unlike_12 fu w lr4 n) v0 v2 v3 v1 (0 : Int32)
def f_X11_unlike_4 (fu : Nat) (w : MW) : Nat → Nat → Int32 → Int32 → Option Int32
  | 0, _, _, _ => none
  | n + 1, v0, v1, v2 =>
    if (8 : Int32) ≤ v2 then
      some v1
    else
      bnd (0 : Int32) fun x3 =>
      f_X11_unlike_12 fu w (f_X11_unlike_4 fu w n) fu v0 v1 v2 x3
def f_X11_unlike (fu : Nat) (w : MW) (v0 : Nat) : Option Int32 :=
  bnd (0 : Int32) fun x1 =>
  bnd (0 : Int32) fun x2 =>
  f_X11_unlike_4 fu w fu v0 x1 x2
def f_X11_fewest_46 (fu : Nat) (w : MW) (lr4 : Nat → Int32 → Int32 → Int32 → Option Int32) (v0 : Nat) (v1 : Int32) (v2 : Int32) (v3 : Int32) : Option Int32 :=
  bnd (v3 + 1) fun x3 =>
  lr4 v0 v1 v2 x3
def f_X11_fewest_4 (fu : Nat) (w : MW) : Nat → Nat → Int32 → Int32 → Int32 → Option Int32
  | 0, _, _, _, _ => none
  | n + 1, v0, v1, v2, v3 =>
    if (8 : Int32) ≤ v3 then
      some v2
    else
      if v3 = v1 then
        f_X11_fewest_46 fu w (f_X11_fewest_4 fu w n) v0 v1 v2 v3
      else
        (gR w 11 v0 21).bind fun x4 =>
        (aI w .int x4 v3).bind fun x5 =>
        if x5 ≤ 0 then
          f_X11_fewest_46 fu w (f_X11_fewest_4 fu w n) v0 v1 v2 v3
        else
          if v2 = (-1 : Int32) then
            bnd v3 fun x6 =>
            f_X11_fewest_46 fu w (f_X11_fewest_4 fu w n) v0 v1 x6 v3
          else
            (gR w 11 v0 21).bind fun x7 =>
            (aI w .int x7 v3).bind fun x8 =>
            (gR w 11 v0 21).bind fun x9 =>
            (aI w .int x9 v2).bind fun x10 =>
            if x10 ≤ x8 then
              f_X11_fewest_46 fu w (f_X11_fewest_4 fu w n) v0 v1 v2 v3
            else
              bnd v3 fun x11 =>
              f_X11_fewest_46 fu w (f_X11_fewest_4 fu w n) v0 v1 x11 v3
def f_X11_fewest (fu : Nat) (w : MW) (v0 : Nat) (v1 : Int32) : Option Int32 :=
  bnd (-1 : Int32) fun x1 =>
  bnd (0 : Int32) fun x2 =>
  f_X11_fewest_4 fu w fu v0 v1 x1 x2
def f_X11_huffman_92 (fu : Nat) (lr39 : MW → Nat → Int32 → Int32 → Int32 → Option (Int32 × MW)) (w : MW) (v0 : Nat) (v1 : Int32) (v4 : Int32) (s0 : Nat) (s1 : Int32) : Option (Int32 × MW) :=
  (sI w .int s0 s1 v4).bind fun w21 =>
  bnd (v1 + v4) fun x22 =>
  (cl w21 11 v0 (f_X11_fewest fu w21 v0 (-1 : Int32))).bind fun q23 =>
  bnd q23 fun x26 =>
  (cl w21 11 v0 (f_X11_fewest fu w21 v0 x26)).bind fun q27 =>
  bnd q27 fun x30 =>
  lr39 w21 v0 x22 x26 x30
def f_X11_huffman_39 (fu : Nat) : Nat → MW → Nat → Int32 → Int32 → Int32 → Option (Int32 × MW)
  | 0, _, _, _, _, _ => none
  | n + 1, w, v0, v1, v2, v3 =>
    if v2 = (-1 : Int32) then
      some (v1, w)
    else
      if v3 = (-1 : Int32) then
        some (v1, w)
      else
        (gR w 11 v0 21).bind fun x11 =>
        (aI w .int x11 v2).bind fun x12 =>
        (gR w 11 v0 21).bind fun x13 =>
        (aI w .int x13 v3).bind fun x14 =>
        bnd (x12 + x14) fun x15 =>
        (gR w 11 v0 21).bind fun x16 =>
        (sI w .int x16 v2 (0 : Int32)).bind fun w17 =>
        (gR w17 11 v0 21).bind fun x18 =>
        (sI w17 .int x18 v3 (0 : Int32)).bind fun w19 =>
        (gR w19 11 v0 21).bind fun x20 =>
        if v3 ≤ v2 then
          f_X11_huffman_92 fu (f_X11_huffman_39 fu n) w19 v0 v1 x15 x20 v3
        else
          f_X11_huffman_92 fu (f_X11_huffman_39 fu n) w19 v0 v1 x15 x20 v2
def f_X11_huffman_2 (fu : Nat) : Nat → MW → Nat → Int32 → Option (Int32 × MW)
  | 0, _, _, _ => none
  | n + 1, w, v0, v1 =>
    if (8 : Int32) ≤ v1 then
      bnd (0 : Int32) fun x2 =>
      (cl w 11 v0 (f_X11_fewest fu w v0 (-1 : Int32))).bind fun q3 =>
      bnd q3 fun x6 =>
      (cl w 11 v0 (f_X11_fewest fu w v0 x6)).bind fun q7 =>
      bnd q7 fun x10 =>
      f_X11_huffman_39 fu fu w v0 x2 x6 x10
    else
      (gR w 11 v0 21).bind fun x31 =>
      (cl w 11 v0 (f_X11_many w v0 v1)).bind fun q32 =>
      (sI w .int x31 v1 q32).bind fun w35 =>
      bnd (v1 + 1) fun x36 =>
      (f_X11_huffman_2 fu n) w35 v0 x36
def f_X11_huffman (fu : Nat) (w : MW) (v0 : Nat) : Option (Int32 × MW) :=
  bnd (0 : Int32) fun x1 =>
  f_X11_huffman_2 fu fu w v0 x1
def f_X11_count_29 (fu : Nat) (lr7 : MW → Nat → Int32 → Int32 → Int32 → Int32 → Option (Int32 × MW)) (w : MW) (v0 : Nat) (v1 : Int32) (v3 : Int32) (v4 : Int32) (s0 : Int32) (s1 : Int32) : Option (Int32 × MW) :=
  bnd (s0 + s1) fun x27 =>
  (cl w 11 v0 (f_X11_summed fu w v0 v4 (3 : Int32))).bind fun q28 =>
  bnd (v3 + q28.1) fun x31 =>
  bnd (v4 + 1) fun x32 =>
  lr7 q28.2 v0 v1 x27 x31 x32
def f_X11_count_7 (fu : Nat) : Nat → MW → Nat → Int32 → Int32 → Int32 → Int32 → Option (Int32 × MW)
  | 0, _, _, _, _, _, _ => none
  | n + 1, w, v0, v1, v2, v3, v4 =>
    if (8 : Int32) ≤ v4 then
      if v1 = 0 then
        (cl w 11 v0 (f_X11_total fu w v0)).bind fun q5 =>
        some (q5, w)
      else if v1 = 1 then
        some (v2, w)
      else if v1 = 2 then
        (cl w 11 v0 (f_X11_unlike fu w v0)).bind fun q10 =>
        some (q10, w)
      else if v1 = 3 then
        some (v3, w)
      else if v1 = 4 then
        (gI w 11 v0 8).bind fun x15 =>
        some (x15, w)
      else if v1 = 5 then
        (gI w 11 v0 4).bind fun x17 =>
        some (x17, w)
      else if v1 = 6 then
        (cl w 11 v0 (f_X11_huffman fu w v0)).bind fun q19 =>
        some (q19.1, q19.2)
      else if v1 = 7 then
        (gI w 11 v0 5).bind fun x23 =>
        some (x23, w)
      else 
        some ((-1 : Int32), w)
    else
      (cl w 11 v0 (f_X11_many w v0 v4)).bind fun q24 =>
      if q24 ≤ 0 then
        f_X11_count_29 fu (f_X11_count_7 fu n) w v0 v1 v3 v4 v2 (0 : Int32)
      else
        f_X11_count_29 fu (f_X11_count_7 fu n) w v0 v1 v3 v4 v2 (1 : Int32)
def f_X11_count (fu : Nat) (w : MW) (v0 : Nat) (v1 : Int32) : Option (Int32 × MW) :=
  bnd (0 : Int32) fun x1 =>
  bnd (0 : Int32) fun x2 =>
  bnd (0 : Int32) fun x3 =>
  f_X11_count_7 fu fu w v0 v1 x1 x2 x3
def f_X11_pair (fu : Nat) (w : MW) (v0 : Nat) (v1 : Int32) (v2 : Int32) (v3 : Int32) : Option (Int32 × MW) :=
  (cl w 11 v0 (f_X11_areTwo w v0 v1 v2)).bind fun q1 =>
  if q1 = 0 then
    some ((-1 : Int32), w)
  else
    (cl w 11 v0 (f_X11_laysRuns fu w v0 v1 v2)).bind fun q4 =>
    if v3 = 0 then
      (gI q4 11 v0 16).bind fun x8 =>
      some (x8, q4)
    else if v3 = 1 then
      (cl q4 11 v0 (f_X11_twins fu q4 v0 v1 v2)).bind fun q10 =>
      some (q10, q4)
    else if v3 = 2 then
      (gI q4 11 v0 17).bind fun x14 =>
      some (x14, q4)
    else if v3 = 3 then
      (cl q4 11 v0 (f_X11_many q4 v0 v1)).bind fun q16 =>
      (cl q4 11 v0 (f_X11_many q4 v0 v2)).bind fun q19 =>
      (cl q4 11 v0 (f_X11_twins fu q4 v0 v1 v2)).bind fun q22 =>
      some (((q16 + q19) - ((2 : Int32) * q22)), q4)
    else if v3 = 4 then
      (gI q4 11 v0 18).bind fun x26 =>
      some (x26, q4)
    else if v3 = 5 then
      (cl q4 11 v0 (f_X11_refusesJoin q4 v0 v1 v2)).bind fun q28 =>
      if q28 = 0 then
        some ((1 : Int32), q4)
      else
        some ((0 : Int32), q4)
    else if v3 = 6 then
      (cl q4 11 v0 (f_X11_refusesMelt fu q4 v0 v1 v2)).bind fun q32 =>
      if q32 = 0 then
        some ((1 : Int32), q4)
      else
        some ((0 : Int32), q4)
    else 
      some ((-1 : Int32), q4)
def f_X11_cheapest_90 (fu : Nat) (lr10 : MW → Nat → Int32 → Int32 → Int32 → Int32 → Int32 → Option (Int32 × MW)) (lr23 : MW → Nat → Int32 → Int32 → Int32 → Int32 → Int32 → Int32 → Option (Int32 × MW)) (w : MW) (v0 : Nat) (v1 : Int32) (v2 : Int32) (v3 : Int32) (v4 : Int32) (v5 : Int32) (v6 : Int32) : Option (Int32 × MW) :=
  bnd (v6 + 1) fun x10 =>
  lr23 w v0 v1 v2 v3 v4 v5 x10
def f_X11_cheapest_78 (fu : Nat) (lr10 : MW → Nat → Int32 → Int32 → Int32 → Int32 → Int32 → Option (Int32 × MW)) (lr23 : MW → Nat → Int32 → Int32 → Int32 → Int32 → Int32 → Int32 → Option (Int32 × MW)) (w : MW) (v0 : Nat) (v1 : Int32) (v5 : Int32) (v6 : Int32) : Option (Int32 × MW) :=
  bnd v5 fun x17 =>
  bnd v6 fun x18 =>
  (gI w 11 v0 17).bind fun x19 =>
  bnd x19 fun x20 =>
  f_X11_cheapest_90 fu lr10 lr23 w v0 v1 x17 x18 x20 v5 v6
def f_X11_cheapest_23 (fu : Nat) (lr10 : MW → Nat → Int32 → Int32 → Int32 → Int32 → Int32 → Option (Int32 × MW)) : Nat → MW → Nat → Int32 → Int32 → Int32 → Int32 → Int32 → Int32 → Option (Int32 × MW)
  | 0, _, _, _, _, _, _, _, _ => none
  | n + 1, w, v0, v1, v2, v3, v4, v5, v6 =>
    if (8 : Int32) ≤ v6 then
      bnd (v5 + 1) fun x6 =>
      lr10 w v0 v1 v2 v3 v4 x6
    else
      (cl w 11 v0 (f_X11_many w v0 v5)).bind fun q7 =>
      if q7 = 0 then
        f_X11_cheapest_90 fu lr10 (f_X11_cheapest_23 fu lr10 n) w v0 v1 v2 v3 v4 v5 v6
      else
        (cl w 11 v0 (f_X11_refusesMelt fu w v0 v5 v6)).bind fun q11 =>
        if q11 ≤ 0 then
          (cl w 11 v0 (f_X11_laysRuns fu w v0 v5 v6)).bind fun q14 =>
          if v2 = (-1 : Int32) then
            f_X11_cheapest_78 fu lr10 (f_X11_cheapest_23 fu lr10 n) q14 v0 v1 v5 v6
          else
            (gI q14 11 v0 17).bind fun x21 =>
            if x21 < v4 then
              f_X11_cheapest_78 fu lr10 (f_X11_cheapest_23 fu lr10 n) q14 v0 v1 v5 v6
            else
              f_X11_cheapest_90 fu lr10 (f_X11_cheapest_23 fu lr10 n) q14 v0 v1 v2 v3 v4 v5 v6
        else
          f_X11_cheapest_90 fu lr10 (f_X11_cheapest_23 fu lr10 n) w v0 v1 v2 v3 v4 v5 v6
def f_X11_cheapest_10 (fu : Nat) : Nat → MW → Nat → Int32 → Int32 → Int32 → Int32 → Int32 → Option (Int32 × MW)
  | 0, _, _, _, _, _, _, _ => none
  | n + 1, w, v0, v1, v2, v3, v4, v5 =>
    if (8 : Int32) ≤ v5 then
      if v2 = (-1 : Int32) then
        some ((-1 : Int32), w)
      else
        if v1 = 0 then
          some (v2, w)
        else
          if v1 = (1 : Int32) then
            some (v3, w)
          else
            if v1 = (2 : Int32) then
              some (v4, w)
            else
              some ((-1 : Int32), w)
    else
      bnd (v5 + (1 : Int32)) fun x5 =>
      f_X11_cheapest_23 fu (f_X11_cheapest_10 fu n) fu w v0 v1 v2 v3 v4 v5 x5
def f_X11_cheapest (fu : Nat) (w : MW) (v0 : Nat) (v1 : Int32) : Option (Int32 × MW) :=
  bnd (-1 : Int32) fun x1 =>
  bnd (-1 : Int32) fun x2 =>
  bnd (0 : Int32) fun x3 =>
  bnd (0 : Int32) fun x4 =>
  f_X11_cheapest_10 fu fu w v0 v1 x1 x2 x3 x4
def f_X11_merged_79 (fu : Nat) (w : MW) (lr8 : Nat → Int32 → Int32 → Option Int32) (lr16 : Nat → Int32 → Int32 → Int32 → Option Int32) (lr31 : Nat → Int32 → Int32 → Int32 → Int32 → Int32 → Option Int32) (v0 : Nat) (v1 : Int32) (v2 : Int32) (v3 : Int32) (v5 : Int32) (s0 : Int32) (s1 : Int32) (s2 : Int32) : Option Int32 :=
  bnd (s0 + (s1 + s2)) fun x19 =>
  bnd (v5 + 1) fun x20 =>
  lr31 v0 v1 v2 v3 x19 x20
def f_X11_merged_31 (fu : Nat) (w : MW) (lr8 : Nat → Int32 → Int32 → Option Int32) (lr16 : Nat → Int32 → Int32 → Int32 → Option Int32) : Nat → Nat → Int32 → Int32 → Int32 → Int32 → Int32 → Option Int32
  | 0, _, _, _, _, _, _ => none
  | n + 1, v0, v1, v2, v3, v4, v5 =>
    if (8 : Int32) ≤ v5 then
      if v4 = v1 then
        (cl w 11 v0 (f_X11_keyAt w v0 v2 v3)).bind fun q10 =>
        some q10
      else
        bnd (v3 + 1) fun x9 =>
        lr16 v0 v1 v2 x9
    else
      (cl w 11 v0 (f_X11_keyAt w v0 v2 v3)).bind fun q13 =>
      (cl w 11 v0 (f_X11_below fu w v0 v5 q13)).bind fun q16 =>
      if v2 ≤ v5 then
        f_X11_merged_79 fu w lr8 lr16 (f_X11_merged_31 fu w lr8 lr16 n) v0 v1 v2 v3 v5 v4 q16 (0 : Int32)
      else
        (cl w 11 v0 (f_X11_keyAt w v0 v2 v3)).bind fun q21 =>
        (cl w 11 v0 (f_X11_placeOf fu w v0 v5 q21)).bind fun q24 =>
        if q24 = (-1 : Int32) then
          f_X11_merged_79 fu w lr8 lr16 (f_X11_merged_31 fu w lr8 lr16 n) v0 v1 v2 v3 v5 v4 q16 (0 : Int32)
        else
          f_X11_merged_79 fu w lr8 lr16 (f_X11_merged_31 fu w lr8 lr16 n) v0 v1 v2 v3 v5 v4 q16 (1 : Int32)
def f_X11_merged_16 (fu : Nat) (w : MW) (lr8 : Nat → Int32 → Int32 → Option Int32) : Nat → Nat → Int32 → Int32 → Int32 → Option Int32
  | 0, _, _, _, _ => none
  | n + 1, v0, v1, v2, v3 =>
    (cl w 11 v0 (f_X11_many w v0 v2)).bind fun q3 =>
    if q3 ≤ v3 then
      bnd (v2 + 1) fun x6 =>
      lr8 v0 v1 x6
    else
      bnd (0 : Int32) fun x7 =>
      bnd (0 : Int32) fun x8 =>
      f_X11_merged_31 fu w lr8 (f_X11_merged_16 fu w lr8 n) fu v0 v1 v2 v3 x7 x8
def f_X11_merged_8 (fu : Nat) (w : MW) : Nat → Nat → Int32 → Int32 → Option Int32
  | 0, _, _, _ => none
  | n + 1, v0, v1, v2 =>
    if (8 : Int32) ≤ v2 then
      some (-1 : Int32)
    else
      bnd (0 : Int32) fun x2 =>
      f_X11_merged_16 fu w (f_X11_merged_8 fu w n) fu v0 v1 v2 x2
def f_X11_merged (fu : Nat) (w : MW) (v0 : Nat) (v1 : Int32) : Option Int32 :=
  if 0 ≤ v1 then
    bnd (0 : Int32) fun x1 =>
    f_X11_merged_8 fu w fu v0 v1 x1
  else
    some (-1 : Int32)
def f_X11_would_153 (fu : Nat) (w : MW) (v0 : Nat) (s0 : Nat) (s1 : Int32) (s2 : Int32) : Option (Int32 × MW) :=
  (pV w 11 s0 11 (.int (s1 + s2))).bind fun w14 =>
  (cl w14 11 v0 (f_X11_high fu w14 v0)).bind fun q15 =>
  some (q15.1, q15.2)
def f_X11_would_139 (fu : Nat) (w : MW) (v0 : Nat) (v3 : Int32) : Option (Int32 × MW) :=
  (gI w 11 v0 11).bind fun x13 =>
  if v3 = 0 then
    f_X11_would_153 fu w v0 v0 x13 (1 : Int32)
  else
    f_X11_would_153 fu w v0 v0 x13 (-1 : Int32)
def f_X11_would_127 (fu : Nat) (w : MW) (v0 : Nat) (v2 : Int32) (v3 : Int32) (v4 : Int32) : Option (Int32 × MW) :=
  if v3 = 0 then
    (gR w 11 v0 10).bind fun x18 =>
    (sI w .int x18 v4 v2).bind fun w19 =>
    f_X11_would_139 fu w19 v0 v3
  else
    f_X11_would_139 fu w v0 v3
def f_X11_would_98 (fu : Nat) : Nat → MW → Nat → Int32 → Int32 → Int32 → Int32 → Option (Int32 × MW)
  | 0, _, _, _, _, _, _ => none
  | n + 1, w, v0, v2, v3, v4, v5 =>
    if v5 ≤ v4 then
      f_X11_would_127 fu w v0 v2 v3 v4
    else
      (gR w 11 v0 10).bind fun x20 =>
      (gR w 11 v0 10).bind fun x21 =>
      (aI w .int x21 (v5 - (1 : Int32))).bind fun x22 =>
      (sI w .int x20 v5 x22).bind fun w23 =>
      bnd (v5 + (-1)) fun x24 =>
      (f_X11_would_98 fu n) w23 v0 v2 v3 v4 x24
def f_X11_would_56 (fu : Nat) : Nat → MW → Nat → Int32 → Int32 → Int32 → Int32 → Option (Int32 × MW)
  | 0, _, _, _, _, _, _ => none
  | n + 1, w, v0, v2, v3, v4, v5 =>
    (gI w 11 v0 11).bind fun x26 =>
    if x26 ≤ (v5 + (1 : Int32)) then
      f_X11_would_127 fu w v0 v2 v3 v4
    else
      (gR w 11 v0 10).bind fun x27 =>
      (gR w 11 v0 10).bind fun x28 =>
      (aI w .int x28 (v5 + (1 : Int32))).bind fun x29 =>
      (sI w .int x27 v5 x29).bind fun w30 =>
      bnd (v5 + 1) fun x31 =>
      (f_X11_would_56 fu n) w30 v0 v2 v3 v4 x31
def f_X11_would_29 (fu : Nat) (w : MW) (v0 : Nat) (v1 : Int32) (v2 : Int32) (v3 : Int32) (s0 : Int32) : Option (Int32 × MW) :=
  if s0 = v3 then
    (cl w 11 v0 (f_X11_laysRow fu w v0 v1)).bind fun q4 =>
    (cl q4 11 v0 (f_X11_below fu q4 v0 v1 v2)).bind fun q7 =>
    bnd q7 fun x10 =>
    if v3 = 0 then
      (gI q4 11 v0 11).bind fun x11 =>
      bnd x11 fun x12 =>
      f_X11_would_98 fu fu q4 v0 v2 v3 x10 x12
    else
      bnd x10 fun x25 =>
      f_X11_would_56 fu fu q4 v0 v2 v3 x10 x25
  else
    some ((-1 : Int32), w)
def f_X11_would (fu : Nat) (w : MW) (v0 : Nat) (v1 : Int32) (v2 : Int32) (v3 : Int32) : Option (Int32 × MW) :=
  if (f_X11_isSet v1) = 0 then
    some ((-1 : Int32), w)
  else
    if (f_X11_isKey v2) = 0 then
      some ((-1 : Int32), w)
    else
      (cl w 11 v0 (f_X11_placeOf fu w v0 v1 v2)).bind fun q1 =>
      if q1 = (-1 : Int32) then
        f_X11_would_29 fu w v0 v1 v2 v3 (0 : Int32)
      else
        f_X11_would_29 fu w v0 v1 v2 v3 (1 : Int32)
def f_X11_halves (w : MW) (v0 : Nat) (v1 : Int32) : Option Int32 :=
  if (f_X11_isSet v1) = 0 then
    some (-1 : Int32)
  else
    (cl w 11 v0 (f_X11_many w v0 v1)).bind fun q1 =>
    if q1 ≤ (1 : Int32) then
      some (-1 : Int32)
    else
      (cl w 11 v0 (f_X11_many w v0 v1)).bind fun q4 =>
      (cl w 11 v0 (f_X11_keyAt w v0 v1 (((q4 + (1 : Int32)) / (2 : Int32)) - (1 : Int32)))).bind fun q7 =>
      some q7
def f_X11_tells (w : MW) (v0 : Nat) (v1 : Int32) : Option MW :=
  (gR w 11 v0 2).bind fun x1 =>
  (gI w 11 v0 5).bind fun x2 =>
  (sI w .int x1 x2 v1).bind fun w3 =>
  (gI w3 11 v0 5).bind fun x4 =>
  (pV w3 11 v0 5 (.int (x4 + (1 : Int32)))).bind fun w5 =>
  some w5
def f_X11_number_18 (fu : Nat) : Nat → MW → Nat → Int32 → Int32 → Option MW
  | 0, _, _, _, _ => none
  | n + 1, w, v0, v1, v2 =>
    if v2 ≤ 0 then
      some w
    else
      (dv v1 v2).bind fun x3 =>
      (cl w 11 v0 (f_X11_tells w v0 ((48 : Int32) + (x3 - x3 / (10 : Int32) * (10 : Int32))))).bind fun q4 =>
      bnd (v2 / (10 : Int32)) fun x7 =>
      (f_X11_number_18 fu n) q4 v0 v1 x7
def f_X11_number_2 (fu : Nat) : Nat → MW → Nat → Int32 → Int32 → Option MW
  | 0, _, _, _, _ => none
  | n + 1, w, v0, v1, v2 =>
    (dv v1 v2).bind fun x2 =>
    if x2 ≤ (9 : Int32) then
      f_X11_number_18 fu fu w v0 v1 v2
    else
      bnd (v2 * (10 : Int32)) fun x8 =>
      (f_X11_number_2 fu n) w v0 v1 x8
def f_X11_number (fu : Nat) (w : MW) (v0 : Nat) (v1 : Int32) : Option MW :=
  bnd (1 : Int32) fun x1 =>
  f_X11_number_2 fu fu w v0 v1 x1
def f_X11_tell_146 (fu : Nat) (lr16 : MW → Nat → Int32 → Int32 → Option (Int32 × MW)) (w : MW) (v0 : Nat) (v1 : Int32) (v3 : Int32) : Option (Int32 × MW) :=
  bnd v3 fun x20 =>
  bnd (x20 + 1) fun x21 =>
  lr16 w v0 v1 x21
def f_X11_tell_130 (fu : Nat) (lr16 : MW → Nat → Int32 → Int32 → Option (Int32 × MW)) (w : MW) (v0 : Nat) (v1 : Int32) (v2 : Int32) (v3 : Int32) : Option (Int32 × MW) :=
  (cl w 11 v0 (f_X11_markAt w v0 v1 v2)).bind fun q17 =>
  if q17 = (1 : Int32) then
    (cl w 11 v0 (f_X11_tells w v0 (42 : Int32))).bind fun q22 =>
    f_X11_tell_146 fu lr16 q22 v0 v1 v3
  else
    f_X11_tell_146 fu lr16 w v0 v1 v3
def f_X11_tell_99 (fu : Nat) (lr16 : MW → Nat → Int32 → Int32 → Option (Int32 × MW)) (w : MW) (v0 : Nat) (v1 : Int32) (v2 : Int32) (v3 : Int32) : Option (Int32 × MW) :=
  (cl w 11 v0 (f_X11_keyAt w v0 v1 v2)).bind fun q11 =>
  (cl w 11 v0 (f_X11_number fu w v0 q11)).bind fun q14 =>
  if v3 ≤ v2 then
    f_X11_tell_130 fu lr16 q14 v0 v1 v2 v3
  else
    (cl q14 11 v0 (f_X11_tells q14 v0 (45 : Int32))).bind fun q25 =>
    (cl q25 11 v0 (f_X11_keyAt q25 v0 v1 v3)).bind fun q28 =>
    (cl q25 11 v0 (f_X11_number fu q25 v0 q28)).bind fun q31 =>
    f_X11_tell_130 fu lr16 q31 v0 v1 v2 v3
def f_X11_tell_89 (fu : Nat) (lr16 : MW → Nat → Int32 → Int32 → Option (Int32 × MW)) (w : MW) (v0 : Nat) (v1 : Int32) (v2 : Int32) (v3 : Int32) : Option (Int32 × MW) :=
  if v2 ≤ 0 then
    f_X11_tell_99 fu lr16 w v0 v1 v2 v3
  else
    (cl w 11 v0 (f_X11_tells w v0 (32 : Int32))).bind fun q34 =>
    f_X11_tell_99 fu lr16 q34 v0 v1 v2 v3
def f_X11_tell_80 (fu : Nat) (lr16 : MW → Nat → Int32 → Int32 → Option (Int32 × MW)) (w : MW) (v0 : Nat) (v1 : Int32) (v2 : Int32) (v3 : Int32) : Option (Int32 × MW) :=
  if (2 : Int32) ≤ (v3 - v2) then
    f_X11_tell_89 fu lr16 w v0 v1 v2 v3
  else
    bnd v2 fun x37 =>
    f_X11_tell_89 fu lr16 w v0 v1 v2 x37
def f_X11_tell_27 (fu : Nat) (lr16 : MW → Nat → Int32 → Int32 → Option (Int32 × MW)) : Nat → MW → Nat → Int32 → Int32 → Int32 → Option (Int32 × MW)
  | 0, _, _, _, _, _ => none
  | n + 1, w, v0, v1, v2, v3 =>
    (cl w 11 v0 (f_X11_many w v0 v1)).bind fun q8 =>
    if q8 ≤ (v3 + (1 : Int32)) then
      f_X11_tell_80 fu lr16 w v0 v1 v2 v3
    else
      (cl w 11 v0 (f_X11_keyAt w v0 v1 (v3 + (1 : Int32)))).bind fun q38 =>
      (cl w 11 v0 (f_X11_keyAt w v0 v1 v3)).bind fun q41 =>
      if q38 = (q41 + (1 : Int32)) then
        (cl w 11 v0 (f_X11_markAt w v0 v1 (v3 + (1 : Int32)))).bind fun q44 =>
        (cl w 11 v0 (f_X11_markAt w v0 v1 v2)).bind fun q47 =>
        if q44 = q47 then
          bnd (v3 + 1) fun x50 =>
          (f_X11_tell_27 fu lr16 n) w v0 v1 v2 x50
        else
          f_X11_tell_80 fu lr16 w v0 v1 v2 v3
      else
        f_X11_tell_80 fu lr16 w v0 v1 v2 v3
def f_X11_tell_16 (fu : Nat) : Nat → MW → Nat → Int32 → Int32 → Option (Int32 × MW)
  | 0, _, _, _, _ => none
  | n + 1, w, v0, v1, v2 =>
    (cl w 11 v0 (f_X11_many w v0 v1)).bind fun q3 =>
    if q3 ≤ v2 then
      (gI w 11 v0 5).bind fun x6 =>
      some (x6, w)
    else
      bnd v2 fun x7 =>
      f_X11_tell_27 fu (f_X11_tell_16 fu n) fu w v0 v1 v2 x7
def f_X11_tell (fu : Nat) (w : MW) (v0 : Nat) (v1 : Int32) : Option (Int32 × MW) :=
  if (f_X11_isSet v1) = 0 then
    some ((-1 : Int32), w)
  else
    (pV w 11 v0 5 (.int (0 : Int32))).bind fun w1 =>
    bnd (0 : Int32) fun x2 =>
    f_X11_tell_16 fu fu w1 v0 v1 x2
def f_X11_octet (w : MW) (v0 : Nat) (v1 : Int32) : Option Int32 :=
  (gI w 11 v0 5).bind fun x1 =>
  if (f_X11_isIn v1 (0 : Int32) (x1 - (1 : Int32))) = 0 then
    some (-1 : Int32)
  else
    (gR w 11 v0 2).bind fun x2 =>
    (aI w .int x2 v1).bind fun x3 =>
    some x3
def f_X11_feed_71 (fu : Nat) (lr18 : MW → Nat → Int32 → Int32 → Int32 → Int32 → Int32 → Int32 → Option (Int32 × MW)) (w : MW) (v0 : Nat) (v1 : Int32) (v2 : Int32) (v3 : Int32) (v4 : Int32) (v5 : Int32) (v6 : Int32) (s0 : Int32) : Option (Int32 × MW) :=
  bnd s0 fun x6 =>
  (gR w 11 v0 1).bind fun x7 =>
  (gI w 11 v0 4).bind fun x8 =>
  (sI w .int x7 (x8 + v6) ((x6 >>> (((24 : Int32) - ((8 : Int32) * (v6 &&& (3 : Int32)))) &&& 31)) &&& (255 : Int32))).bind fun w9 =>
  bnd (v6 + 1) fun x10 =>
  lr18 w9 v0 v1 v2 v3 v4 v5 x10
def f_X11_feed_18 (fu : Nat) : Nat → MW → Nat → Int32 → Int32 → Int32 → Int32 → Int32 → Int32 → Option (Int32 × MW)
  | 0, _, _, _, _, _, _, _, _ => none
  | n + 1, w, v0, v1, v2, v3, v4, v5, v6 =>
    if (20 : Int32) ≤ v6 then
      (gI w 11 v0 4).bind fun x3 =>
      (pV w 11 v0 4 (.int (x3 + (20 : Int32)))).bind fun w4 =>
      (gI w4 11 v0 4).bind fun x5 =>
      some (x5, w4)
    else
      if (4 : Int32) ≤ v6 then
        if (8 : Int32) ≤ v6 then
          if (12 : Int32) ≤ v6 then
            if (16 : Int32) ≤ v6 then
              f_X11_feed_71 fu (f_X11_feed_18 fu n) w v0 v1 v2 v3 v4 v5 v6 v5
            else
              f_X11_feed_71 fu (f_X11_feed_18 fu n) w v0 v1 v2 v3 v4 v5 v6 v4
          else
            f_X11_feed_71 fu (f_X11_feed_18 fu n) w v0 v1 v2 v3 v4 v5 v6 v3
        else
          f_X11_feed_71 fu (f_X11_feed_18 fu n) w v0 v1 v2 v3 v4 v5 v6 v2
      else
        f_X11_feed_71 fu (f_X11_feed_18 fu n) w v0 v1 v2 v3 v4 v5 v6 v1
def f_X11_feed (fu : Nat) (w : MW) (v0 : Nat) (v1 : Int32) (v2 : Int32) (v3 : Int32) (v4 : Int32) (v5 : Int32) : Option (Int32 × MW) :=
  (gI w 11 v0 4).bind fun x1 =>
  if (x1 + (20 : Int32)) ≤ (800 : Int32) then
    bnd (0 : Int32) fun x2 =>
    f_X11_feed_18 fu fu w v0 v1 v2 v3 v4 v5 x2
  else
    some ((-1 : Int32), w)
def f_X11_end (w : MW) (v0 : Nat) (v1 : Int32) : Option (Int32 × MW) :=
  (gI w 11 v0 4).bind fun x1 =>
  if (f_X11_isIn v1 (0 : Int32) x1) = 0 then
    some ((-1 : Int32), w)
  else
    (pV w 11 v0 4 (.int v1)).bind fun w2 =>
    some (v1, w2)
def f_X11_fault (w : MW) (v0 : Nat) (v1 : Int32) : Option Int32 :=
  if v1 = 0 then
    (gI w 11 v0 6).bind fun x2 =>
    some x2
  else
    if v1 = (1 : Int32) then
      (gI w 11 v0 7).bind fun x1 =>
      some x1
    else
      some (-1 : Int32)
def f_X11_byteAt (w : MW) (v0 : Nat) (v1 : Int32) : Option Int32 :=
  (gI w 11 v0 22).bind fun x1 =>
  if x1 ≤ v1 then
    some (-1 : Int32)
  else
    (gR w 11 v0 1).bind fun x2 =>
    (aI w .int x2 v1).bind fun x3 =>
    some x3
def f_X11_isLetter (v0 : Int32) : Int32 :=
  if v0 < (97 : Int32) then
    (0 : Int32)
  else
    if (122 : Int32) < v0 then
      (0 : Int32)
    else
      (1 : Int32)
def f_X11_isDigit (v0 : Int32) : Int32 :=
  if v0 < (48 : Int32) then
    (0 : Int32)
  else
    if (57 : Int32) < v0 then
      (0 : Int32)
    else
      (1 : Int32)
def f_X11_takes_26 (fu : Nat) (lr0 : MW → Nat → Option MW) (w : MW) (v0 : Nat) : Option MW :=
  (gI w 11 v0 23).bind fun x5 =>
  (pV w 11 v0 23 (.int (x5 + (1 : Int32)))).bind fun w6 =>
  lr0 w6 v0
def f_X11_takes_302 (fu : Nat) (w : MW) (s0 : Nat) (s1 : Int32) : Option MW :=
  (pV w 11 s0 24 (.int s1)).bind fun w22 =>
  some w22
def f_X11_takes_262 (fu : Nat) (w : MW) (s0 : Nat) (s1 : Int32) : Option MW :=
  (pV w 11 s0 24 (.int s1)).bind fun w29 =>
  some w29
def f_X11_takes_227 (fu : Nat) (lr170 : MW → Nat → Option MW) (w : MW) (v0 : Nat) (s0 : Nat) (s1 : Int64) : Option MW :=
  (pV w 11 s0 26 (.long s1)).bind fun w33 =>
  (gI w33 11 v0 23).bind fun x34 =>
  (pV w33 11 v0 23 (.int (x34 + (1 : Int32)))).bind fun w35 =>
  lr170 w35 v0
def f_X11_takes_170 (fu : Nat) : Nat → MW → Nat → Option MW
  | 0, _, _ => none
  | n + 1, w, v0 =>
    (gI w 11 v0 23).bind fun x23 =>
    (cl w 11 v0 (f_X11_byteAt w v0 x23)).bind fun q24 =>
    if (f_X11_isDigit q24) = 0 then
      (gI w 11 v0 23).bind fun x27 =>
      (gI w 11 v0 25).bind fun x28 =>
      if (x27 - x28) ≤ (4 : Int32) then
        f_X11_takes_262 fu w v0 (2 : Int32)
      else
        f_X11_takes_262 fu w v0 (4 : Int32)
    else
      (gI w 11 v0 23).bind fun x30 =>
      (gI w 11 v0 25).bind fun x31 =>
      if (4 : Int32) ≤ (x30 - x31) then
        (gJ w 11 v0 26).bind fun x32 =>
        f_X11_takes_227 fu (f_X11_takes_170 fu n) w v0 v0 x32
      else
        (gJ w 11 v0 26).bind fun x36 =>
        (gI w 11 v0 23).bind fun x37 =>
        (cl w 11 v0 (f_X11_byteAt w v0 x37)).bind fun q38 =>
        f_X11_takes_227 fu (f_X11_takes_170 fu n) w v0 v0 ((((10 : Int64) * x36) + q38.toInt64) - (48 : Int64))
def f_X11_takes_139 (fu : Nat) (lr80 : MW → Nat → Option MW) (w : MW) (v0 : Nat) (s0 : Nat) (s1 : Int64) : Option MW :=
  (pV w 11 s0 26 (.long s1)).bind fun w48 =>
  (gI w48 11 v0 23).bind fun x49 =>
  (pV w48 11 v0 23 (.int (x49 + (1 : Int32)))).bind fun w50 =>
  lr80 w50 v0
def f_X11_takes_80 (fu : Nat) : Nat → MW → Nat → Option MW
  | 0, _, _ => none
  | n + 1, w, v0 =>
    (gI w 11 v0 23).bind fun x41 =>
    (cl w 11 v0 (f_X11_byteAt w v0 x41)).bind fun q42 =>
    if (f_X11_isLetter q42) = 0 then
      (pV w 11 v0 24 (.int (1 : Int32))).bind fun w45 =>
      some w45
    else
      (gI w 11 v0 23).bind fun x46 =>
      (gI w 11 v0 25).bind fun x47 =>
      if (9 : Int32) ≤ (x46 - x47) then
        f_X11_takes_139 fu (f_X11_takes_80 fu n) w v0 v0 (-1 : Int64)
      else
        (gJ w 11 v0 26).bind fun x51 =>
        (gI w 11 v0 23).bind fun x52 =>
        (cl w 11 v0 (f_X11_byteAt w v0 x52)).bind fun q53 =>
        f_X11_takes_139 fu (f_X11_takes_80 fu n) w v0 v0 (((((27 : Int64) * x51) + q53.toInt64) - (97 : Int64)) + (1 : Int64))
def f_X11_takes_0 (fu : Nat) : Nat → MW → Nat → Option MW
  | 0, _, _ => none
  | n + 1, w, v0 =>
    (gI w 11 v0 23).bind fun x1 =>
    (cl w 11 v0 (f_X11_byteAt w v0 x1)).bind fun q2 =>
    if q2 = (32 : Int32) then
      f_X11_takes_26 fu (f_X11_takes_0 fu n) w v0
    else
      (gI w 11 v0 23).bind fun x7 =>
      (cl w 11 v0 (f_X11_byteAt w v0 x7)).bind fun q8 =>
      if q8 = (10 : Int32) then
        f_X11_takes_26 fu (f_X11_takes_0 fu n) w v0
      else
        (gI w 11 v0 23).bind fun x11 =>
        (pV w 11 v0 25 (.int x11)).bind fun w12 =>
        (gI w12 11 v0 23).bind fun x13 =>
        (cl w12 11 v0 (f_X11_byteAt w12 v0 x13)).bind fun q14 =>
        bnd q14 fun x17 =>
        (pV w12 11 v0 26 (.long (0 : Int64))).bind fun w18 =>
        if 0 ≤ x17 then
          if (f_X11_isLetter x17) = 0 then
            if (f_X11_isDigit x17) = 0 then
              (gI w18 11 v0 23).bind fun x19 =>
              (pV w18 11 v0 23 (.int (x19 + (1 : Int32)))).bind fun w20 =>
              (pV w20 11 v0 26 (.long x17.toInt64)).bind fun w21 =>
              if x17 = (59 : Int32) then
                f_X11_takes_302 fu w21 v0 (3 : Int32)
              else
                if x17 = (45 : Int32) then
                  f_X11_takes_302 fu w21 v0 (3 : Int32)
                else
                  f_X11_takes_302 fu w21 v0 (4 : Int32)
            else
              f_X11_takes_170 fu fu w18 v0
          else
            f_X11_takes_80 fu fu w18 v0
        else
          (pV w18 11 v0 24 (.int (0 : Int32))).bind fun w56 =>
          some w56
def f_X11_takes (fu : Nat) (w : MW) (v0 : Nat) : Option MW :=
  f_X11_takes_0 fu fu w v0
def f_X11_fails (w : MW) (v0 : Nat) (v1 : Int32) (v2 : Int32) : Option MW :=
  (gI w 11 v0 6).bind fun x1 =>
  if x1 ≤ 0 then
    (pV w 11 v0 6 (.int v1)).bind fun w2 =>
    (pV w2 11 v0 7 (.int v2)).bind fun w3 =>
    some w3
  else
    some w
def f_X11_isGood (w : MW) (v0 : Nat) : Option Int32 :=
  (gI w 11 v0 6).bind fun x1 =>
  if x1 = 0 then
    some (1 : Int32)
  else
    some (0 : Int32)
def f_X11_hasWord_29 (fu : Nat) (w : MW) (v0 : Nat) (s0 : Int32) : Option (Int32 × MW) :=
  bnd s0 fun x4 =>
  if x4 = 0 then
    (zr .boolean x4).bind fun x5 =>
    some (x5, w)
  else
    (cl w 11 v0 (f_X11_takes fu w v0)).bind fun q6 =>
    (zr .boolean x4).bind fun x9 =>
    some (x9, q6)
def f_X11_hasWord (fu : Nat) (w : MW) (v0 : Nat) (v1 : Int64) : Option (Int32 × MW) :=
  (cl w 11 v0 (f_X11_isGood w v0)).bind fun q1 =>
  if q1 = 0 then
    f_X11_hasWord_29 fu w v0 (0 : Int32)
  else
    (gI w 11 v0 24).bind fun x10 =>
    if x10 = (1 : Int32) then
      (gJ w 11 v0 26).bind fun x11 =>
      if (lg_cmp x11 v1) = 0 then
        f_X11_hasWord_29 fu w v0 (1 : Int32)
      else
        f_X11_hasWord_29 fu w v0 (0 : Int32)
    else
      f_X11_hasWord_29 fu w v0 (0 : Int32)
def f_X11_hasSign_30 (fu : Nat) (w : MW) (v0 : Nat) (s0 : Int32) : Option (Int32 × MW) :=
  bnd s0 fun x4 =>
  if x4 = 0 then
    (zr .boolean x4).bind fun x5 =>
    some (x5, w)
  else
    (cl w 11 v0 (f_X11_takes fu w v0)).bind fun q6 =>
    (zr .boolean x4).bind fun x9 =>
    some (x9, q6)
def f_X11_hasSign (fu : Nat) (w : MW) (v0 : Nat) (v1 : Int32) : Option (Int32 × MW) :=
  (cl w 11 v0 (f_X11_isGood w v0)).bind fun q1 =>
  if q1 = 0 then
    f_X11_hasSign_30 fu w v0 (0 : Int32)
  else
    (gI w 11 v0 24).bind fun x10 =>
    if x10 = (3 : Int32) then
      (gJ w 11 v0 26).bind fun x11 =>
      if (lg_cmp x11 v1.toInt64) = 0 then
        f_X11_hasSign_30 fu w v0 (1 : Int32)
      else
        f_X11_hasSign_30 fu w v0 (0 : Int32)
    else
      f_X11_hasSign_30 fu w v0 (0 : Int32)
def f_X11_numeral_24 (fu : Nat) (w : MW) (v0 : Nat) : Option (Int32 × MW) :=
  (cl w 11 v0 (f_X11_isGood w v0)).bind fun q4 =>
  if q4 = 0 then
    some ((0 : Int32), w)
  else
    (gJ w 11 v0 26).bind fun x7 =>
    bnd x7.toInt32 fun x8 =>
    (cl w 11 v0 (f_X11_takes fu w v0)).bind fun q9 =>
    some (x8, q9)
def f_X11_numeral (fu : Nat) (w : MW) (v0 : Nat) : Option (Int32 × MW) :=
  (cl w 11 v0 (f_X11_isGood w v0)).bind fun q1 =>
  if q1 = 0 then
    f_X11_numeral_24 fu w v0
  else
    (gI w 11 v0 24).bind fun x12 =>
    if x12 = (2 : Int32) then
      f_X11_numeral_24 fu w v0
    else
      (gI w 11 v0 25).bind fun x13 =>
      (cl w 11 v0 (f_X11_fails w v0 (1 : Int32) x13)).bind fun q14 =>
      f_X11_numeral_24 fu q14 v0
def f_X11_setNumber_30 (fu : Nat) (w : MW) (v0 : Nat) (v2 : Int32) : Option (Int32 × MW) :=
  (cl w 11 v0 (f_X11_isGood w v0)).bind fun q10 =>
  if q10 = 0 then
    some ((0 : Int32), w)
  else
    some (v2, w)
def f_X11_setNumber (fu : Nat) (w : MW) (v0 : Nat) : Option (Int32 × MW) :=
  (gI w 11 v0 25).bind fun x1 =>
  bnd x1 fun x2 =>
  (cl w 11 v0 (f_X11_numeral fu w v0)).bind fun q3 =>
  bnd q3.1 fun x6 =>
  (cl q3.2 11 v0 (f_X11_isGood q3.2 v0)).bind fun q7 =>
  if q7 = 0 then
    f_X11_setNumber_30 fu q3.2 v0 x6
  else
    if (f_X11_isSet x6) = 0 then
      (cl q3.2 11 v0 (f_X11_fails q3.2 v0 (2 : Int32) x2)).bind fun q13 =>
      f_X11_setNumber_30 fu q13 v0 x6
    else
      f_X11_setNumber_30 fu q3.2 v0 x6
def f_X11_readsKeys_105 (fu : Nat) (lr57 : MW → Nat → Int32 → Int32 → Int32 → Int32 → Option MW) (w : MW) (v0 : Nat) (v1 : Int32) (v2 : Int32) (v4 : Int32) (v5 : Int32) : Option MW :=
  bnd (v5 + 1) fun x19 =>
  lr57 w v0 v1 v2 v4 x19
def f_X11_readsKeys_92 (fu : Nat) (lr57 : MW → Nat → Int32 → Int32 → Int32 → Int32 → Option MW) (w : MW) (v0 : Nat) (v1 : Int32) (v2 : Int32) (v4 : Int32) (v5 : Int32) (v6 : Int32) : Option MW :=
  if v6 = 0 then
    (cl w 11 v0 (f_X11_puts fu w v0 v1 v5 (0 : Int32))).bind fun q20 =>
    f_X11_readsKeys_105 fu lr57 q20 v0 v1 v2 v4 v5
  else
    f_X11_readsKeys_105 fu lr57 w v0 v1 v2 v4 v5
def f_X11_readsKeys_57 (fu : Nat) : Nat → MW → Nat → Int32 → Int32 → Int32 → Int32 → Option MW
  | 0, _, _, _, _, _, _ => none
  | n + 1, w, v0, v1, v2, v4, v5 =>
    if v4 < v5 then
      some w
    else
      (cl w 11 v0 (f_X11_isGood w v0)).bind fun q12 =>
      if q12 = 0 then
        some w
      else
        (cl w 11 v0 (f_X11_refusesPut fu w v0 v1 v5)).bind fun q15 =>
        bnd q15 fun x18 =>
        if x18 = (4 : Int32) then
          (cl w 11 v0 (f_X11_fails w v0 (3 : Int32) v2)).bind fun q23 =>
          f_X11_readsKeys_92 fu (f_X11_readsKeys_57 fu n) q23 v0 v1 v2 v4 v5 x18
        else
          f_X11_readsKeys_92 fu (f_X11_readsKeys_57 fu n) w v0 v1 v2 v4 v5 x18
def f_X11_readsKeys (fu : Nat) (w : MW) (v0 : Nat) (v1 : Int32) : Option MW :=
  (gI w 11 v0 25).bind fun x1 =>
  bnd x1 fun x2 =>
  (cl w 11 v0 (f_X11_numeral fu w v0)).bind fun q3 =>
  bnd q3.1 fun x6 =>
  bnd x6 fun x7 =>
  (cl q3.2 11 v0 (f_X11_hasSign fu q3.2 v0 (45 : Int32))).bind fun q8 =>
  if q8.1 = 0 then
    bnd x6 fun x11 =>
    f_X11_readsKeys_57 fu fu q8.2 v0 v1 x2 x7 x11
  else
    (gI q8.2 11 v0 25).bind fun x26 =>
    bnd x26 fun x27 =>
    (cl q8.2 11 v0 (f_X11_numeral fu q8.2 v0)).bind fun q28 =>
    bnd q28.1 fun x31 =>
    (cl q28.2 11 v0 (f_X11_isGood q28.2 v0)).bind fun q32 =>
    if q32 = 0 then
      bnd x6 fun x35 =>
      f_X11_readsKeys_57 fu fu q28.2 v0 v1 x2 x31 x35
    else
      if x6 ≤ x31 then
        bnd x6 fun x36 =>
        f_X11_readsKeys_57 fu fu q28.2 v0 v1 x2 x31 x36
      else
        (cl q28.2 11 v0 (f_X11_fails q28.2 v0 (2 : Int32) x27)).bind fun q37 =>
        bnd x6 fun x40 =>
        f_X11_readsKeys_57 fu fu q37 v0 v1 x2 x31 x40
def f_X11_ends (fu : Nat) (w : MW) (v0 : Nat) : Option MW :=
  (cl w 11 v0 (f_X11_isGood w v0)).bind fun q1 =>
  if q1 = 0 then
    some w
  else
    (cl w 11 v0 (f_X11_hasSign fu w v0 (59 : Int32))).bind fun q4 =>
    if q4.1 = 0 then
      (gI q4.2 11 v0 25).bind fun x7 =>
      (cl q4.2 11 v0 (f_X11_fails q4.2 v0 (1 : Int32) x7)).bind fun q8 =>
      some q8
    else
      some q4.2
def f_X11_readsSet_28 (fu : Nat) (w : MW) (v0 : Nat) : Option MW :=
  (cl w 11 v0 (f_X11_ends fu w v0)).bind fun q8 =>
  some q8
def f_X11_readsSet_5 (fu : Nat) : Nat → MW → Nat → Int32 → Option MW
  | 0, _, _, _ => none
  | n + 1, w, v0, v1 =>
    (cl w 11 v0 (f_X11_isGood w v0)).bind fun q5 =>
    if q5 = 0 then
      f_X11_readsSet_28 fu w v0
    else
      (gI w 11 v0 24).bind fun x11 =>
      if x11 = (2 : Int32) then
        (cl w 11 v0 (f_X11_readsKeys fu w v0 v1)).bind fun q12 =>
        (f_X11_readsSet_5 fu n) q12 v0 v1
      else
        f_X11_readsSet_28 fu w v0
def f_X11_readsSet (fu : Nat) (w : MW) (v0 : Nat) : Option MW :=
  (cl w 11 v0 (f_X11_setNumber fu w v0)).bind fun q1 =>
  bnd q1.1 fun x4 =>
  f_X11_readsSet_5 fu fu q1.2 v0 x4
def f_X11_readsAct_383 (fu : Nat) (w : MW) (s0 : Int32) : Option (Int32 × MW) :=
  bnd s0 fun x28 =>
  if x28 ≤ 0 then
    some ((1 : Int32), w)
  else
    some ((0 : Int32), w)
def f_X11_readsAct_346 (fu : Nat) (w : MW) (v0 : Nat) (v3 : Int32) (v5 : Int32) : Option (Int32 × MW) :=
  (cl w 11 v0 (f_X11_goOver fu w v0 v5 (0 : Int32) (9999 : Int32) v3)).bind fun q25 =>
  f_X11_readsAct_383 fu q25.2 q25.1
def f_X11_readsAct_283 (fu : Nat) (w : MW) (v0 : Nat) (v1 : Int64) (v3 : Int32) (v5 : Int32) (v6 : Int32) (v7 : Int32) : Option (Int32 × MW) :=
  if (lg_cmp v1 (257105 : Int64)) = 0 then
    (cl w 11 v0 (f_X11_marked fu w v0 v3 v5 v6 (1 : Int32) (1 : Int32))).bind fun q35 =>
    f_X11_readsAct_383 fu q35.2 q35.1
  else
    if (lg_cmp v1 (2774 : Int64)) = 0 then
      (cl w 11 v0 (f_X11_goOver fu w v0 v3 (v5 + (1 : Int32)) (9999 : Int32) v6)).bind fun q32 =>
      f_X11_readsAct_383 fu q32.2 q32.1
    else
      if (lg_cmp v1 (208022 : Int64)) = 0 then
        f_X11_readsAct_346 fu w v0 v3 v5
      else
        if (lg_cmp v1 (259868 : Int64)) = 0 then
          f_X11_readsAct_346 fu w v0 v3 v5
        else
          if (lg_cmp v1 (267413 : Int64)) = 0 then
            (cl w 11 v0 (f_X11_goOver fu w v0 v3 v5 v6 v7)).bind fun q29 =>
            f_X11_readsAct_383 fu q29.2 q29.1
          else
            f_X11_readsAct_383 fu w (1 : Int32)
def f_X11_readsAct_280 (fu : Nat) (w : MW) (v0 : Nat) (v1 : Int64) (v3 : Int32) (v5 : Int32) (v6 : Int32) (v7 : Int32) (s0 : Nat) (s1 : Int32) (s2 : Int32) : Option (Int32 × MW) :=
  (cl w 11 s0 (f_X11_shifts fu w s0 s1 s2)).bind fun q38 =>
  f_X11_readsAct_283 fu q38 v0 v1 v3 v5 v6 v7
def f_X11_readsAct_247 (fu : Nat) (w : MW) (v0 : Nat) (v1 : Int64) (v3 : Int32) (v4 : Int32) (v5 : Int32) (v6 : Int32) (v7 : Int32) (s0 : Int32) : Option (Int32 × MW) :=
  bnd s0 fun x24 =>
  if x24 ≤ 0 then
    if (lg_cmp v1 (10261586 : Int64)) = 0 then
      if v4 = 0 then
        f_X11_readsAct_280 fu w v0 v1 v3 v5 v6 v7 v0 v3 v5
      else
        f_X11_readsAct_280 fu w v0 v1 v3 v5 v6 v7 v0 v3 (-v5)
    else
      f_X11_readsAct_283 fu w v0 v1 v3 v5 v6 v7
  else
    some (x24, w)
def f_X11_readsAct_230 (fu : Nat) (w : MW) (v0 : Nat) (v1 : Int64) (v3 : Int32) (v4 : Int32) (v5 : Int32) (v6 : Int32) (v7 : Int32) (s0 : Nat) (s1 : Int32) (s2 : Int32) : Option (Int32 × MW) :=
  (cl w 11 s0 (f_X11_refusesShift w s0 s1 s2)).bind fun q41 =>
  f_X11_readsAct_247 fu w v0 v1 v3 v4 v5 v6 v7 q41
def f_X11_readsAct_115 (fu : Nat) (w : MW) (v0 : Nat) (v1 : Int64) (v3 : Int32) (v4 : Int32) (v5 : Int32) (v6 : Int32) (s0 : Int32) : Option (Int32 × MW) :=
  bnd s0 fun x14 =>
  (cl w 11 v0 (f_X11_ends fu w v0)).bind fun q15 =>
  (cl q15 11 v0 (f_X11_isGood q15 v0)).bind fun q18 =>
  if q18 = 0 then
    some ((0 : Int32), q15)
  else
    if (lg_cmp v1 (257105 : Int64)) = 0 then
      (cl q15 11 v0 (f_X11_refusesMark fu q15 v0 v3 v5 v6 (1 : Int32))).bind fun q53 =>
      f_X11_readsAct_247 fu q53.2 v0 v1 v3 v4 v5 v6 x14 q53.1
    else
      if (lg_cmp v1 (2774 : Int64)) = 0 then
        (cl q15 11 v0 (f_X11_refusesCut fu q15 v0 v3 v5 v6)).bind fun q50 =>
        f_X11_readsAct_247 fu q15 v0 v1 v3 v4 v5 v6 x14 q50
      else
        if (lg_cmp v1 (208022 : Int64)) = 0 then
          (cl q15 11 v0 (f_X11_refusesJoin q15 v0 v3 v5)).bind fun q47 =>
          f_X11_readsAct_247 fu q15 v0 v1 v3 v4 v5 v6 x14 q47
        else
          if (lg_cmp v1 (259868 : Int64)) = 0 then
            (cl q15 11 v0 (f_X11_refusesMelt fu q15 v0 v3 v5)).bind fun q44 =>
            f_X11_readsAct_247 fu q15 v0 v1 v3 v4 v5 v6 x14 q44
          else
            if (lg_cmp v1 (10261586 : Int64)) = 0 then
              if v4 = 0 then
                f_X11_readsAct_230 fu q15 v0 v1 v3 v4 v5 v6 x14 v0 v3 v5
              else
                f_X11_readsAct_230 fu q15 v0 v1 v3 v4 v5 v6 x14 v0 v3 (-v5)
            else
              (cl q15 11 v0 (f_X11_refusesMove fu q15 v0 v3 v5 v6 x14)).bind fun q21 =>
              f_X11_readsAct_247 fu q15 v0 v1 v3 v4 v5 v6 x14 q21
def f_X11_readsAct_97 (fu : Nat) (w : MW) (v0 : Nat) (v1 : Int64) (v3 : Int32) (v4 : Int32) (v5 : Int32) (s0 : Int32) : Option (Int32 × MW) :=
  bnd s0 fun x13 =>
  if (lg_cmp v1 (267413 : Int64)) = 0 then
    (cl w 11 v0 (f_X11_setNumber fu w v0)).bind fun q56 =>
    f_X11_readsAct_115 fu q56.2 v0 v1 v3 v4 v5 x13 q56.1
  else
    f_X11_readsAct_115 fu w v0 v1 v3 v4 v5 x13 (0 : Int32)
def f_X11_readsAct_89 (fu : Nat) (w : MW) (v0 : Nat) (v1 : Int64) (v3 : Int32) (v4 : Int32) (v5 : Int32) : Option (Int32 × MW) :=
  (cl w 11 v0 (f_X11_numeral fu w v0)).bind fun q10 =>
  f_X11_readsAct_97 fu q10.2 v0 v1 v3 v4 v5 q10.1
def f_X11_readsAct_56 (fu : Nat) (w : MW) (v0 : Nat) (v1 : Int64) (v3 : Int32) (v4 : Int32) (s0 : Int32) : Option (Int32 × MW) :=
  bnd s0 fun x9 =>
  if (lg_cmp v1 (2774 : Int64)) = 0 then
    (cl w 11 v0 (f_X11_setNumber fu w v0)).bind fun q59 =>
    f_X11_readsAct_97 fu q59.2 v0 v1 v3 v4 x9 q59.1
  else
    if (lg_cmp v1 (257105 : Int64)) = 0 then
      f_X11_readsAct_89 fu w v0 v1 v3 v4 x9
    else
      if (lg_cmp v1 (267413 : Int64)) = 0 then
        f_X11_readsAct_89 fu w v0 v1 v3 v4 x9
      else
        f_X11_readsAct_97 fu w v0 v1 v3 v4 x9 (0 : Int32)
def f_X11_readsAct_45 (fu : Nat) (w : MW) (v0 : Nat) (v1 : Int64) (v3 : Int32) (v4 : Int32) : Option (Int32 × MW) :=
  (cl w 11 v0 (f_X11_setNumber fu w v0)).bind fun q6 =>
  f_X11_readsAct_56 fu q6.2 v0 v1 v3 v4 q6.1
def f_X11_readsAct_27 (fu : Nat) (w : MW) (v0 : Nat) (v1 : Int64) (v3 : Int32) (s0 : Int32) : Option (Int32 × MW) :=
  bnd s0 fun x5 =>
  if (lg_cmp v1 (208022 : Int64)) = 0 then
    f_X11_readsAct_45 fu w v0 v1 v3 x5
  else
    if (lg_cmp v1 (259868 : Int64)) = 0 then
      f_X11_readsAct_45 fu w v0 v1 v3 x5
    else
      (cl w 11 v0 (f_X11_numeral fu w v0)).bind fun q62 =>
      f_X11_readsAct_56 fu q62.2 v0 v1 v3 x5 q62.1
def f_X11_readsAct (fu : Nat) (w : MW) (v0 : Nat) (v1 : Int64) : Option (Int32 × MW) :=
  (cl w 11 v0 (f_X11_setNumber fu w v0)).bind fun q1 =>
  bnd q1.1 fun x4 =>
  if (lg_cmp v1 (10261586 : Int64)) = 0 then
    (cl q1.2 11 v0 (f_X11_hasSign fu q1.2 v0 (45 : Int32))).bind fun q65 =>
    if q65.1 = 0 then
      f_X11_readsAct_27 fu q65.2 v0 v1 x4 (0 : Int32)
    else
      f_X11_readsAct_27 fu q65.2 v0 v1 x4 (1 : Int32)
  else
    f_X11_readsAct_27 fu q1.2 v0 v1 x4 (0 : Int32)
def f_X11_readsLine_99 (fu : Nat) (w : MW) (v0 : Nat) (v1 : Int32) (v2 : Int64) : Option MW :=
  (cl w 11 v0 (f_X11_readsAct fu w v0 v2)).bind fun q11 =>
  if q11.1 ≤ 0 then
    some q11.2
  else
    (cl q11.2 11 v0 (f_X11_fails q11.2 v0 (4 : Int32) v1)).bind fun q14 =>
    some q14
def f_X11_readsLine_21 (fu : Nat) (w : MW) (v0 : Nat) (v1 : Int32) (s0 : Int64) : Option MW :=
  bnd s0 fun x4 =>
  (cl w 11 v0 (f_X11_hasWord fu w v0 (14006 : Int64))).bind fun q5 =>
  if q5.1 = 0 then
    (cl q5.2 11 v0 (f_X11_hasWord fu q5.2 v0 (257105 : Int64))).bind fun q8 =>
    if q8.1 = 0 then
      (cl q8.2 11 v0 (f_X11_hasWord fu q8.2 v0 (2774 : Int64))).bind fun q17 =>
      if q17.1 = 0 then
        (cl q17.2 11 v0 (f_X11_hasWord fu q17.2 v0 (208022 : Int64))).bind fun q20 =>
        if q20.1 = 0 then
          (cl q20.2 11 v0 (f_X11_hasWord fu q20.2 v0 (259868 : Int64))).bind fun q23 =>
          if q23.1 = 0 then
            (cl q23.2 11 v0 (f_X11_hasWord fu q23.2 v0 (10261586 : Int64))).bind fun q26 =>
            if q26.1 = 0 then
              (cl q26.2 11 v0 (f_X11_hasWord fu q26.2 v0 (267413 : Int64))).bind fun q29 =>
              if q29.1 = 0 then
                (gI q29.2 11 v0 25).bind fun x32 =>
                (cl q29.2 11 v0 (f_X11_fails q29.2 v0 (1 : Int32) x32)).bind fun q33 =>
                some q33
              else
                f_X11_readsLine_99 fu q29.2 v0 v1 x4
            else
              f_X11_readsLine_99 fu q26.2 v0 v1 x4
          else
            f_X11_readsLine_99 fu q23.2 v0 v1 x4
        else
          f_X11_readsLine_99 fu q20.2 v0 v1 x4
      else
        f_X11_readsLine_99 fu q17.2 v0 v1 x4
    else
      f_X11_readsLine_99 fu q8.2 v0 v1 x4
  else
    (cl q5.2 11 v0 (f_X11_readsSet fu q5.2 v0)).bind fun q36 =>
    some q36
def f_X11_readsLine (fu : Nat) (w : MW) (v0 : Nat) : Option MW :=
  (gI w 11 v0 25).bind fun x1 =>
  bnd x1 fun x2 =>
  (gI w 11 v0 24).bind fun x3 =>
  if x3 = (1 : Int32) then
    (gJ w 11 v0 26).bind fun x39 =>
    f_X11_readsLine_21 fu w v0 x2 x39
  else
    f_X11_readsLine_21 fu w v0 x2 (0 : Int64)
def f_X11_text_67 (fu : Nat) (w : MW) (v0 : Nat) : Option (Int32 × MW) :=
  (pV w 11 v0 9 (.int (0 : Int32))).bind fun w17 =>
  (cl w17 11 v0 (f_X11_isGood w17 v0)).bind fun q18 =>
  if q18 = 0 then
    some ((-1 : Int32), w17)
  else
    (cl w17 11 v0 (f_X11_copies fu w17 v0 (976 : Int32) (0 : Int32) (976 : Int32))).bind fun q21 =>
    (pV q21 11 v0 8 (.int (0 : Int32))).bind fun w24 =>
    (cl w24 11 v0 (f_X11_total fu w24 v0)).bind fun q25 =>
    some (q25, w24)
def f_X11_text_46 (fu : Nat) : Nat → MW → Nat → Option (Int32 × MW)
  | 0, _, _ => none
  | n + 1, w, v0 =>
    (cl w 11 v0 (f_X11_isGood w v0)).bind fun q14 =>
    if q14 = 0 then
      f_X11_text_67 fu w v0
    else
      (gI w 11 v0 24).bind fun x28 =>
      if x28 = 0 then
        f_X11_text_67 fu w v0
      else
        (cl w 11 v0 (f_X11_readsLine fu w v0)).bind fun q29 =>
        (f_X11_text_46 fu n) q29 v0
def f_X11_text (fu : Nat) (w : MW) (v0 : Nat) : Option (Int32 × MW) :=
  (gI w 11 v0 4).bind fun x1 =>
  (pV w 11 v0 22 (.int x1)).bind fun w2 =>
  (pV w2 11 v0 4 (.int (0 : Int32))).bind fun w3 =>
  (pV w3 11 v0 6 (.int (0 : Int32))).bind fun w4 =>
  (pV w4 11 v0 7 (.int (-1 : Int32))).bind fun w5 =>
  (pV w5 11 v0 23 (.int (0 : Int32))).bind fun w6 =>
  (cl w6 11 v0 (f_X11_empties fu w6 v0 (976 : Int32))).bind fun q7 =>
  (pV q7 11 v0 9 (.int (976 : Int32))).bind fun w10 =>
  (cl w10 11 v0 (f_X11_takes fu w10 v0)).bind fun q11 =>
  f_X11_text_46 fu fu q11 v0
def f_X11_image_65 (fu : Nat) : Nat → MW → Nat → Int32 → Int32 → Int32 → Option (Int32 × MW)
  | 0, _, _, _, _, _ => none
  | n + 1, w, v0, v1, v2, v3 =>
    if (400 : Int32) ≤ v3 then
      (gR w 11 v0 0).bind fun x7 =>
      (gI w 11 v0 4).bind fun x8 =>
      (sI w .int x7 (((v2 + (976 : Int32)) + (800 : Int32)) + (400 : Int32)) x8).bind fun w9 =>
      (gR w9 11 v0 0).bind fun x10 =>
      (gI w9 11 v0 6).bind fun x11 =>
      (sI w9 .int x10 (((v2 + (976 : Int32)) + (800 : Int32)) + (401 : Int32)) x11).bind fun w12 =>
      (gR w12 11 v0 0).bind fun x13 =>
      (gI w12 11 v0 7).bind fun x14 =>
      (sI w12 .int x13 (((v2 + (976 : Int32)) + (800 : Int32)) + (402 : Int32)) x14).bind fun w15 =>
      (gR w15 11 v0 0).bind fun x16 =>
      (gI w15 11 v0 5).bind fun x17 =>
      (sI w15 .int x16 (((v2 + (976 : Int32)) + (800 : Int32)) + (403 : Int32)) x17).bind fun w18 =>
      (gR w18 11 v0 3).bind fun x19 =>
      (sI w18 .boolean x19 v1 (vp_nar .boolean (1 : Int32))).bind fun w20 =>
      some ((1 : Int32), w20)
    else
      (gR w 11 v0 0).bind fun x21 =>
      (gR w 11 v0 2).bind fun x22 =>
      (aI w .int x22 v3).bind fun x23 =>
      (sI w .int x21 (((v2 + (976 : Int32)) + (800 : Int32)) + v3) x23).bind fun w24 =>
      bnd (v3 + 1) fun x25 =>
      (f_X11_image_65 fu n) w24 v0 v1 v2 x25
def f_X11_image_32 (fu : Nat) : Nat → MW → Nat → Int32 → Int32 → Int32 → Option (Int32 × MW)
  | 0, _, _, _, _, _ => none
  | n + 1, w, v0, v1, v2, v3 =>
    if (800 : Int32) ≤ v3 then
      bnd (0 : Int32) fun x6 =>
      f_X11_image_65 fu fu w v0 v1 v2 x6
    else
      (gR w 11 v0 0).bind fun x26 =>
      (gR w 11 v0 1).bind fun x27 =>
      (aI w .int x27 v3).bind fun x28 =>
      (sI w .int x26 ((v2 + (976 : Int32)) + v3) x28).bind fun w29 =>
      bnd (v3 + 1) fun x30 =>
      (f_X11_image_32 fu n) w29 v0 v1 v2 x30
def f_X11_image (fu : Nat) (w : MW) (v0 : Nat) (v1 : Int32) : Option (Int32 × MW) :=
  if (f_X11_isIn v1 (0 : Int32) (2 : Int32)) = 0 then
    some ((0 : Int32), w)
  else
    bnd ((13664 : Int32) + ((2180 : Int32) * v1)) fun x1 =>
    (cl w 11 v0 (f_X11_copies fu w v0 (0 : Int32) x1 (976 : Int32))).bind fun q2 =>
    bnd (0 : Int32) fun x5 =>
    f_X11_image_32 fu fu q2 v0 v1 x1 x5
def f_X11_again_74 (fu : Nat) : Nat → MW → Nat → Int32 → Int32 → Option (Int32 × MW)
  | 0, _, _, _, _ => none
  | n + 1, w, v0, v2, v3 =>
    if (400 : Int32) ≤ v3 then
      (gR w 11 v0 0).bind fun x9 =>
      (aI w .int x9 (((v2 + (976 : Int32)) + (800 : Int32)) + (400 : Int32))).bind fun x10 =>
      (pV w 11 v0 4 (.int x10)).bind fun w11 =>
      (gR w11 11 v0 0).bind fun x12 =>
      (aI w11 .int x12 (((v2 + (976 : Int32)) + (800 : Int32)) + (401 : Int32))).bind fun x13 =>
      (pV w11 11 v0 6 (.int x13)).bind fun w14 =>
      (gR w14 11 v0 0).bind fun x15 =>
      (aI w14 .int x15 (((v2 + (976 : Int32)) + (800 : Int32)) + (402 : Int32))).bind fun x16 =>
      (pV w14 11 v0 7 (.int x16)).bind fun w17 =>
      (gR w17 11 v0 0).bind fun x18 =>
      (aI w17 .int x18 (((v2 + (976 : Int32)) + (800 : Int32)) + (403 : Int32))).bind fun x19 =>
      (pV w17 11 v0 5 (.int x19)).bind fun w20 =>
      (pV w20 11 v0 8 (.int (0 : Int32))).bind fun w21 =>
      some ((1 : Int32), w21)
    else
      (gR w 11 v0 2).bind fun x22 =>
      (gR w 11 v0 0).bind fun x23 =>
      (aI w .int x23 (((v2 + (976 : Int32)) + (800 : Int32)) + v3)).bind fun x24 =>
      (sI w .int x22 v3 x24).bind fun w25 =>
      bnd (v3 + 1) fun x26 =>
      (f_X11_again_74 fu n) w25 v0 v2 x26
def f_X11_again_41 (fu : Nat) : Nat → MW → Nat → Int32 → Int32 → Option (Int32 × MW)
  | 0, _, _, _, _ => none
  | n + 1, w, v0, v2, v3 =>
    if (800 : Int32) ≤ v3 then
      bnd (0 : Int32) fun x8 =>
      f_X11_again_74 fu fu w v0 v2 x8
    else
      (gR w 11 v0 1).bind fun x27 =>
      (gR w 11 v0 0).bind fun x28 =>
      (aI w .int x28 ((v2 + (976 : Int32)) + v3)).bind fun x29 =>
      (sI w .int x27 v3 x29).bind fun w30 =>
      bnd (v3 + 1) fun x31 =>
      (f_X11_again_41 fu n) w30 v0 v2 x31
def f_X11_again (fu : Nat) (w : MW) (v0 : Nat) (v1 : Int32) : Option (Int32 × MW) :=
  if (f_X11_isIn v1 (0 : Int32) (2 : Int32)) = 0 then
    some ((0 : Int32), w)
  else
    (gR w 11 v0 3).bind fun x1 =>
    (aI w .boolean x1 v1).bind fun x2 =>
    if x2 = 0 then
      some ((0 : Int32), w)
    else
      bnd ((13664 : Int32) + ((2180 : Int32) * v1)) fun x3 =>
      (cl w 11 v0 (f_X11_copies fu w v0 x3 (0 : Int32) (976 : Int32))).bind fun q4 =>
      bnd (0 : Int32) fun x7 =>
      f_X11_again_41 fu fu q4 v0 x3 x7
end
section
/-! THE PURE PART: numbers, cells -/
theorem cN : (0 : Int32) = nI 0 ∧ (1 : Int32) = nI 1 ∧ (2 : Int32) = nI 2 ∧ (3 : Int32) = nI 3 ∧ (4 : Int32) = nI 4 ∧ (5 : Int32) = nI 5 ∧ (6 : Int32) = nI 6 ∧ (7 : Int32) = nI 7 ∧ (8 : Int32) = nI 8 ∧ (9 : Int32) = nI 9 ∧ (10 : Int32) = nI 10 ∧ (11 : Int32) = nI 11 ∧ (12 : Int32) = nI 12 ∧ (13 : Int32) = nI 13 ∧ (20 : Int32) = nI 20 ∧ (60 : Int32) = nI 60 ∧ (61 : Int32) = nI 61 ∧ (62 : Int32) = nI 62 ∧ (122 : Int32) = nI 122 ∧ (240 : Int32) = nI 240 ∧ (800 : Int32) = nI 800 ∧ (9999 : Int32) = nI 9999 ∧ (10000 : Int32) = nI 10000 ∧ (976 : Int32) = nI 976 ∧ (1000 : Int32) = nI 1000 := by decide +kernel
theorem nI_mul (a b : Nat) : nI a * nI b = nI (a * b) := by
  unfold nI; rw [← Int32.ofNat_mul]
theorem nI_sub {a b : Nat} (h : b ≤ a) : nI a - nI b = nI (a - b) := by
  have e : nI a = nI (a - b) + nI b := by rw [nI_add]; congr 1; omega
  rw [e, Int32.add_sub_cancel]
theorem nI_half {n : Nat} (h : n < 2 ^ 31) : nI n >>> ((1 : Int32) &&& 31) = nI (n / 2) := pk_shrN h _ 1 (by decide)
theorem nI_odd {n : Nat} (h : n < 2 ^ 31) : nI n &&& (1 : Int32) = nI (n % 2) := by
  apply Int32.toBitVec_inj.mp
  apply BitVec.eq_of_toNat_eq
  show (BitVec.ofNat 32 n &&& 1#32).toNat = (BitVec.ofNat 32 (n % 2)).toNat
  rw [BitVec.toNat_and, BitVec.toNat_ofNat]
  show n % 2 ^ 32 &&& 1 = _
  rw [Nat.and_one_is_mod]
  show n % 2 ^ 32 % 2 = n % 2 % 2 ^ 32
  omega
theorem m1_lt (n : Nat) (h : n < 2 ^ 31) : (-1 : Int32) < nI n := by
  rw [Int32.lt_iff_toInt_lt, nI_toInt h]
  show (-1 : Int) < n
  omega
theorem m1_ne (n : Nat) (h : n < 2 ^ 31) : ¬ nI n = -1 := by
  intro e
  have h1 := m1_lt n h
  rw [e] at h1
  exact absurd h1 (by decide)
theorem m1_ne' (n : Nat) (h : n < 2 ^ 31) : ¬ (-1 : Int32) = nI n := fun e => m1_ne n h e.symm
theorem nI_nneg {n : Nat} (h : n < 2 ^ 31) : ¬ nI n < nI 0 := nI_pos h
theorem some_bind' {α β : Type} (x : α) (k : α → Option β) : (some x).bind k = k x := rfl
theorem gI_ob {w : MW} {c h k : Nat} {fs : List Value} {x : Int32} (hw : w[h]? = some (.inr (c, fs))) (hk : fs[k]? = some (.int x)) : gI w c h k = some x := by
  simp [gI, hw, hk]
theorem gJ_ob {w : MW} {c h k : Nat} {fs : List Value} {x : Int64} (hw : w[h]? = some (.inr (c, fs))) (hk : fs[k]? = some (.long x)) : gJ w c h k = some x := by
  simp [gJ, hw, hk]
theorem gR_ob {w : MW} {c h k : Nat} {fs : List Value} {x : Nat} (hw : w[h]? = some (.inr (c, fs))) (hk : fs[k]? = some (.ref x)) : gR w c h k = some x := by
  simp [gR, hw, hk]
theorem pV_ob {w : MW} {c h k : Nat} {fs : List Value} {v : Value} (hw : w[h]? = some (.inr (c, fs))) (hk : k < fs.length) : pV w c h k v = some (w.set h (.inr (c, fs.set k v))) := by
  simp [pV, hw, hk]
theorem cl_ob {α : Type} {w : MW} {c h : Nat} {fs : List Value} (hw : w[h]? = some (.inr (c, fs))) (x : Option α) : cl w c h x = x := by
  simp [cl, hw]
theorem aI_ar {w : MW} {ty : FieldType} {a n j : Nat} {f : Nat → Int32} (hw : w[a]? = some (.inl (ty, n, .inl f))) (hj : j < n) (hn : n < 2 ^ 31) : aI w ty a (nI j) = some (f j) := by
  have h1 : (nI j).toNatClampNeg = j := nI_clamp (by omega)
  have h2 : (0 : Int32) ≤ nI j := nI_pos' (by omega)
  simp [aI, hw, h1, h2, hj]
theorem sI_ar {w : MW} {ty : FieldType} {a n j : Nat} {f : Nat → Int32} {x : Int32} (hw : w[a]? = some (.inl (ty, n, .inl f))) (hj : j < n) (hn : n < 2 ^ 31) : sI w ty a (nI j) x = some (w.set a (.inl (ty, n, .inl (upd f j x)))) := by
  have h1 : (nI j).toNatClampNeg = j := nI_clamp (by omega)
  have h2 : (0 : Int32) ≤ nI j := nI_pos' (by omega)
  simp [sI, hw, h1, h2, hj]
theorem aRn_ar {w : MW} {ty : FieldType} {a n j x : Nat} {f : Nat → Option Nat} (hw : w[a]? = some (.inl (ty, n, .inr (.inr (.inr (.inr f)))))) (hf : f j = some x) (hj : j < n) (hn : n < 2 ^ 31) : aRn w ty a (nI j) = some x := by
  have h1 : (nI j).toNatClampNeg = j := nI_clamp (by omega)
  have h2 : (0 : Int32) ≤ nI j := nI_pos' (by omega)
  simp [aRn, aR, hw, h1, h2, hj, hf]
theorem aL_ar {w : MW} {ty : FieldType} {a : Nat} {y : vp_A} (hw : w[a]? = some (.inl (ty, y))) : aL w ty a = some (nI y.1) := by
  simp [aL, hw, nI]
theorem get_set_ne {w : MW} {a b : Nat} {x : MC} (h : a ≠ b) : (w.set a x)[b]? = w[b]? := List.getElem?_set_ne h
theorem get_set_eq {w : MW} {a : Nat} {x y : MC} (h : w[a]? = some y) : (w.set a x)[a]? = some x := by
  have : a < w.length := (List.getElem?_eq_some_iff.mp h).1
  simp [this]
theorem upd_eq (f : Nat → Int32) (j : Nat) (x : Int32) : upd f j x j = x := by simp [upd]
theorem upd_ne (f : Nat → Int32) {j k : Nat} (x : Int32) (h : k ≠ j) : upd f j x k = f k := by simp [upd, h]
/-- the j-th of a list of numbers -/
def nth (L : List Nat) (j : Nat) : Nat := L.getD j 0
theorem bnd_eq {α β : Type} (x : α) (k : α → β) : bnd x k = k x := rfl
/-- an entry of a set: twice the key, and 1 if it is marked -/
def SOK (L : List Nat) : Prop := L.Pairwise (fun a b => a / 2 < b / 2) ∧ (∀ e ∈ L, e < 20000) ∧ L.length ≤ 60
/-- how many keys are below a number; not above it -/
def bel (L : List Nat) (x : Int32) : Nat := (L.takeWhile (fun e => decide (nI (e / 2) < x))).length
def nab (L : List Nat) (x : Int32) : Nat := (L.takeWhile (fun e => decide (nI (e / 2) ≤ x))).length
/-- a key's place, or -1 -/
def plc (L : List Nat) (x : Int32) : Int32 := if bel L x < L.length ∧ nI (nth L (bel L x) / 2) = x then nI (bel L x) else -1
theorem SOK.lt {L : List Nat} (h : SOK L) {j : Nat} (hj : j < L.length) : nth L j < 20000 := by
  unfold nth
  rw [List.getD_eq_getElem?_getD, List.getElem?_eq_getElem hj]
  exact h.2.1 _ (List.getElem_mem hj)
theorem SOK.len {L : List Nat} (h : SOK L) : L.length ≤ 60 := h.2.2
/-- a heap of the class -/
def HA (w : MW) (h e : Nat) (L : List Nat) (fg : Int32) : Prop := h ≠ e ∧ w[h]? = some (.inr (0, [.ref e, .int (nI L.length), .int fg])) ∧ ∃ xs, w[e]? = some (.inl (.int, 60, .inl xs)) ∧ ∀ j, j < L.length → xs j = nI (nth L j)
theorem drop_cons {L : List Nat} {i : Nat} (h : i < L.length) : L.drop i = nth L i :: L.drop (i + 1) := by
  unfold nth
  rw [List.drop_eq_getElem_cons h, List.getD_eq_getElem?_getD, List.getElem?_eq_getElem h]; rfl
theorem below_loop {w : MW} {h e : Nat} {L : List Nat} {fg : Int32} (H : HA w h e L fg) (S : SOK L) (fu : Nat) (x : Int32) : ∀ n i, i ≤ L.length → L.length - i < n → f_X0_below_2 fu w n h x (nI i) = some (nI (i + ((L.drop i).takeWhile (fun e => decide (nI (e / 2) < x))).length)) := by
  obtain ⟨hne, h1, xs, h2, h3⟩ := H
  have hl := S.len
  intro n
  induction n with
  | zero => intro i _ hn; omega
  | succ n ih =>
    intro i hi hn
    rw [f_X0_below_2, gI_ob h1 rfl, some_bind']
    by_cases hlt : i = L.length
    · rw [if_pos (nI_le (by omega) (by omega))]
      subst hlt
      simp
    · have hi' : i < L.length := by omega
      rw [if_neg (nI_ge hi' (by omega)), gR_ob h1 rfl, some_bind', aI_ar h2 (by omega) (by omega), some_bind', h3 i hi']
      have he := S.lt hi'
      rw [nI_half (by omega), drop_cons hi', List.takeWhile_cons]
      by_cases hx : nI (nth L i / 2) < x
      · rw [if_neg (Int32.not_le.mpr hx)]
        rw [bnd_eq, nI_1, ih (i + 1) (by omega) (by omega), if_pos (decide_eq_true hx), List.length_cons]
        congr 2
        omega
      · rw [if_pos (Int32.not_lt.mp hx), if_neg (by simp [hx])]
        rfl
theorem below_ok {w : MW} {h e : Nat} {L : List Nat} {fg : Int32} (H : HA w h e L fg) (S : SOK L) {fu : Nat} (hfu : 100 ≤ fu) (x : Int32) : f_X0_below fu w h x = some (nI (bel L x)) := by
  rw [f_X0_below, bnd_eq]
  have := below_loop H S fu x fu 0 (by omega) (by have := S.len; omega)
  rw [show (0 : Int32) = nI 0 from rfl, this]
  simp [bel]
end
section
/-- what a step may change -/
def Chg (ks : List Nat) (w w' : MW) : Prop := w'.length = w.length ∧ ∀ k, k ∉ ks → w'[k]? = w[k]?
theorem Chg.rf (ks : List Nat) (w : MW) : Chg ks w w := ⟨rfl, fun _ _ => rfl⟩
theorem Chg.tr {ks : List Nat} {w w1 w2 : MW} (h1 : Chg ks w w1) (h2 : Chg ks w1 w2) : Chg ks w w2 := ⟨h2.1.trans h1.1, fun k hk => (h2.2 k hk).trans (h1.2 k hk)⟩
theorem Chg.mono {ks ks' : List Nat} {w w' : MW} (h : Chg ks w w') (hs : ∀ k ∈ ks, k ∈ ks') : Chg ks' w w' := ⟨h.1, fun k hk => h.2 k (fun q => hk (hs k q))⟩
theorem Chg.st {ks : List Nat} (w : MW) {a : Nat} (x : MC) (ha : a ∈ ks) : Chg ks w (w.set a x) := ⟨List.length_set, fun k hk => get_set_ne (fun e => hk (e ▸ ha))⟩
theorem Chg.at {ks : List Nat} {w w' : MW} (h : Chg ks w w') {k : Nat} (hk : k ∉ ks) {x : MC} (hx : w[k]? = some x) : w'[k]? = some x := (h.2 k hk).trans hx
theorem HA.chg {ks : List Nat} {w w' : MW} {h e : Nat} {L : List Nat} {fg : Int32} (H : HA w h e L fg) (C : Chg ks w w') (h1 : h ∉ ks) (h2 : e ∉ ks) : HA w' h e L fg := by
  obtain ⟨a, b, xs, c, d⟩ := H
  exact ⟨a, C.at h1 b, xs, C.at h2 c, d⟩
theorem nth_mem {L : List Nat} {j : Nat} (h : j < L.length) : nth L j ∈ L := by
  unfold nth
  rw [List.getD_eq_getElem?_getD, List.getElem?_eq_getElem h]
  exact List.getElem_mem h
theorem nth_get {L : List Nat} {j : Nat} (h : j < L.length) : nth L j = L[j] := by
  unfold nth
  rw [List.getD_eq_getElem?_getD, List.getElem?_eq_getElem h]; rfl
theorem SOK.inc {L : List Nat} (S : SOK L) {i j : Nat} (hij : i < j) (hj : j < L.length) : nth L i / 2 < nth L j / 2 := by
  rw [nth_get hj, nth_get (by omega : i < L.length)]
  exact List.pairwise_iff_getElem.mp S.1 i j _ _ hij
theorem keyAt_in {w : MW} {h e : Nat} {L : List Nat} {fg : Int32} (H : HA w h e L fg) (S : SOK L) {j : Nat} (hj : j < L.length) : f_X0_keyAt w h (nI j) = some (nI (nth L j / 2)) := by
  obtain ⟨hne, h1, xs, h2, h3⟩ := H
  have hl := S.len
  have he := S.lt hj
  rw [f_X0_keyAt, if_neg (nI_pos (by omega)), gI_ob h1 rfl, some_bind', if_neg (nI_ge hj (by omega)), gR_ob h1 rfl, some_bind', aI_ar h2 (by omega) (by omega), some_bind', h3 j hj, nI_half (by omega)]
theorem keyAt_out {w : MW} {h e : Nat} {L : List Nat} {fg : Int32} (H : HA w h e L fg) {j : Nat} (hj : L.length ≤ j) (hj2 : j < 2 ^ 31) : f_X0_keyAt w h (nI j) = some (-1) := by
  obtain ⟨hne, h1, xs, h2, h3⟩ := H
  rw [f_X0_keyAt, if_neg (nI_pos (by omega)), gI_ob h1 rfl, some_bind', if_pos (nI_le hj (by omega))]
theorem keyAt_m1 {w : MW} {h : Nat} : f_X0_keyAt w h (-1) = some (-1) := by
  rw [f_X0_keyAt, if_pos (by decide)]
theorem keyAt_neg {w : MW} {h : Nat} {x : Int32} (hx : x < 0) : f_X0_keyAt w h x = some (-1) := by
  rw [f_X0_keyAt, if_pos hx]
theorem markAt_in {w : MW} {h e : Nat} {L : List Nat} {fg : Int32} (H : HA w h e L fg) (S : SOK L) {j : Nat} (hj : j < L.length) : f_X0_markAt w h (nI j) = some (nI (nth L j % 2)) := by
  obtain ⟨hne, h1, xs, h2, h3⟩ := H
  have hl := S.len
  have he := S.lt hj
  rw [f_X0_markAt, if_neg (nI_pos (by omega)), gI_ob h1 rfl, some_bind', if_neg (nI_ge hj (by omega)), gR_ob h1 rfl, some_bind', aI_ar h2 (by omega) (by omega), some_bind', h3 j hj, nI_odd (by omega)]
theorem notAbove_loop {w : MW} {h e : Nat} {L : List Nat} {fg : Int32} (H : HA w h e L fg) (S : SOK L) (fu : Nat) (x : Int32) : ∀ n i, i ≤ L.length → L.length - i < n → f_X0_notAbove_2 fu w n h x (nI i) = some (nI (i + ((L.drop i).takeWhile (fun e => decide (nI (e / 2) ≤ x))).length)) := by
  obtain ⟨hne, h1, xs, h2, h3⟩ := H
  have hl := S.len
  intro n
  induction n with
  | zero => intro i _ hn; omega
  | succ n ih =>
    intro i hi hn
    rw [f_X0_notAbove_2, gI_ob h1 rfl, some_bind']
    by_cases hlt : i = L.length
    · rw [if_pos (nI_le (by omega) (by omega))]
      subst hlt
      simp
    · have hi' : i < L.length := by omega
      rw [if_neg (nI_ge hi' (by omega)), gR_ob h1 rfl, some_bind', aI_ar h2 (by omega) (by omega), some_bind', h3 i hi']
      have he := S.lt hi'
      rw [nI_half (by omega), drop_cons hi', List.takeWhile_cons]
      by_cases hx : nI (nth L i / 2) ≤ x
      · rw [if_neg (Int32.not_lt.mpr hx)]
        rw [bnd_eq, nI_1, ih (i + 1) (by omega) (by omega), if_pos (decide_eq_true hx), List.length_cons]
        congr 2
        omega
      · rw [if_pos (Int32.not_le.mp hx), if_neg (by simp [hx])]
        rfl
theorem notAbove_ok {w : MW} {h e : Nat} {L : List Nat} {fg : Int32} (H : HA w h e L fg) (S : SOK L) {fu : Nat} (hfu : 100 ≤ fu) (x : Int32) : f_X0_notAbove fu w h x = some (nI (nab L x)) := by
  rw [f_X0_notAbove, bnd_eq]
  have := notAbove_loop H S fu x fu 0 (by omega) (by have := S.len; omega)
  rw [show (0 : Int32) = nI 0 from rfl, this]
  simp [nab]
theorem bel_le (L : List Nat) (x : Int32) : bel L x ≤ L.length := List.Sublist.length_le (List.takeWhile_sublist _)
theorem nab_le (L : List Nat) (x : Int32) : nab L x ≤ L.length := List.Sublist.length_le (List.takeWhile_sublist _)
theorem HA.cl {α : Type} {w : MW} {h e : Nat} {L : List Nat} {fg : Int32} (H : HA w h e L fg) (x : Option α) : cl w 0 h x = x := cl_ob H.2.1 x
theorem rankOf_ok {w : MW} {h e : Nat} {L : List Nat} {fg : Int32} (H : HA w h e L fg) (S : SOK L) {fu : Nat} (hfu : 100 ≤ fu) (x : Int32) : f_X0_rankOf fu w h x = some (plc L x) := by
  have hb := bel_le L x
  have hl := S.len
  rw [f_X0_rankOf, H.cl, below_ok H S hfu, some_bind', bnd_eq]
  obtain ⟨hne, h1, xs, h2, h3⟩ := H
  rw [gI_ob h1 rfl, some_bind']
  unfold plc
  by_cases hc : bel L x < L.length
  · have he := S.lt hc
    rw [if_neg (nI_ge hc (by omega)), gR_ob h1 rfl, some_bind', aI_ar h2 (by omega) (by omega), some_bind', h3 _ hc, nI_half (by omega)]
    by_cases h4 : nI (nth L (bel L x) / 2) = x
    · rw [if_pos h4, if_pos ⟨hc, h4⟩]
    · rw [if_neg h4, if_neg (fun q => h4 q.2)]
  · rw [if_pos (nI_le (by omega) (by omega)), if_neg (fun q => hc q.1)]
theorem imax0 {a b : Nat} (ha : a < 2 ^ 30) (hb : b < 2 ^ 30) : imax 0 (nI a - nI b) = nI (a - b) := by
  unfold imax
  by_cases h : b ≤ a
  · rw [nI_sub h]
    by_cases h2 : a - b = 0
    · rw [h2]; decide
    · rw [if_pos]
      exact nI_lt (a := 0) (by omega) (by omega)
  · have e : nI a - nI b = -nI (b - a) := by
      rw [← nI_sub (by omega : a ≤ b), Int32.neg_sub]
    have h3 : ¬ (0 : Int32) < nI a - nI b := by
      rw [e]
      intro q
      have q1 := Int32.lt_iff_toInt_lt.mp q
      have q2 : (-nI (b - a)).toInt = -((b - a : Nat) : Int) := by
        rw [Int32.toInt_neg, nI_toInt (by omega)]
        apply Int.bmod_eq_of_le <;> omega
      rw [q2, Int32.toInt_zero] at q1
      omega
    rw [if_neg h3, show a - b = 0 by omega]; rfl
/-- how many keys from a number to another one -/
def hmb (L : List Nat) (a b : Int32) : Nat := nab L b - bel L a
theorem howMany_ok {w : MW} {h e : Nat} {L : List Nat} {fg : Int32} (H : HA w h e L fg) (S : SOK L) {fu : Nat} (hfu : 100 ≤ fu) (a b : Int32) : f_X0_howManyBetween fu w h a b = some (nI (hmb L a b)) := by
  have h1 := bel_le L a
  have h2 := nab_le L b
  have hl := S.len
  rw [f_X0_howManyBetween, H.cl, notAbove_ok H S hfu, some_bind', H.cl, below_ok H S hfu, some_bind', imax0 (by omega) (by omega)]
  rfl
/-- the sum of f over i .. e-1 -/
def smF (f : Nat → Nat) (i e : Nat) : Nat := ((List.range' i (e - i)).map f).sum
theorem smF_end (f : Nat → Nat) {i e : Nat} (h : e ≤ i) : smF f i e = 0 := by
  unfold smF; rw [show e - i = 0 by omega]; rfl
theorem smF_cons (f : Nat → Nat) {i e : Nat} (h : i < e) : smF f i e = f i + smF f (i + 1) e := by
  unfold smF
  rw [show e - i = (e - (i + 1)) + 1 by omega, List.range'_succ, List.map_cons, List.sum_cons]
/-- how many marked keys from a number to another one -/
def mkb (L : List Nat) (a b : Int32) : Nat := smF (fun j => nth L j % 2) (bel L a) (nab L b)
theorem marked_loop {w : MW} {h e : Nat} {L : List Nat} {fg : Int32} (H : HA w h e L fg) (S : SOK L) (fu E : Nat) (hE : E ≤ L.length) : ∀ n i acc, i ≤ 60 → E - i < n → f_X0_markedBetween_16 fu w n h (nI E) (nI acc) (nI i) = some (nI (acc + smF (fun j => nth L j % 2) i E)) := by
  have hl := S.len
  intro n
  induction n with
  | zero => intro i acc _ hn; omega
  | succ n ih =>
    intro i acc hi hn
    rw [f_X0_markedBetween_16]
    by_cases hlt : E ≤ i
    · rw [if_pos (nI_le hlt (by omega)), smF_end _ hlt]; rfl
    · have hi' : i < L.length := by omega
      rw [if_neg (nI_ge (by omega) (by omega)), H.cl, markAt_in H S hi', some_bind', bnd_eq, bnd_eq, nI_add, nI_1, ih (i + 1) _ (by omega) (by omega), smF_cons _ (by omega : i < E)]
      congr 2
      omega
theorem marked_ok {w : MW} {h e : Nat} {L : List Nat} {fg : Int32} (H : HA w h e L fg) (S : SOK L) {fu : Nat} (hfu : 100 ≤ fu) (a b : Int32) : f_X0_markedBetween fu w h a b = some (nI (mkb L a b)) := by
  have h1 := bel_le L a
  have h2 := nab_le L b
  have hl := S.len
  rw [f_X0_markedBetween, H.cl, notAbove_ok H S hfu, some_bind', bnd_eq, bnd_eq, H.cl, below_ok H S hfu, some_bind', bnd_eq, show (0 : Int32) = nI 0 from rfl, marked_loop H S fu _ h2 fu _ 0 (by omega) (by omega), Nat.zero_add]
  rfl
theorem empty_ok {w : MW} {h e : Nat} {L : List Nat} {fg : Int32} (H : HA w h e L fg) : ∃ w', f_X0_empty w h = some w' ∧ HA w' h e [] (-1) ∧ Chg [h] w w' := by
  obtain ⟨hne, h1, xs, h2, h3⟩ := H
  refine ⟨(w.set h (.inr (0, [.ref e, .int 0, .int fg]))).set h (.inr (0, [.ref e, .int 0, .int (-1)])), ?_, ⟨hne, ?_, xs, ?_, ?_⟩, ?_⟩
  · rw [f_X0_empty, pV_ob h1 (by simp), some_bind', pV_ob (get_set_eq h1) (by simp), some_bind']; rfl
  · rw [get_set_eq (get_set_eq h1)]; rfl
  · rw [get_set_ne hne, get_set_ne hne]; exact h2
  · intro j hj; simp at hj
  · exact (Chg.st _ _ (by simp)).tr (Chg.st _ _ (by simp))
theorem cpI_ar {w : MW} {a0 a1 n0 n1 sp dp n : Nat} {f g : Nat → Int32} (h0 : w[a0]? = some (.inl (.int, n0, .inl f))) (h1 : w[a1]? = some (.inl (.int, n1, .inl g))) (hs : sp + n ≤ n0) (hd : dp + n ≤ n1) (b0 : n0 < 2 ^ 31) (b1 : n1 < 2 ^ 31) : cpI w .int a0 (nI sp) a1 (nI dp) (nI n) = some (w.set a1 (.inl (.int, n1, .inl (va_cpy f g sp dp n)))) := by
  unfold cpI
  rw [h0, h1]
  dsimp only
  rw [nI_clamp (by omega : sp < 2 ^ 31), nI_clamp (by omega : dp < 2 ^ 31), nI_clamp (by omega : n < 2 ^ 31), if_pos]
  exact ⟨rfl, rfl, nI_pos' (by omega), nI_pos' (by omega), nI_pos' (by omega), hs, hd, fun i _ => rfl⟩
theorem openGap_ok {w : MW} {h e : Nat} {L : List Nat} {fg : Int32} (H : HA w h e L fg) {r n : Nat} (hr : r ≤ L.length) (hn : L.length + n ≤ 60) : ∃ w' xs, f_X0_openGap w h (nI r) (nI n) = some (1, w') ∧ w'[h]? = some (.inr (0, [.ref e, .int (nI (L.length + n)), .int (-1)])) ∧ w'[e]? = some (.inl (.int, 60, .inl xs)) ∧ (∀ j, j < r → xs j = nI (nth L j)) ∧ (∀ j, r ≤ j → j < L.length → xs (j + n) = nI (nth L j)) ∧ Chg [h, e] w w' := by
  obtain ⟨hne, h1, xs, h2, h3⟩ := H
  have hhe : (w.set e (.inl (.int, 60, .inl (va_cpy xs xs r (r + n) (L.length - r)))))[h]? = some (.inr (0, [.ref e, .int (nI L.length), .int fg])) := by rw [get_set_ne (Ne.symm hne)]; exact h1
  refine ⟨((w.set e (.inl (.int, 60, .inl (va_cpy xs xs r (r + n) (L.length - r))))).set h (.inr (0, [.ref e, .int (nI (L.length + n)), .int fg]))).set h (.inr (0, [.ref e, .int (nI (L.length + n)), .int (-1)])), va_cpy xs xs r (r + n) (L.length - r), ?_, ?_, ?_, ?_, ?_, ?_⟩
  · rw [f_X0_openGap, if_neg (nI_pos (by omega)), gI_ob h1 rfl, some_bind', if_neg (nI_nlt hr (by omega)), if_neg (nI_pos (by omega)), some_bind', show (60 : Int32) = nI 60 from rfl, nI_sub (by omega), if_pos (nI_le (by omega) (by omega)), gR_ob h1 rfl, some_bind', some_bind', some_bind', nI_sub hr, nI_add, cpI_ar h2 h2 (by omega) (by omega) (by omega) (by omega), some_bind', gI_ob hhe rfl, some_bind', nI_add, pV_ob hhe (by simp), some_bind', pV_ob (get_set_eq hhe) (by simp), some_bind']; rfl
  · rw [get_set_eq (get_set_eq hhe)]
  · rw [get_set_ne hne, get_set_ne hne, get_set_eq h2]
  · intro j hj
    unfold va_cpy
    rw [if_neg (by omega)]
    exact h3 j (by omega)
  · intro j h4 h5
    unfold va_cpy
    rw [if_pos (by omega), show r + (j + n - (r + n)) = j by omega]
    exact h3 j h5
  · exact ((Chg.st _ _ (by simp)).tr (Chg.st _ _ (by simp))).tr (Chg.st _ _ (by simp))
theorem closeGap_ok {w : MW} {h e : Nat} {L : List Nat} {fg : Int32} (H : HA w h e L fg) (hl : L.length ≤ 60) {r n : Nat} (hr : r + n ≤ L.length) : ∃ w', f_X0_closeGap w h (nI r) (nI n) = some w' ∧ HA w' h e (L.take r ++ L.drop (r + n)) (-1) ∧ Chg [h, e] w w' := by
  obtain ⟨hne, h1, xs, h2, h3⟩ := H
  have hhe : (w.set e (.inl (.int, 60, .inl (va_cpy xs xs (r + n) r (L.length - r - n)))))[h]? = some (.inr (0, [.ref e, .int (nI L.length), .int fg])) := by rw [get_set_ne (Ne.symm hne)]; exact h1
  have hlen : (L.take r ++ L.drop (r + n)).length = L.length - n := by simp; omega
  refine ⟨((w.set e (.inl (.int, 60, .inl (va_cpy xs xs (r + n) r (L.length - r - n))))).set h (.inr (0, [.ref e, .int (nI (L.length - n)), .int fg]))).set h (.inr (0, [.ref e, .int (nI (L.length - n)), .int (-1)])), ?_, ⟨hne, ?_, va_cpy xs xs (r + n) r (L.length - r - n), ?_, ?_⟩, ?_⟩
  · rw [f_X0_closeGap, if_neg (nI_pos (by omega)), if_neg (nI_pos (by omega)), gI_ob h1 rfl, some_bind', nI_sub (by omega), if_neg (nI_nlt (by omega) (by omega)), gR_ob h1 rfl, some_bind', some_bind', some_bind', nI_sub (by omega), nI_sub (by omega), nI_add, cpI_ar h2 h2 (by omega) (by omega) (by omega) (by omega), some_bind', gI_ob hhe rfl, some_bind', nI_sub (by omega), pV_ob hhe (by simp), some_bind', pV_ob (get_set_eq hhe) (by simp), some_bind']; rfl
  · rw [get_set_eq (get_set_eq hhe), hlen]
  · rw [get_set_ne hne, get_set_ne hne, get_set_eq h2]
  · intro j hj
    rw [hlen] at hj
    unfold va_cpy
    by_cases h4 : j < r
    · rw [if_neg (by omega), h3 j (by omega)]
      congr 1
      unfold nth
      rw [List.getD_eq_getElem?_getD, List.getD_eq_getElem?_getD, List.getElem?_append_left (by simp; omega), List.getElem?_take_of_lt h4]
    · rw [if_pos (by omega), h3 _ (by omega)]
      congr 1
      unfold nth
      rw [List.getD_eq_getElem?_getD, List.getD_eq_getElem?_getD, List.getElem?_append_right (by simp; omega), List.getElem?_drop]
      congr 2
      simp
      omega
  · exact ((Chg.st _ _ (by simp)).tr (Chg.st _ _ (by simp))).tr (Chg.st _ _ (by simp))
/-- a stretch is put at a place -/
def insAt (L : List Nat) (r : Nat) (M : List Nat) : List Nat := L.take r ++ M ++ L.drop r
theorem insAt_len {L M : List Nat} {r : Nat} (h : r ≤ L.length) : (insAt L r M).length = L.length + M.length := by
  simp [insAt]; omega
theorem nth_insAt {L M : List Nat} {r : Nat} (h : r ≤ L.length) (j : Nat) : nth (insAt L r M) j = if j < r then nth L j else if j < r + M.length then nth M (j - r) else nth L (j - M.length) := by
  unfold nth insAt
  simp only [List.getD_eq_getElem?_getD]
  by_cases h1 : j < r
  · rw [if_pos h1, List.append_assoc, List.getElem?_append_left (by simp; omega), List.getElem?_take_of_lt h1]
  · rw [if_neg h1]
    by_cases h2 : j < r + M.length
    · rw [if_pos h2, List.getElem?_append_left (by simp; omega), List.getElem?_append_right (by simp; omega)]
      congr 2
      simp
      omega
    · rw [if_neg h2, List.getElem?_append_right (by simp; omega), List.getElem?_drop]
      congr 2
      simp
      omega
theorem insert_ok {w : MW} {h e : Nat} {L : List Nat} {fg : Int32} (H : HA w h e L fg) (S : SOK L) {fu : Nat} (hfu : 100 ≤ fu) (hl : L.length < 60) {k : Nat} (hk : k < 10000) : ∃ w', f_X0_insert fu w h (nI k) = some (nI (bel L (nI k)), w') ∧ HA w' h e (insAt L (bel L (nI k)) [2 * k]) (-1) ∧ Chg [h, e] w w' := by
  have hb := bel_le L (nI k)
  obtain ⟨w1, xs, g1, g2, g3, g4, g5, g6⟩ := openGap_ok H hb (n := 1) (by omega)
  refine ⟨w1.set e (.inl (.int, 60, .inl (upd xs (bel L (nI k)) (nI (k * 2))))), ?_, ⟨H.1, ?_, upd xs (bel L (nI k)) (nI (k * 2)), get_set_eq g3, ?_⟩, g6.tr (Chg.st _ _ (by simp))⟩
  · rw [f_X0_insert, H.cl, below_ok H S hfu, some_bind', bnd_eq, H.cl, show (1 : Int32) = nI 1 from rfl, g1, some_bind', if_neg (show ¬ (1 : Int32) = 0 by decide), gR_ob g2 rfl, some_bind', show (2 : Int32) = nI 2 from rfl, nI_mul, sI_ar g3 (by omega) (by omega), some_bind']
  · rw [get_set_ne (Ne.symm H.1), g2, insAt_len hb]; rfl
  · intro j hj
    rw [insAt_len hb] at hj
    rw [nth_insAt hb]
    by_cases h1 : j < bel L (nI k)
    · rw [if_pos h1, upd_ne _ _ (by omega), g4 j h1]
    · rw [if_neg h1]
      by_cases h2 : j = bel L (nI k)
      · subst h2
        rw [upd_eq, if_pos (by simp)]
        simp [nth, Nat.mul_comm]
      · have h4 : ¬ j < bel L (nI k) + [2 * k].length := by show ¬ j < bel L (nI k) + 1; omega
        rw [if_neg h4, upd_ne _ _ h2]
        have := g5 (j - 1) (by omega) (by simp at hj; omega)
        rw [show j - 1 + 1 = j by omega] at this
        exact this
end
section
/-! the model's seven cells behind 123 others -/
def mF (F : Nat → Int32) (v : Int64) : List Value := [.ref 124, .ref 125, .ref 126, .ref 127, .int (F 4), .int (F 5), .int (F 6), .int (F 7), .int (F 8), .int (F 9), .ref 128, .int (F 11), .int (F 12), .int (F 13), .int (F 14), .int (F 15), .int (F 16), .int (F 17), .int (F 18), .int (F 19), .int (F 20), .ref 129, .int (F 22), .int (F 23), .int (F 24), .int (F 25), .long v]
def mC (F : Nat → Int32) (v : Int64) (ar : Nat → Nat → Int32) : MW := [.inr (11, mF F v), .inl (.int, 20204, .inl (ar 0)), .inl (.int, 800, .inl (ar 1)), .inl (.int, 400, .inl (ar 2)), .inl (.boolean, 3, .inl (ar 3)), .inl (.int, 64, .inl (ar 4)), .inl (.int, 8, .inl (ar 5))]
def mW (C : MW) (F : Nat → Int32) (v : Int64) (ar : Nat → Nat → Int32) : MW := C ++ mC F v ar
theorem mW_get {C : MW} (hC : C.length = 123) (F : Nat → Int32) (v : Int64) (ar : Nat → Nat → Int32) (i : Nat) : (mW C F v ar)[123 + i]? = (mC F v ar)[i]? := by
  unfold mW
  rw [List.getElem?_append_right (by omega), show 123 + i - C.length = i by omega]
theorem mW_low {C : MW} (hC : C.length = 123) (F : Nat → Int32) (v : Int64) (ar : Nat → Nat → Int32) {k : Nat} (hk : k < 123) : (mW C F v ar)[k]? = C[k]? := by
  unfold mW
  rw [List.getElem?_append_left (by omega)]
theorem mW_set {C : MW} (hC : C.length = 123) (F : Nat → Int32) (v : Int64) (ar : Nat → Nat → Int32) (i : Nat) (x : MC) : (mW C F v ar).set (123 + i) x = C ++ (mC F v ar).set i x := by
  unfold mW
  rw [List.set_append_right _ _ (by omega), show 123 + i - C.length = i by omega]
def ua (ar : Nat → Nat → Int32) (i : Nat) (g : Nat → Int32) : Nat → Nat → Int32 := fun k => if k = i then g else ar k
theorem m_cl {C : MW} (hC : C.length = 123) (F : Nat → Int32) (v : Int64) (ar : Nat → Nat → Int32) {α : Type} (x : Option α) : cl (mW C F v ar) 11 123 x = x := cl_ob (mW_get hC F v ar 0) x
theorem m_gI {C : MW} (hC : C.length = 123) (F : Nat → Int32) (v : Int64) (ar : Nat → Nat → Int32) (k : Nat) {y : Int32} (hk : (mF F v)[k]? = some (.int y)) : gI (mW C F v ar) 11 123 k = some y := gI_ob (mW_get hC F v ar 0) hk
theorem m_gJ {C : MW} (hC : C.length = 123) (F : Nat → Int32) (v : Int64) (ar : Nat → Nat → Int32) : gJ (mW C F v ar) 11 123 26 = some v := gJ_ob (mW_get hC F v ar 0) rfl
theorem m_gR {C : MW} (hC : C.length = 123) (F : Nat → Int32) (v : Int64) (ar : Nat → Nat → Int32) (k : Nat) {y : Nat} (hk : (mF F v)[k]? = some (.ref y)) : gR (mW C F v ar) 11 123 k = some y := gR_ob (mW_get hC F v ar 0) hk
theorem m_p {C : MW} (hC : C.length = 123) (F : Nat → Int32) (v : Int64) (ar : Nat → Nat → Int32) (k : Nat) {x : Value} {F' : Nat → Int32} {v' : Int64} (hl : k < 27) (hk : (mF F v).set k x = mF F' v') : pV (mW C F v ar) 11 123 k x = some (mW C F' v' ar) := by
  rw [pV_ob (mW_get hC F v ar 0) (by show k < 27; exact hl), mW_set hC F v ar 0, hk]
  rfl
theorem m_a0 {C : MW} (hC : C.length = 123) (F : Nat → Int32) (v : Int64) (ar : Nat → Nat → Int32) {j : Nat} (hj : j < 20204) : aI (mW C F v ar) .int 124 (nI j) = some (ar 0 j) := aI_ar (mW_get hC F v ar 1) hj (by decide)
theorem m_a1 {C : MW} (hC : C.length = 123) (F : Nat → Int32) (v : Int64) (ar : Nat → Nat → Int32) {j : Nat} (hj : j < 800) : aI (mW C F v ar) .int 125 (nI j) = some (ar 1 j) := aI_ar (mW_get hC F v ar 2) hj (by decide)
theorem m_a2 {C : MW} (hC : C.length = 123) (F : Nat → Int32) (v : Int64) (ar : Nat → Nat → Int32) {j : Nat} (hj : j < 400) : aI (mW C F v ar) .int 126 (nI j) = some (ar 2 j) := aI_ar (mW_get hC F v ar 3) hj (by decide)
theorem m_a3 {C : MW} (hC : C.length = 123) (F : Nat → Int32) (v : Int64) (ar : Nat → Nat → Int32) {j : Nat} (hj : j < 3) : aI (mW C F v ar) .boolean 127 (nI j) = some (ar 3 j) := aI_ar (mW_get hC F v ar 4) hj (by decide)
theorem m_a4 {C : MW} (hC : C.length = 123) (F : Nat → Int32) (v : Int64) (ar : Nat → Nat → Int32) {j : Nat} (hj : j < 64) : aI (mW C F v ar) .int 128 (nI j) = some (ar 4 j) := aI_ar (mW_get hC F v ar 5) hj (by decide)
theorem m_a5 {C : MW} (hC : C.length = 123) (F : Nat → Int32) (v : Int64) (ar : Nat → Nat → Int32) {j : Nat} (hj : j < 8) : aI (mW C F v ar) .int 129 (nI j) = some (ar 5 j) := aI_ar (mW_get hC F v ar 6) hj (by decide)
theorem m_s0 {C : MW} (hC : C.length = 123) (F : Nat → Int32) (v : Int64) (ar : Nat → Nat → Int32) {j : Nat} (x : Int32) (hj : j < 20204) : sI (mW C F v ar) .int 124 (nI j) x = some (mW C F v (ua ar 0 (upd (ar 0) j x))) := by
  rw [sI_ar (mW_get hC F v ar 1) hj (by decide), mW_set hC F v ar 1]; rfl
theorem m_s1 {C : MW} (hC : C.length = 123) (F : Nat → Int32) (v : Int64) (ar : Nat → Nat → Int32) {j : Nat} (x : Int32) (hj : j < 800) : sI (mW C F v ar) .int 125 (nI j) x = some (mW C F v (ua ar 1 (upd (ar 1) j x))) := by
  rw [sI_ar (mW_get hC F v ar 2) hj (by decide), mW_set hC F v ar 2]; rfl
theorem m_s2 {C : MW} (hC : C.length = 123) (F : Nat → Int32) (v : Int64) (ar : Nat → Nat → Int32) {j : Nat} (x : Int32) (hj : j < 400) : sI (mW C F v ar) .int 126 (nI j) x = some (mW C F v (ua ar 2 (upd (ar 2) j x))) := by
  rw [sI_ar (mW_get hC F v ar 3) hj (by decide), mW_set hC F v ar 3]; rfl
theorem m_s3 {C : MW} (hC : C.length = 123) (F : Nat → Int32) (v : Int64) (ar : Nat → Nat → Int32) {j : Nat} (x : Int32) (hj : j < 3) : sI (mW C F v ar) .boolean 127 (nI j) x = some (mW C F v (ua ar 3 (upd (ar 3) j x))) := by
  rw [sI_ar (mW_get hC F v ar 4) hj (by decide), mW_set hC F v ar 4]; rfl
theorem m_s4 {C : MW} (hC : C.length = 123) (F : Nat → Int32) (v : Int64) (ar : Nat → Nat → Int32) {j : Nat} (x : Int32) (hj : j < 64) : sI (mW C F v ar) .int 128 (nI j) x = some (mW C F v (ua ar 4 (upd (ar 4) j x))) := by
  rw [sI_ar (mW_get hC F v ar 5) hj (by decide), mW_set hC F v ar 5]; rfl
theorem m_s5 {C : MW} (hC : C.length = 123) (F : Nat → Int32) (v : Int64) (ar : Nat → Nat → Int32) {j : Nat} (x : Int32) (hj : j < 8) : sI (mW C F v ar) .int 129 (nI j) x = some (mW C F v (ua ar 5 (upd (ar 5) j x))) := by
  rw [sI_ar (mW_get hC F v ar 6) hj (by decide), mW_set hC F v ar 6]; rfl
theorem ua_eq (ar : Nat → Nat → Int32) (i : Nat) (g : Nat → Int32) : ua ar i g i = g := by simp [ua]
theorem ua_ne (ar : Nat → Nat → Int32) {i k : Nat} (g : Nat → Int32) (h : k ≠ i) : ua ar i g k = ar k := by simp [ua, h]
theorem ua_ua (ar : Nat → Nat → Int32) (i : Nat) (g g' : Nat → Int32) : ua (ua ar i g) i g' = ua ar i g' := by
  funext k; unfold ua; by_cases h : k = i <;> simp [h]
theorem ua_self (ar : Nat → Nat → Int32) (i : Nat) : ua ar i (ar i) = ar := by
  funext k; unfold ua; by_cases h : k = i <;> simp [h]
/-- a set of the model at o -/
def MA (al : Nat → Int32) (o : Nat) (L : List Nat) (fg : Int32) : Prop := al o = nI L.length ∧ al (o + 1) = fg ∧ ∀ j, j < L.length → al (o + 2 + j) = nI (nth L j / 2) ∧ al (o + 62 + j) = nI (nth L j % 2)
theorem mo (b s : Nat) : nI b + 122 * nI s = nI (b + 122 * s) := by
  rw [show (122 : Int32) = nI 122 from rfl, nI_mul, nI_add]
theorem many_at {C : MW} (hC : C.length = 123) {F : Nat → Int32} {v : Int64} {ar : Nat → Nat → Int32} {b s : Nat} (hb : F 9 = nI b) (hb2 : b ≤ 976) (hs : s < 8) : f_X11_many (mW C F v ar) 123 (nI s) = some (ar 0 (b + 122 * s)) := by
  rw [f_X11_many, m_gR hC F v ar 0 rfl, some_bind', m_gI hC F v ar 9 rfl, some_bind', hb, mo, m_a0 hC F v ar (by omega), some_bind']
theorem many_ok {C : MW} (hC : C.length = 123) {F : Nat → Int32} {v : Int64} {ar : Nat → Nat → Int32} {b s : Nat} (hb : F 9 = nI b) (hb2 : b ≤ 976) (hs : s < 8) {L : List Nat} {fg : Int32} (M : MA (ar 0) (b + 122 * s) L fg) : f_X11_many (mW C F v ar) 123 (nI s) = some (nI L.length) := by
  rw [many_at hC hb hb2 hs, M.1]
theorem mkeyAt_at {C : MW} (hC : C.length = 123) {F : Nat → Int32} {v : Int64} {ar : Nat → Nat → Int32} {b s : Nat} (hb : F 9 = nI b) (hb2 : b ≤ 976) (hs : s < 8) {j : Nat} (hj : j < 60) : f_X11_keyAt (mW C F v ar) 123 (nI s) (nI j) = some (ar 0 (b + 122 * s + 2 + j)) := by
  rw [f_X11_keyAt, m_gR hC F v ar 0 rfl, some_bind', m_gI hC F v ar 9 rfl, some_bind', hb, mo, show (2 : Int32) = nI 2 from rfl, nI_add, nI_add, m_a0 hC F v ar (by omega), some_bind']
theorem mkeyAt_ok {C : MW} (hC : C.length = 123) {F : Nat → Int32} {v : Int64} {ar : Nat → Nat → Int32} {b s : Nat} (hb : F 9 = nI b) (hb2 : b ≤ 976) (hs : s < 8) {L : List Nat} {fg : Int32} (M : MA (ar 0) (b + 122 * s) L fg) (S : SOK L) {j : Nat} (hj : j < L.length) : f_X11_keyAt (mW C F v ar) 123 (nI s) (nI j) = some (nI (nth L j / 2)) := by
  rw [mkeyAt_at hC hb hb2 hs (by have := S.len; omega), (M.2.2 j hj).1]
theorem mmarkAt_ok {C : MW} (hC : C.length = 123) {F : Nat → Int32} {v : Int64} {ar : Nat → Nat → Int32} {b s : Nat} (hb : F 9 = nI b) (hb2 : b ≤ 976) (hs : s < 8) {L : List Nat} {fg : Int32} (M : MA (ar 0) (b + 122 * s) L fg) (S : SOK L) {j : Nat} (hj : j < L.length) : f_X11_markAt (mW C F v ar) 123 (nI s) (nI j) = some (nI (nth L j % 2)) := by
  have hl := S.len
  rw [f_X11_markAt, m_gR hC F v ar 0 rfl, some_bind', m_gI hC F v ar 9 rfl, some_bind', hb, mo, show (62 : Int32) = nI 62 from rfl, nI_add, nI_add, m_a0 hC F v ar (by omega), some_bind', (M.2.2 j hj).2]
theorem mfinger_ok {C : MW} (hC : C.length = 123) {F : Nat → Int32} {v : Int64} {ar : Nat → Nat → Int32} {b s : Nat} (hb : F 9 = nI b) (hb2 : b ≤ 976) (hs : s < 8) {L : List Nat} {fg : Int32} (M : MA (ar 0) (b + 122 * s) L fg) : f_X11_finger (mW C F v ar) 123 (nI s) = some fg := by
  rw [f_X11_finger, m_gR hC F v ar 0 rfl, some_bind', m_gI hC F v ar 9 rfl, some_bind', hb, mo, show (1 : Int32) = nI 1 from rfl, nI_add, m_a0 hC F v ar (by omega), some_bind', M.2.1]
theorem mpoints_ok {C : MW} (hC : C.length = 123) {F : Nat → Int32} {v : Int64} {ar : Nat → Nat → Int32} {b s : Nat} (hb : F 9 = nI b) (hb2 : b ≤ 976) (hs : s < 8) (x : Int32) : f_X11_points (mW C F v ar) 123 (nI s) x = some (mW C F v (ua ar 0 (upd (ar 0) (b + 122 * s + 1) x))) := by
  rw [f_X11_points, m_gR hC F v ar 0 rfl, some_bind', m_gI hC F v ar 9 rfl, some_bind', hb, mo, show (1 : Int32) = nI 1 from rfl, nI_add, m_s0 hC F v ar _ (by omega), some_bind']
theorem mbelow_loop {C : MW} (hC : C.length = 123) {F : Nat → Int32} {v : Int64} {ar : Nat → Nat → Int32} {b s : Nat} (hb : F 9 = nI b) (hb2 : b ≤ 976) (hs : s < 8) {L : List Nat} {fg : Int32} (M : MA (ar 0) (b + 122 * s) L fg) (S : SOK L) (fu : Nat) (x : Int32) : ∀ n i, i ≤ L.length → L.length - i < n → f_X11_below_2 fu (mW C F v ar) n 123 (nI s) x (nI i) = some (nI (i + ((L.drop i).takeWhile (fun e => decide (nI (e / 2) < x))).length)) := by
  have hl := S.len
  intro n
  induction n with
  | zero => intro i _ hn; omega
  | succ n ih =>
    intro i hi hn
    rw [f_X11_below_2, m_cl hC, many_ok hC hb hb2 hs M, some_bind']
    by_cases hlt : i = L.length
    · rw [if_pos (nI_le (by omega) (by omega))]
      subst hlt
      simp
    · have hi' : i < L.length := by omega
      rw [if_neg (nI_ge hi' (by omega)), m_cl hC, mkeyAt_ok hC hb hb2 hs M S hi', some_bind', drop_cons hi', List.takeWhile_cons]
      by_cases hx : nI (nth L i / 2) < x
      · rw [if_neg (Int32.not_le.mpr hx), bnd_eq, nI_1, ih (i + 1) (by omega) (by omega), if_pos (decide_eq_true hx), List.length_cons]
        congr 2
        omega
      · rw [if_pos (Int32.not_lt.mp hx), if_neg (by simp [hx])]
        rfl
theorem mbelow_ok {C : MW} (hC : C.length = 123) {F : Nat → Int32} {v : Int64} {ar : Nat → Nat → Int32} {b s : Nat} (hb : F 9 = nI b) (hb2 : b ≤ 976) (hs : s < 8) {L : List Nat} {fg : Int32} (M : MA (ar 0) (b + 122 * s) L fg) (S : SOK L) {fu : Nat} (hfu : 100 ≤ fu) (x : Int32) : f_X11_below fu (mW C F v ar) 123 (nI s) x = some (nI (bel L x)) := by
  rw [f_X11_below, bnd_eq, show (0 : Int32) = nI 0 from rfl, mbelow_loop hC hb hb2 hs M S fu x fu 0 (by omega) (by have := S.len; omega)]
  simp [bel]
theorem mplace_ok {C : MW} (hC : C.length = 123) {F : Nat → Int32} {v : Int64} {ar : Nat → Nat → Int32} {b s : Nat} (hb : F 9 = nI b) (hb2 : b ≤ 976) (hs : s < 8) {L : List Nat} {fg : Int32} (M : MA (ar 0) (b + 122 * s) L fg) (S : SOK L) {fu : Nat} (hfu : 100 ≤ fu) (x : Int32) : f_X11_placeOf fu (mW C F v ar) 123 (nI s) x = some (plc L x) := by
  have h1 := bel_le L x
  have hl := S.len
  rw [f_X11_placeOf, m_cl hC, mbelow_ok hC hb hb2 hs M S hfu, some_bind', bnd_eq, m_cl hC, many_ok hC hb hb2 hs M, some_bind']
  unfold plc
  by_cases hc : bel L x < L.length
  · rw [if_neg (nI_ge hc (by omega)), m_cl hC, mkeyAt_ok hC hb hb2 hs M S hc, some_bind']
    by_cases h4 : nI (nth L (bel L x) / 2) = x
    · rw [if_pos h4, if_pos ⟨hc, h4⟩]
    · rw [if_neg h4, if_neg (fun q => h4 q.2)]
  · rw [if_pos (nI_le (by omega) (by omega)), if_neg (fun q => hc q.1)]
/-- keys and marks behind a place go up by one -/
def shU (al : Nat → Int32) (o a k : Nat) : Nat → Int32 := fun q => if o + 2 + a < q ∧ q ≤ o + 2 + k then al (q - 1) else if o + 62 + a < q ∧ q ≤ o + 62 + k then al (q - 1) else al q
/-- they go down by one -/
def shD (al : Nat → Int32) (o a n : Nat) : Nat → Int32 := fun q => if o + 2 + a ≤ q ∧ q + 1 < o + 2 + n then al (q + 1) else if o + 62 + a ≤ q ∧ q + 1 < o + 62 + n then al (q + 1) else al q
theorem shU_step (al : Nat → Int32) (o a k : Nat) (ha : a < k) (hk : k < 60) : shU (upd (upd al (o + 2 + k) (al (o + 2 + k - 1))) (o + 62 + k) (upd al (o + 2 + k) (al (o + 2 + k - 1)) (o + 62 + k - 1))) o a (k - 1) = shU al o a k := by
  funext q
  unfold shU upd
  repeat' split
  all_goals first | rfl | omega | (congr 1; omega)
theorem shD_step (al : Nat → Int32) (o a n : Nat) (ha : a + 1 < n) (hn : n ≤ 60) : shD (upd (upd al (o + 2 + a) (al (o + 2 + a + 1))) (o + 62 + a) (upd al (o + 2 + a) (al (o + 2 + a + 1)) (o + 62 + a + 1))) o (a + 1) n = shD al o a n := by
  funext q
  unfold shD upd
  repeat' split
  all_goals first | rfl | omega | (congr 1; omega)
end
section
theorem nI_m1 {k : Nat} (h : 0 < k) : nI k + -1 = nI (k - 1) := by
  rw [show (-1 : Int32) = -(nI 1) from rfl, ← Int32.sub_eq_add_neg, nI_sub h]
theorem nI_m1' {k : Nat} (h : 0 < k) : nI k + -nI 1 = nI (k - 1) := nI_m1 h
def putF (al : Nat → Int32) (o a : Nat) (key mark : Int32) : Nat → Int32 := upd (upd (upd (upd al (o + 2 + a) key) (o + 62 + a) mark) o (al o + 1)) (o + 1) (-1)
theorem mputs_loop {C : MW} (hC : C.length = 123) {F : Nat → Int32} {v : Int64} {b s : Nat} (hb : F 9 = nI b) (hb2 : b ≤ 976) (hs : s < 8) (fu a : Nat) (key mark : Int32) : ∀ n k ar, a ≤ k → k < 60 → k - a < n → f_X11_puts_26 fu n (mW C F v ar) 123 (nI s) key mark (nI a) (nI (b + 122 * s)) (nI k) = some (mW C F v (ua ar 0 (putF (shU (ar 0) (b + 122 * s) a k) (b + 122 * s) a key mark))) := by
  intro n
  induction n with
  | zero => intro k ar _ _ hn; omega
  | succ n ih =>
    intro k ar ha hk hn
    rw [f_X11_puts_26]
    by_cases hlt : k ≤ a
    · have hka : k = a := by omega
      subst hka
      have e1 : shU (ar 0) (b + 122 * s) k k = ar 0 := by
        funext q; unfold shU; rw [if_neg (by omega), if_neg (by omega)]
      rw [if_pos (nI_le (Nat.le_refl _) (by omega)), m_gR hC F v ar 0 rfl, some_bind', show (2 : Int32) = nI 2 from rfl, nI_add, nI_add, m_s0 hC F v ar _ (by omega), some_bind', m_gR hC F v _ 0 rfl, some_bind', show (62 : Int32) = nI 62 from rfl, nI_add, nI_add, m_s0 hC F v _ _ (by omega), some_bind', m_gR hC F v _ 0 rfl, some_bind', m_a0 hC F v _ (by omega), some_bind', m_s0 hC F v _ _ (by omega), some_bind', m_cl hC, mpoints_ok hC hb hb2 hs, some_bind', e1]
      simp only [ua_eq, ua_ua]
      congr 3
      unfold putF
      rw [upd_ne _ _ (by omega), upd_ne _ _ (by omega)]
    · rw [if_neg (nI_ge (by omega) (by omega)), m_gR hC F v ar 0 rfl, some_bind', some_bind', show (2 : Int32) = nI 2 from rfl, nI_add, nI_add, show (1 : Int32) = nI 1 from rfl, nI_sub (by omega), m_a0 hC F v ar (by omega), some_bind', m_s0 hC F v ar _ (by omega), some_bind', m_gR hC F v _ 0 rfl, some_bind', some_bind', show (62 : Int32) = nI 62 from rfl, nI_add, nI_add, nI_sub (by omega), m_a0 hC F v _ (by omega), some_bind', m_s0 hC F v _ _ (by omega), some_bind', bnd_eq, nI_m1' (by omega), ih (k - 1) _ (by omega) (by omega) (by omega)]
      simp only [ua_eq, ua_ua]
      rw [shU_step _ _ _ _ (by omega) hk]
theorem MA_put {al : Nat → Int32} {o a m k : Nat} {L : List Nat} {fg : Int32} (M : MA al o L fg) (ha : a ≤ L.length) (hl : L.length < 60) (hm : m ≤ 1) : MA (putF (shU al o a L.length) o a (nI k) (nI m)) o (insAt L a [2 * k + m]) (-1) := by
  have hlen : (insAt L a [2 * k + m]).length = L.length + 1 := insAt_len ha
  refine ⟨?_, ?_, fun j hj => ?_⟩
  · unfold putF
    rw [upd_ne _ _ (by omega), upd_eq, hlen]
    unfold shU
    rw [if_neg (by omega), if_neg (by omega), M.1, nI_1]
  · unfold putF
    rw [upd_eq]
  · rw [hlen] at hj
    have h1 : ([2 * k + m] : List Nat).length = 1 := rfl
    rw [nth_insAt ha, h1]
    unfold putF
    by_cases c1 : j < a
    · rw [if_pos c1, upd_ne _ _ (by omega), upd_ne _ _ (by omega), upd_ne _ _ (by omega), upd_ne _ _ (by omega), upd_ne _ _ (by omega), upd_ne _ _ (by omega), upd_ne _ _ (by omega), upd_ne _ _ (by omega)]
      unfold shU
      rw [if_neg (by omega), if_neg (by omega), if_neg (by omega), if_neg (by omega)]
      exact M.2.2 j (by omega)
    · rw [if_neg c1]
      by_cases c2 : j = a
      · subst c2
        rw [if_pos (by omega), upd_ne _ _ (by omega), upd_ne _ _ (by omega), upd_ne _ _ (by omega), upd_eq, upd_ne _ _ (by omega), upd_ne _ _ (by omega), upd_eq]
        have e1 : nth [2 * k + m] (j - j) = 2 * k + m := by rw [Nat.sub_self]; rfl
        rw [e1]
        exact ⟨by congr 1; omega, by congr 1; omega⟩
      · rw [if_neg (by omega), upd_ne _ _ (by omega), upd_ne _ _ (by omega), upd_ne _ _ (by omega), upd_ne _ _ (by omega), upd_ne _ _ (by omega), upd_ne _ _ (by omega), upd_ne _ _ (by omega), upd_ne _ _ (by omega)]
        unfold shU
        rw [if_pos (by omega), if_neg (by omega), if_pos (by omega), show o + 2 + j - 1 = o + 2 + (j - 1) by omega, show o + 62 + j - 1 = o + 62 + (j - 1) by omega]
        exact M.2.2 (j - 1) (by omega)
theorem putF_out {al : Nat → Int32} {o a n q : Nat} {key mark : Int32} (ha : a < 60) (hn : n < 60) (hq : q < o ∨ o + 122 ≤ q) : putF (shU al o a n) o a key mark q = al q := by
  unfold putF
  rw [upd_ne _ _ (by omega), upd_ne _ _ (by omega), upd_ne _ _ (by omega), upd_ne _ _ (by omega)]
  unfold shU
  rw [if_neg (by omega), if_neg (by omega)]
theorem mputs_ok {C : MW} (hC : C.length = 123) {F : Nat → Int32} {v : Int64} {ar : Nat → Nat → Int32} {b s : Nat} (hb : F 9 = nI b) (hb2 : b ≤ 976) (hs : s < 8) {L : List Nat} {fg : Int32} (M : MA (ar 0) (b + 122 * s) L fg) (S : SOK L) {fu : Nat} (hfu : 100 ≤ fu) (hl : L.length < 60) {k m : Nat} (hm : m ≤ 1) : ∃ al, f_X11_puts fu (mW C F v ar) 123 (nI s) (nI k) (nI m) = some (mW C F v (ua ar 0 al)) ∧ MA al (b + 122 * s) (insAt L (bel L (nI k)) [2 * k + m]) (-1) ∧ ∀ q, q < b + 122 * s ∨ b + 122 * s + 122 ≤ q → al q = ar 0 q := by
  have h1 := bel_le L (nI k)
  refine ⟨putF (shU (ar 0) (b + 122 * s) (bel L (nI k)) L.length) (b + 122 * s) (bel L (nI k)) (nI k) (nI m), ?_, MA_put M h1 hl hm, fun q hq => putF_out (by omega) (by omega) hq⟩
  rw [f_X11_puts, m_cl hC, mbelow_ok hC hb hb2 hs M S hfu, some_bind', bnd_eq, m_gI hC F v ar 9 rfl, some_bind', hb, mo, bnd_eq, m_cl hC, many_ok hC hb hb2 hs M, some_bind', bnd_eq, mputs_loop hC hb hb2 hs fu _ _ _ fu _ ar h1 (by omega) (by omega)]
def drpF (al : Nat → Int32) (o a n : Nat) : Nat → Int32 := upd (upd (shD al o a n) o (nI (n - 1))) (o + 1) (-1)
theorem mdrops_loop {C : MW} (hC : C.length = 123) {F : Nat → Int32} {v : Int64} {b s : Nat} (hb : F 9 = nI b) (hb2 : b ≤ 976) (hs : s < 8) (fu N : Nat) (hN : N ≤ 60) (h0 : 0 < N) : ∀ n a ar, ar 0 (b + 122 * s) = nI N → a < N → N - a < n → f_X11_drops_13 fu n (mW C F v ar) 123 (nI s) (nI (b + 122 * s)) (nI a) = some (mW C F v (ua ar 0 (drpF (ar 0) (b + 122 * s) a N))) := by
  intro n
  induction n with
  | zero => intro a ar _ _ hn; omega
  | succ n ih =>
    intro a ar hM ha hn
    rw [f_X11_drops_13, m_cl hC, many_at hC hb hb2 hs, some_bind', hM, show (1 : Int32) = nI 1 from rfl, nI_add]
    by_cases hlt : N ≤ a + 1
    · rw [if_pos (nI_le hlt (by omega)), m_gR hC F v ar 0 rfl, some_bind', m_a0 hC F v ar (by omega), some_bind', hM, nI_sub (by omega), m_s0 hC F v ar _ (by omega), some_bind', m_cl hC, mpoints_ok hC hb hb2 hs, some_bind']
      simp only [ua_eq, ua_ua]
      have e1 : shD (ar 0) (b + 122 * s) a N = ar 0 := by
        funext q; unfold shD; rw [if_neg (by omega), if_neg (by omega)]
      unfold drpF
      rw [e1]
      rfl
    · rw [if_neg (nI_ge (by omega) (by omega)), m_gR hC F v ar 0 rfl, some_bind', some_bind', show (2 : Int32) = nI 2 from rfl, nI_add, nI_add, nI_add, m_a0 hC F v ar (by omega), some_bind', m_s0 hC F v ar _ (by omega), some_bind', m_gR hC F v _ 0 rfl, some_bind', some_bind', show (62 : Int32) = nI 62 from rfl, nI_add, nI_add, nI_add, m_a0 hC F v _ (by omega), some_bind', m_s0 hC F v _ _ (by omega), some_bind', bnd_eq, ih (a + 1) _ ?_ (by omega) (by omega)]
      · simp only [ua_eq, ua_ua]
        unfold drpF
        rw [shD_step _ _ _ _ (by omega) hN]
      · simp only [ua_eq]
        rw [upd_ne _ _ (by omega), upd_ne _ _ (by omega)]
        exact hM
theorem nth_erase {L : List Nat} {a j : Nat} : nth (L.eraseIdx a) j = if j < a then nth L j else nth L (j + 1) := by
  unfold nth
  rw [List.getD_eq_getElem?_getD, List.getElem?_eraseIdx]
  by_cases h : j < a
  · rw [if_pos h, if_pos h, List.getD_eq_getElem?_getD]
  · rw [if_neg h, if_neg h, List.getD_eq_getElem?_getD]
theorem MA_drp {al : Nat → Int32} {o a : Nat} {L : List Nat} {fg : Int32} (M : MA al o L fg) (ha : a < L.length) (hl : L.length ≤ 60) : MA (drpF al o a L.length) o (L.eraseIdx a) (-1) := by
  have hlen : (L.eraseIdx a).length = L.length - 1 := List.length_eraseIdx_of_lt ha
  refine ⟨?_, ?_, fun j hj => ?_⟩
  · unfold drpF
    rw [upd_ne _ _ (by omega), upd_eq, hlen]
  · unfold drpF
    rw [upd_eq]
  · rw [hlen] at hj
    rw [nth_erase]
    unfold drpF
    rw [upd_ne _ _ (by omega), upd_ne _ _ (by omega), upd_ne _ _ (by omega), upd_ne _ _ (by omega)]
    unfold shD
    by_cases c1 : j < a
    · rw [if_pos c1, if_neg (by omega), if_neg (by omega), if_neg (by omega), if_neg (by omega)]
      exact M.2.2 j (by omega)
    · rw [if_neg c1, if_pos (by omega), if_neg (by omega), if_pos (by omega), show o + 2 + j + 1 = o + 2 + (j + 1) by omega, show o + 62 + j + 1 = o + 62 + (j + 1) by omega]
      exact M.2.2 (j + 1) (by omega)
theorem drpF_out {al : Nat → Int32} {o a n q : Nat} (hn : n ≤ 60) (hq : q < o ∨ o + 122 ≤ q) : drpF al o a n q = al q := by
  unfold drpF
  rw [upd_ne _ _ (by omega), upd_ne _ _ (by omega)]
  unfold shD
  rw [if_neg (by omega), if_neg (by omega)]
theorem mdrops_ok {C : MW} (hC : C.length = 123) {F : Nat → Int32} {v : Int64} {ar : Nat → Nat → Int32} {b s : Nat} (hb : F 9 = nI b) (hb2 : b ≤ 976) (hs : s < 8) {L : List Nat} {fg : Int32} (M : MA (ar 0) (b + 122 * s) L fg) (hl : L.length ≤ 60) {fu : Nat} (hfu : 100 ≤ fu) {a : Nat} (ha : a < L.length) : ∃ al, f_X11_drops fu (mW C F v ar) 123 (nI s) (nI a) = some (mW C F v (ua ar 0 al)) ∧ MA al (b + 122 * s) (L.eraseIdx a) (-1) ∧ ∀ q, q < b + 122 * s ∨ b + 122 * s + 122 ≤ q → al q = ar 0 q := by
  refine ⟨drpF (ar 0) (b + 122 * s) a L.length, ?_, MA_drp M ha hl, fun q hq => drpF_out hl hq⟩
  rw [f_X11_drops, m_gI hC F v ar 9 rfl, some_bind', hb, mo, bnd_eq, bnd_eq, mdrops_loop hC hb hb2 hs fu L.length hl (by omega) fu a ar M.1 ha (by omega)]
theorem mtotal_loop {C : MW} (hC : C.length = 123) {F : Nat → Int32} {v : Int64} {ar : Nat → Nat → Int32} {b : Nat} (hb : F 9 = nI b) (hb2 : b ≤ 976) (fu : Nat) {ln : Nat → Nat} (hl : ∀ s, s < 8 → ar 0 (b + 122 * s) = nI (ln s)) : ∀ n s acc, s ≤ 8 → 8 - s < n → f_X11_total_4 fu (mW C F v ar) n 123 (nI acc) (nI s) = some (nI (acc + smF ln s 8)) := by
  intro n
  induction n with
  | zero => intro s acc _ hn; omega
  | succ n ih =>
    intro s acc hs hn
    rw [f_X11_total_4, show (8 : Int32) = nI 8 from rfl]
    by_cases h : 8 ≤ s
    · rw [if_pos (nI_le h (by omega)), smF_end _ h]; rfl
    · rw [if_neg (nI_ge (by omega) (by omega)), m_cl hC, many_at hC hb hb2 (by omega), some_bind', hl s (by omega), bnd_eq, bnd_eq, nI_add, nI_1, ih (s + 1) _ (by omega) (by omega), smF_cons _ (by omega : s < 8)]
      congr 2
      omega
theorem mtotal_ok {C : MW} (hC : C.length = 123) {F : Nat → Int32} {v : Int64} {ar : Nat → Nat → Int32} {b : Nat} (hb : F 9 = nI b) (hb2 : b ≤ 976) {fu : Nat} (hfu : 100 ≤ fu) {ln : Nat → Nat} (hl : ∀ s, s < 8 → ar 0 (b + 122 * s) = nI (ln s)) : f_X11_total fu (mW C F v ar) 123 = some (nI (smF ln 0 8)) := by
  rw [f_X11_total, bnd_eq, bnd_eq, show (0 : Int32) = nI 0 from rfl, mtotal_loop hC hb hb2 fu hl fu 0 0 (by omega) (by omega), Nat.zero_add]
/-- how many keys from a number to another one, counted -/
def cnt (L : List Nat) (x y : Int32) : Nat := L.countP (fun e => decide (x ≤ nI (e / 2)) && decide (nI (e / 2) ≤ y))
theorem isIn_0 (k x y : Int32) : f_X11_isIn k x y = 0 ↔ ¬ (x ≤ k ∧ k ≤ y) := by
  unfold f_X11_isIn
  split
  · rename_i h
    simp only [true_iff]
    exact fun q => absurd q.1 (Int32.not_le.mpr h)
  · rename_i h
    split
    · rename_i h2
      simp only [true_iff]
      exact fun q => absurd q.2 (Int32.not_le.mpr h2)
    · rename_i h2
      constructor
      · intro q; exact absurd q (by decide)
      · intro q; exact absurd ⟨Int32.not_lt.mp h, Int32.not_lt.mp h2⟩ q
theorem cnt_cons (e : Nat) (L : List Nat) (x y : Int32) : cnt (e :: L) x y = cnt L x y + if x ≤ nI (e / 2) ∧ nI (e / 2) ≤ y then 1 else 0 := by
  unfold cnt
  rw [List.countP_cons]
  congr 1
  by_cases h : x ≤ nI (e / 2) ∧ nI (e / 2) ≤ y
  · rw [if_pos h, if_pos (by simp [h.1, h.2])]
  · rw [if_neg h, if_neg (by simpa using h)]
theorem mcounted_loop {C : MW} (hC : C.length = 123) {F : Nat → Int32} {v : Int64} {ar : Nat → Nat → Int32} {b s : Nat} (hb : F 9 = nI b) (hb2 : b ≤ 976) (hs : s < 8) {L : List Nat} {fg : Int32} (M : MA (ar 0) (b + 122 * s) L fg) (S : SOK L) (fu : Nat) (x y : Int32) : ∀ n i acc, i ≤ L.length → L.length - i < n → f_X11_counted_6 fu (mW C F v ar) n 123 (nI s) x y (nI acc) (nI i) = some (nI (acc + cnt (L.drop i) x y)) := by
  have hl := S.len
  intro n
  induction n with
  | zero => intro i acc _ hn; omega
  | succ n ih =>
    intro i acc hi hn
    rw [f_X11_counted_6, m_cl hC, many_ok hC hb hb2 hs M, some_bind']
    by_cases h : i = L.length
    · rw [if_pos (nI_le (by omega) (by omega))]
      subst h
      simp [cnt]
    · have hi' : i < L.length := by omega
      rw [if_neg (nI_ge hi' (by omega)), m_cl hC, mkeyAt_ok hC hb hb2 hs M S hi', some_bind', drop_cons hi', cnt_cons]
      by_cases hc : x ≤ nI (nth L i / 2) ∧ nI (nth L i / 2) ≤ y
      · rw [if_neg (fun q => (isIn_0 _ _ _).mp q hc), f_X11_counted_38, bnd_eq, bnd_eq, show (1 : Int32) = nI 1 from rfl, nI_add, nI_add, ih (i + 1) _ (by omega) (by omega), if_pos hc]
        congr 2
        omega
      · rw [if_pos ((isIn_0 _ _ _).mpr hc), f_X11_counted_38, bnd_eq, bnd_eq, show (0 : Int32) = nI 0 from rfl, nI_add, nI_1, ih (i + 1) _ (by omega) (by omega), if_neg hc]
        congr 2
theorem mcounted_ok {C : MW} (hC : C.length = 123) {F : Nat → Int32} {v : Int64} {ar : Nat → Nat → Int32} {b s : Nat} (hb : F 9 = nI b) (hb2 : b ≤ 976) (hs : s < 8) {L : List Nat} {fg : Int32} (M : MA (ar 0) (b + 122 * s) L fg) (S : SOK L) {fu : Nat} (hfu : 100 ≤ fu) (x y : Int32) : f_X11_counted fu (mW C F v ar) 123 (nI s) x y = some (nI (cnt L x y)) := by
  rw [f_X11_counted, bnd_eq, bnd_eq, show (0 : Int32) = nI 0 from rfl, mcounted_loop hC hb hb2 hs M S fu x y fu 0 0 (by omega) (by have := S.len; omega), Nat.zero_add, List.drop_zero]
end
section
/-- the class's store holds the sets hs with the fingers fg -/
def CS (w : MW) (hs : Nat → List Nat) (fg : Nat → Int32) : Prop :=
  (∃ a b c, w[1]? = some (.inr (7, [.ref 2, .ref 3, .ref 11, .ref 29, .ref 12, .int a, .int b, .int c]))) ∧ (∃ f, w[2]? = some (.inl (.object RX0, 8, .inr (.inr (.inr (.inr f))))) ∧ ∀ i, i < 8 → f i = some (13 + 2 * i)) ∧ ∀ i, i < 8 → HA w (13 + 2 * i) (14 + 2 * i) (hs i) (fg i)
/-- sets that may be -/
def AOK (hs : Nat → List Nat) : Prop := (∀ i, i < 8 → SOK (hs i)) ∧ smF (fun i => (hs i).length) 0 8 ≤ 240
theorem CS.cl {α : Type} {w : MW} {hs : Nat → List Nat} {fg : Nat → Int32} (h : CS w hs fg) (x : Option α) : cl w 7 1 x = x := by
  obtain ⟨a, b, c, h1⟩ := h.1
  exact cl_ob h1 x
theorem CS.ha {w : MW} {hs : Nat → List Nat} {fg : Nat → Int32} (h : CS w hs fg) {i : Nat} (hi : i < 8) : HA w (13 + 2 * i) (14 + 2 * i) (hs i) (fg i) := h.2.2 i hi
theorem CS.arr {w : MW} {hs : Nat → List Nat} {fg : Nat → Int32} (h : CS w hs fg) : gR w 7 1 0 = some 2 := by
  obtain ⟨a, b, c, h1⟩ := h.1
  exact gR_ob h1 rfl
theorem CS.heap {w : MW} {hs : Nat → List Nat} {fg : Nat → Int32} (h : CS w hs fg) {i : Nat} (hi : i < 8) : aRn w (.object RX0) 2 (nI i) = some (13 + 2 * i) := by
  obtain ⟨f, h1, h2⟩ := h.2.1
  exact aRn_ar h1 (h2 i hi) hi (by decide)
theorem CS.chg {ks : List Nat} {w w' : MW} {hs : Nat → List Nat} {fg : Nat → Int32} (h : CS w hs fg) (C : Chg ks w w') (hk : ∀ k, k ∈ ks → 28 < k ∨ (2 < k ∧ k < 13)) : CS w' hs fg := by
  obtain ⟨⟨a, b, c, h1⟩, ⟨f, h2, h3⟩, h4⟩ := h
  refine ⟨⟨a, b, c, C.at (fun q => by have := hk _ q; omega) h1⟩, ⟨f, C.at (fun q => by have := hk _ q; omega) h2, h3⟩, fun i hi => (h4 i hi).chg C (fun q => by have := hk _ q; omega) (fun q => by have := hk _ q; omega)⟩
/-- one set is another one -/
theorem CS.put {w w' : MW} {hs : Nat → List Nat} {fg : Nat → Int32} (h : CS w hs fg) {i : Nat} (hi : i < 8) {L : List Nat} {f : Int32} (H : HA w' (13 + 2 * i) (14 + 2 * i) L f) (C : Chg [13 + 2 * i, 14 + 2 * i] w w') : CS w' (va_up hs i L) (va_up fg i f) := by
  obtain ⟨⟨a, b, c, h1⟩, ⟨g, h2, h3⟩, h4⟩ := h
  refine ⟨⟨a, b, c, C.at (by simp; omega) h1⟩, ⟨g, C.at (by simp; omega) h2, h3⟩, fun j hj => ?_⟩
  by_cases e : j = i
  · subst e
    simp only [va_up, if_true]
    exact H
  · simp only [va_up, if_neg e]
    exact (h4 j hj).chg C (by simp; omega) (by simp; omega)
theorem set_cases (v : Int32) : (∃ i, i < 8 ∧ v = nI i) ∨ (v < 0 ∨ 8 ≤ v) := by
  by_cases h : v < 0
  · exact Or.inr (Or.inl h)
  · by_cases h2 : (8 : Int32) ≤ v
    · exact Or.inr (Or.inr h2)
    · obtain ⟨j, hj, rfl⟩ := nI_of h
      refine Or.inl ⟨j, ?_, rfl⟩
      rcases Nat.lt_or_ge j 8 with q | q
      · exact q
      · exact absurd (nI_le (a := 8) q hj) h2
theorem key_cases (v : Int32) : (∃ k, k < 10000 ∧ v = nI k) ∨ (v < 0 ∨ 9999 < v) := by
  by_cases h : v < 0
  · exact Or.inr (Or.inl h)
  · by_cases h2 : (9999 : Int32) < v
    · exact Or.inr (Or.inr h2)
    · obtain ⟨j, hj, rfl⟩ := nI_of h
      refine Or.inl ⟨j, ?_, rfl⟩
      rcases Nat.lt_or_ge j 10000 with q | q
      · exact q
      · exact absurd (nI_lt (a := 9999) q hj) h2
theorem heapAt_in {w : MW} {hs : Nat → List Nat} {fg : Nat → Int32} (h : CS w hs fg) {i : Nat} (hi : i < 8) : f_X7_heapAt w 1 (nI i) = some (some (13 + 2 * i)) := by
  rw [f_X7_heapAt, if_neg (nI_pos (by omega)), if_neg (show ¬ (8 : Int32) ≤ nI i from nI_ge (b := 8) hi (by omega)), h.arr, some_bind', h.heap hi, some_bind']
theorem heapAt_out {w : MW} {v : Int32} (h : v < 0 ∨ 8 ≤ v) : f_X7_heapAt w 1 v = some none := by
  rw [f_X7_heapAt]
  by_cases h1 : v < 0
  · rw [if_pos h1]
  · rw [if_neg h1, if_pos (h.resolve_left h1)]
theorem isKey_in {k : Nat} (hk : k < 10000) : f_X10_isKey (nI k) = 1 := by
  rw [f_X10_isKey, if_neg (nI_pos (by omega)), if_neg (show ¬ (9999 : Int32) < nI k from nI_nlt (a := 9999) (by omega) (by omega))]
theorem isKey_out {v : Int32} (h : v < 0 ∨ 9999 < v) : f_X10_isKey v = 0 := by
  rw [f_X10_isKey]
  by_cases h1 : v < 0
  · rw [if_pos h1]
  · rw [if_neg h1, if_pos (h.resolve_left h1)]
theorem ctotal_loop {w : MW} {hs : Nat → List Nat} {fg : Nat → Int32} (h : CS w hs fg) (fu : Nat) : ∀ n i acc, i ≤ 8 → 8 - i < n → f_X7_total_4 fu w n 1 (nI acc) (nI i) = some (nI (acc + smF (fun i => (hs i).length) i 8)) := by
  intro n
  induction n with
  | zero => intro i acc _ hn; omega
  | succ n ih =>
    intro i acc hi hn
    rw [f_X7_total_4, show (8 : Int32) = nI 8 from rfl]
    by_cases h8 : 8 ≤ i
    · rw [if_pos (nI_le h8 (by omega)), smF_end _ h8]; rfl
    · rw [if_neg (nI_ge (by omega) (by omega)), h.arr, some_bind', h.heap (by omega), some_bind', gI_ob (h.ha (by omega : i < 8)).2.1 rfl, some_bind', bnd_eq, bnd_eq, nI_add, nI_1, ih (i + 1) _ (by omega) (by omega), smF_cons _ (by omega : i < 8)]
      congr 2
      omega
theorem ctotal_ok {w : MW} {hs : Nat → List Nat} {fg : Nat → Int32} (h : CS w hs fg) {fu : Nat} (hfu : 100 ≤ fu) : f_X7_total fu w 1 = some (nI (smF (fun i => (hs i).length) 0 8)) := by
  rw [f_X7_total, bnd_eq, bnd_eq, show (0 : Int32) = nI 0 from rfl, ctotal_loop h fu fu 0 0 (by omega) (by omega), Nat.zero_add]
/-- PUT, of the sets -/
def aPut (hs : Nat → List Nat) (fg : Nat → Int32) (v x : Int32) : Int32 × (Nat → List Nat) × (Nat → Int32) :=
  if ¬ (0 ≤ v ∧ v < 8 ∧ 0 ≤ x ∧ x ≤ 9999) then (-1, hs, fg)
  else if ¬ plc (hs v.toNatClampNeg) x = -1 then (-2, hs, fg)
  else if 60 ≤ (hs v.toNatClampNeg).length ∨ 240 ≤ smF (fun i => (hs i).length) 0 8 then (-4, hs, fg)
  else (nI (bel (hs v.toNatClampNeg) x), va_up hs v.toNatClampNeg (insAt (hs v.toNatClampNeg) (bel (hs v.toNatClampNeg) x) [2 * x.toNatClampNeg]), va_up fg v.toNatClampNeg (-1))
theorem out_not {v : Int32} {P : Prop} (h : v < 0 ∨ 8 ≤ v) : ¬ (0 ≤ v ∧ v < 8 ∧ P) := fun q => h.elim (fun h => absurd q.1 (Int32.not_le.mpr h)) (fun h => absurd q.2.1 (Int32.not_lt.mpr h))
theorem key_not {x : Int32} (h : x < 0 ∨ 9999 < x) : ¬ (0 ≤ x ∧ x ≤ 9999) := fun q => h.elim (fun h => absurd q.1 (Int32.not_le.mpr h)) (fun h => absurd q.2 (Int32.not_le.mpr h))
theorem in_set {i : Nat} (hi : i < 8) : (0 : Int32) ≤ nI i ∧ nI i < 8 := ⟨nI_pos' (by omega), nI_lt (b := 8) hi (by omega)⟩
theorem in_key {k : Nat} (hk : k < 10000) : (0 : Int32) ≤ nI k ∧ nI k ≤ 9999 := ⟨nI_pos' (by omega), nI_le (b := 9999) (by omega) (by omega)⟩
theorem cput_ok {w : MW} {hs : Nat → List Nat} {fg : Nat → Int32} (h : CS w hs fg) (O : AOK hs) {fu : Nat} (hfu : 100 ≤ fu) (v x : Int32) : ∃ w', f_X7_putKey fu w 1 v x = some ((aPut hs fg v x).1, w') ∧ CS w' (aPut hs fg v x).2.1 (aPut hs fg v x).2.2 ∧ Chg [13, 14, 15, 16, 17, 18, 19, 20, 21, 22, 23, 24, 25, 26, 27, 28] w w' := by
  rw [f_X7_putKey, h.cl]
  rcases set_cases v with ⟨i, hi, rfl⟩ | hv
  · rw [heapAt_in h hi, some_bind']
    dsimp only
    rcases key_cases x with ⟨k, hk, rfl⟩ | hx
    · have S := O.1 i hi
      have H := h.ha hi
      have ei : (nI i).toNatClampNeg = i := nI_clamp (by omega)
      have ek : (nI k).toNatClampNeg = k := nI_clamp (by omega)
      unfold aPut
      rw [ei, ek, if_neg (not_not_intro ⟨(in_set hi).1, (in_set hi).2, (in_key hk).1, (in_key hk).2⟩), isKey_in hk, if_neg (show ¬ (1 : Int32) = 0 by decide), H.cl, rankOf_ok H S hfu, some_bind']
      by_cases hp : plc (hs i) (nI k) = -1
      · rw [if_pos hp, if_neg (not_not_intro hp), gI_ob H.2.1 rfl, some_bind']
        have hl := S.len
        by_cases h60 : 60 ≤ (hs i).length
        · rw [if_pos (show (60 : Int32) ≤ nI (hs i).length from nI_le (a := 60) h60 (by omega)), if_pos (Or.inl h60)]
          exact ⟨w, rfl, h, Chg.rf _ _⟩
        · rw [if_neg (show ¬ (60 : Int32) ≤ nI (hs i).length from nI_ge (b := 60) (by omega) (by omega)), h.cl, ctotal_ok h hfu, some_bind']
          have ht := O.2
          by_cases h240 : 240 ≤ smF (fun i => (hs i).length) 0 8
          · rw [if_neg (show ¬ nI (smF (fun i => (hs i).length) 0 8) < (240 : Int32) from nI_nlt (b := 240) h240 (by omega)), if_pos (Or.inr h240)]
            exact ⟨w, rfl, h, Chg.rf _ _⟩
          · rw [if_pos (show nI (smF (fun i => (hs i).length) 0 8) < (240 : Int32) from nI_lt (b := 240) (by omega) (by omega)), if_neg (by omega), H.cl]
            obtain ⟨w', g1, g2, g3⟩ := insert_ok H S hfu (by omega) hk
            rw [g1, some_bind']
            refine ⟨w', rfl, h.put hi g2 g3, g3.mono ?_⟩
            intro q hq
            simp only [List.mem_cons, List.not_mem_nil, or_false] at hq ⊢
            omega
      · rw [if_neg hp, if_pos hp]
        exact ⟨w, rfl, h, Chg.rf _ _⟩
    · rw [isKey_out hx, if_pos rfl]
      have e1 : aPut hs fg (nI i) x = (-1, hs, fg) := by
        unfold aPut
        rw [if_pos (fun q => key_not hx q.2.2)]
      rw [e1]
      exact ⟨w, rfl, h, Chg.rf _ _⟩
  · rw [heapAt_out hv, some_bind']
    have e1 : aPut hs fg v x = (-1, hs, fg) := by
      unfold aPut
      rw [if_pos (out_not hv)]
    rw [e1]
    exact ⟨w, rfl, h, Chg.rf _ _⟩
end
section
theorem SOK.tail {e : Nat} {L : List Nat} (S : SOK (e :: L)) : SOK L := ⟨(List.pairwise_cons.mp S.1).2, fun x hx => S.2.1 x (List.mem_cons_of_mem _ hx), by have := S.2.2; simp at this; omega⟩
theorem nth_0 (e : Nat) (L : List Nat) : nth (e :: L) 0 = e := rfl
theorem nth_s (e : Nat) (L : List Nat) (j : Nat) : nth (e :: L) (j + 1) = nth L j := by simp [nth]
theorem bel_cons (e : Nat) (L : List Nat) (a : Int32) : bel (e :: L) a = if nI (e / 2) < a then bel L a + 1 else 0 := by
  unfold bel
  rw [List.takeWhile_cons]
  by_cases h : nI (e / 2) < a
  · rw [if_pos (decide_eq_true h), if_pos h, List.length_cons]
  · rw [if_neg (by simp [h]), if_neg h]; rfl
theorem nab_cons (e : Nat) (L : List Nat) (a : Int32) : nab (e :: L) a = if nI (e / 2) ≤ a then nab L a + 1 else 0 := by
  unfold nab
  rw [List.takeWhile_cons]
  by_cases h : nI (e / 2) ≤ a
  · rw [if_pos (decide_eq_true h), if_pos h, List.length_cons]
  · rw [if_neg (by simp [h]), if_neg h]; rfl
/-- which are below a number, and which not above it -/
theorem bel_iff (a : Int32) : ∀ (L : List Nat), SOK L → ∀ j, j < L.length → (j < bel L a ↔ nI (nth L j / 2) < a)
  | [], _, j, hj => absurd hj (by simp)
  | e :: L, S, j, hj => by
    have he := S.2.1 e List.mem_cons_self
    rw [bel_cons]
    by_cases h : nI (e / 2) < a
    · rw [if_pos h]
      cases j with
      | zero => rw [nth_0]; exact ⟨fun _ => h, fun _ => by omega⟩
      | succ j =>
        rw [nth_s, ← bel_iff a L S.tail j (by simp at hj; omega)]
        omega
    · rw [if_neg h]
      refine ⟨fun q => by omega, fun q => absurd (Int32.lt_of_le_of_lt ?_ q) h⟩
      have hn := S.lt hj
      cases j with
      | zero => rw [nth_0]; exact Int32.le_refl _
      | succ j =>
        have h1 := S.inc (i := 0) (j := j + 1) (by omega) hj
        rw [nth_0] at h1
        exact nI_le (by omega) (by omega)
theorem nab_iff (a : Int32) : ∀ (L : List Nat), SOK L → ∀ j, j < L.length → (j < nab L a ↔ nI (nth L j / 2) ≤ a)
  | [], _, j, hj => absurd hj (by simp)
  | e :: L, S, j, hj => by
    have he := S.2.1 e List.mem_cons_self
    rw [nab_cons]
    by_cases h : nI (e / 2) ≤ a
    · rw [if_pos h]
      cases j with
      | zero => rw [nth_0]; exact ⟨fun _ => h, fun _ => by omega⟩
      | succ j =>
        rw [nth_s, ← nab_iff a L S.tail j (by simp at hj; omega)]
        omega
    · rw [if_neg h]
      refine ⟨fun q => by omega, fun q => absurd (Int32.le_trans ?_ q) h⟩
      have hn := S.lt hj
      cases j with
      | zero => rw [nth_0]; exact Int32.le_refl _
      | succ j =>
        have h1 := S.inc (i := 0) (j := j + 1) (by omega) hj
        rw [nth_0] at h1
        exact nI_le (by omega) (by omega)
/-- counted, or by the two places -/
theorem cnt_hmb (a b : Int32) : ∀ (L : List Nat), SOK L → cnt L a b = hmb L a b
  | [], _ => by simp [cnt, hmb, nab, bel]
  | e :: L, S => by
    have ih := cnt_hmb a b L S.tail
    rw [cnt_cons, ih]
    unfold hmb
    rw [bel_cons, nab_cons]
    by_cases h1 : nI (e / 2) < a
    · rw [if_pos h1, if_neg (fun q => absurd q.1 (Int32.not_le.mpr h1))]
      by_cases h2 : nI (e / 2) ≤ b
      · rw [if_pos h2]; omega
      · rw [if_neg h2]
        have h3 : nab L b = 0 := by
          cases L with
          | nil => rfl
          | cons e2 L2 =>
            rw [nab_cons, if_neg]
            intro q
            have h4 := S.inc (i := 0) (j := 1) (by omega) (by simp)
            rw [nth_0, nth_s, nth_0] at h4
            have h5 := S.tail.2.1 e2 List.mem_cons_self
            exact h2 (Int32.le_trans (nI_le (by omega) (by omega)) q)
        rw [h3]; omega
    · have h0 : bel L a = 0 := by
        cases L with
        | nil => rfl
        | cons e2 L2 =>
          rw [bel_cons, if_neg]
          intro q
          have h4 := S.inc (i := 0) (j := 1) (by omega) (by simp)
          rw [nth_0, nth_s, nth_0] at h4
          have h5 := S.tail.2.1 e2 List.mem_cons_self
          exact h1 (Int32.lt_of_le_of_lt (nI_le (by omega) (by omega)) q)
      rw [if_neg h1, h0]
      by_cases h2 : nI (e / 2) ≤ b
      · rw [if_pos ⟨Int32.not_lt.mp h1, h2⟩, if_pos h2]; omega
      · rw [if_neg (fun q => h2 q.2), if_neg h2]
        have h3 : nab L b = 0 := by
          cases L with
          | nil => rfl
          | cons e2 L2 =>
            rw [nab_cons, if_neg]
            intro q
            have h4 := S.inc (i := 0) (j := 1) (by omega) (by simp)
            rw [nth_0, nth_s, nth_0] at h4
            have h5 := S.tail.2.1 e2 List.mem_cons_self
            exact h2 (Int32.le_trans (nI_le (by omega) (by omega)) q)
        rw [h3]
theorem nth_dt {L : List Nat} {r n q : Nat} (hq : q < n) : nth ((L.drop r).take n) q = nth L (r + q) := by
  unfold nth
  rw [List.getD_eq_getElem?_getD, List.getD_eq_getElem?_getD, List.getElem?_take_of_lt hq, List.getElem?_drop]
theorem dt_len {L : List Nat} {r n : Nat} (h : r + n ≤ L.length) : ((L.drop r).take n).length = n := by
  simp; omega
theorem give_ok {w : MW} {h e h2 e2 : Nat} {L M : List Nat} {fg fg2 : Int32} (H : HA w h e L fg) (H2 : HA w h2 e2 M fg2) (S : SOK L) (S2 : SOK M) (d1 : h ≠ h2) (d2 : h ≠ e2) (d3 : e ≠ h2) (d4 : e ≠ e2) {fu : Nat} (hfu : 100 ≤ fu) {r n : Nat} (hn : 1 ≤ n) (hr : r + n ≤ L.length) (hm : M.length + n ≤ 60) : ∃ w', f_X0_giveStretch fu w h (nI r) (nI n) h2 = some w' ∧ HA w' h e (L.take r ++ L.drop (r + n)) (-1) ∧ HA w' h2 e2 (insAt M (bel M (nI (nth L r / 2))) ((L.drop r).take n)) (-1) ∧ Chg [h, e, h2, e2] w w' := by
  have hl := S.len
  have hnr := S.lt (show r < L.length by omega)
  have hb := bel_le M (nI (nth L r / 2))
  obtain ⟨w1, ys, g1, g2, g3, g4, g5, g6⟩ := openGap_ok H2 hb (n := n) hm
  have H1 : HA w1 h e L fg := H.chg g6 (by simp; omega) (by simp; omega)
  obtain ⟨hne, k1, xs, k2, k3⟩ := id H1
  have hcp : cpI w1 .int e (nI r) e2 (nI (bel M (nI (nth L r / 2)))) (nI n) = some (w1.set e2 (.inl (.int, 60, .inl (va_cpy xs ys r (bel M (nI (nth L r / 2))) n)))) := cpI_ar k2 g3 (by omega) (by omega) (by omega) (by omega)
  have c2 : Chg [e2] w1 (w1.set e2 (.inl (.int, 60, .inl (va_cpy xs ys r (bel M (nI (nth L r / 2))) n)))) := Chg.st _ _ (by simp)
  have H3 := H1.chg c2 (by simp; omega) (by simp; omega)
  obtain ⟨w3, q1, q2, q3⟩ := closeGap_ok H3 hl hr
  obtain ⟨hne0, k10, xs0, k20, k30⟩ := id H
  refine ⟨w3, ?_, q2, ⟨H2.1, ?_, va_cpy xs ys r (bel M (nI (nth L r / 2))) n, ?_, ?_⟩, ?_⟩
  · rw [f_X0_giveStretch, if_neg (nI_pos (by omega)), if_neg (show ¬ nI n < (1 : Int32) from nI_nlt (b := 1) hn (by omega)), gI_ob k10 rfl, some_bind', nI_sub (by omega), if_pos (nI_le (by omega) (by omega)), gR_ob k10 rfl, some_bind', aI_ar k20 (by omega) (by omega), some_bind', k30 r (by omega), nI_half (by omega), H2.cl, below_ok H2 S2 hfu, some_bind', bnd_eq, H2.cl, g1, some_bind', if_neg (show ¬ (1 : Int32) = 0 by decide), gR_ob k1 rfl, some_bind', gR_ob g2 rfl, some_bind', hcp, some_bind', H3.cl, q1, some_bind']
  · refine q3.at (by simp; omega) ?_
    rw [get_set_ne (Ne.symm H2.1), g2, insAt_len hb, dt_len hr]
  · exact q3.at (by simp; omega) (get_set_eq g3)
  · intro j hj
    rw [insAt_len hb, dt_len hr] at hj
    rw [nth_insAt hb, dt_len hr]
    unfold va_cpy
    by_cases c1 : j < bel M (nI (nth L r / 2))
    · rw [if_neg (by omega), if_pos c1, g4 j c1]
    · rw [if_neg c1]
      by_cases c3 : j < bel M (nI (nth L r / 2)) + n
      · rw [if_pos ⟨by omega, c3⟩, if_pos c3, nth_dt (by omega), k3 _ (by omega)]
      · rw [if_neg (by omega), if_neg c3]
        have := g5 (j - n) (by omega) (by omega)
        rw [show j - n + n = j by omega] at this
        exact this
  · exact ((g6.mono (by simp)).tr (c2.mono (by simp))).tr (q3.mono (by simp))
end
section
abbrev hpl : List Nat := [13, 14, 15, 16, 17, 18, 19, 20, 21, 22, 23, 24, 25, 26, 27, 28]
/-- sets, fingers -/
abbrev AS : Type := (Nat → List Nat) × (Nat → Int32)
theorem hpl_in {i : Nat} (hi : i < 8) : ∀ k ∈ [13 + 2 * i, 14 + 2 * i], k ∈ hpl := by
  intro q hq
  simp only [List.mem_cons, List.not_mem_nil, or_false] at hq ⊢
  omega
theorem hpl_in2 {i j : Nat} (hi : i < 8) (hj : j < 8) : ∀ k ∈ [13 + 2 * i, 14 + 2 * i, 13 + 2 * j, 14 + 2 * j], k ∈ hpl := by
  intro q hq
  simp only [List.mem_cons, List.not_mem_nil, or_false] at hq ⊢
  omega
theorem CS.put2 {w w' : MW} {hs : Nat → List Nat} {fg : Nat → Int32} (h : CS w hs fg) {i j : Nat} (hi : i < 8) (hj : j < 8) (hij : i ≠ j) {L M : List Nat} {f g : Int32} (H : HA w' (13 + 2 * i) (14 + 2 * i) L f) (H2 : HA w' (13 + 2 * j) (14 + 2 * j) M g) (C : Chg [13 + 2 * i, 14 + 2 * i, 13 + 2 * j, 14 + 2 * j] w w') : CS w' (va_up (va_up hs i L) j M) (va_up (va_up fg i f) j g) := by
  obtain ⟨⟨a, b, c, h1⟩, ⟨p, h2, h3⟩, h4⟩ := h
  refine ⟨⟨a, b, c, C.at (by simp; omega) h1⟩, ⟨p, C.at (by simp; omega) h2, h3⟩, fun k hk => ?_⟩
  by_cases e1 : k = j
  · subst e1
    simp only [va_up, if_true]
    exact H2
  · by_cases e2 : k = i
    · subst e2
      simp only [va_up, if_neg e1, if_true]
      exact H
    · simp only [va_up, if_neg e1, if_neg e2]
      exact (h4 k hk).chg C (by simp; omega) (by simp; omega)
def cutOut (L : List Nat) (r n : Nat) : List Nat := L.take r ++ L.drop (r + n)
/-- a stretch goes over -/
def giveA (s : AS) (i j r n : Nat) : AS := (va_up (va_up s.1 i (cutOut (s.1 i) r n)) j (insAt (s.1 j) (bel (s.1 j) (nI (nth (s.1 i) r / 2))) (((s.1 i).drop r).take n)), va_up (va_up s.2 i (-1)) j (-1))
theorem cgive {w : MW} {s : AS} (h : CS w s.1 s.2) (O : AOK s.1) {fu : Nat} (hfu : 100 ≤ fu) {i j r n : Nat} (hi : i < 8) (hj : j < 8) (hij : i ≠ j) (hn : 1 ≤ n) (hr : r + n ≤ (s.1 i).length) (hm : (s.1 j).length + n ≤ 60) : ∃ w', f_X0_giveStretch fu w (13 + 2 * i) (nI r) (nI n) (13 + 2 * j) = some w' ∧ CS w' (giveA s i j r n).1 (giveA s i j r n).2 ∧ Chg hpl w w' := by
  obtain ⟨w', g1, g2, g3, g4⟩ := give_ok (h.ha hi) (h.ha hj) (O.1 i hi) (O.1 j hj) (by omega) (by omega) (by omega) (by omega) hfu hn hr hm
  exact ⟨w', g1, h.put2 hi hj hij g2 g3 g4, g4.mono (hpl_in2 hi hj)⟩
/-- DROP, CUT, JOIN, MOVE of the sets -/
def xDrop (s : AS) (i k : Nat) : Int32 × AS := if plc (s.1 i) (nI k) = -1 then (-2, s) else (nI ((s.1 i).length - 1), (va_up s.1 i (cutOut (s.1 i) (bel (s.1 i) (nI k)) 1), va_up s.2 i (-1)))
def xCut (s : AS) (i k j : Nat) : Int32 × AS := if (s.1 i).length - nab (s.1 i) (nI k) = 0 then (-2, s) else if 0 < (s.1 j).length then (-3, s) else (nI ((s.1 i).length - nab (s.1 i) (nI k)), giveA s i j (nab (s.1 i) (nI k)) ((s.1 i).length - nab (s.1 i) (nI k)))
/-- why a JOIN is refused: 0 if it isn't -/
def wJoin (s : AS) (t o : Nat) : Int32 := if (s.1 o).length = 0 then -2 else if 0 < (s.1 t).length ∧ nth (s.1 o) 0 / 2 ≤ nth (s.1 t) ((s.1 t).length - 1) / 2 then -3 else if 60 < (s.1 t).length + (s.1 o).length then -4 else 0
def xJoin (s : AS) (t o : Nat) : Int32 × AS := if wJoin s t o = 0 then (nI ((s.1 t).length + (s.1 o).length), giveA s o t 0 (s.1 o).length) else (wJoin s t o, s)
def xMove (s : AS) (i a b j : Nat) : Int32 × AS :=
  if hmb (s.1 i) (nI a) (nI b) = 0 then (-2, s)
  else if 0 < hmb (s.1 j) (nI (nth (s.1 i) (bel (s.1 i) (nI a)) / 2)) (nI (nth (s.1 i) (bel (s.1 i) (nI a) + hmb (s.1 i) (nI a) (nI b) - 1) / 2)) then (-3, s)
  else if 60 < (s.1 j).length + hmb (s.1 i) (nI a) (nI b) then (-4, s)
  else (nI (hmb (s.1 i) (nI a) (nI b)), giveA s i j (bel (s.1 i) (nI a)) (hmb (s.1 i) (nI a) (nI b)))
theorem plc_ne {L : List Nat} {x : Int32} (h : ¬ plc L x = -1) : bel L x < L.length ∧ plc L x = nI (bel L x) := by
  unfold plc at h ⊢
  by_cases c : bel L x < L.length ∧ nI (nth L (bel L x) / 2) = x
  · rw [if_pos c]; exact ⟨c.1, rfl⟩
  · rw [if_neg c] at h; exact absurd rfl h
theorem cdrop_ok {w : MW} {s : AS} (h : CS w s.1 s.2) (O : AOK s.1) {fu : Nat} (hfu : 100 ≤ fu) {i k : Nat} (hi : i < 8) (hk : k < 10000) : ∃ w', f_X7_dropKey fu w 1 (nI i) (nI k) = some ((xDrop s i k).1, w') ∧ CS w' (xDrop s i k).2.1 (xDrop s i k).2.2 ∧ Chg hpl w w' := by
  have S := O.1 i hi
  have H := h.ha hi
  have hl := S.len
  rw [f_X7_dropKey, h.cl, heapAt_in h hi, some_bind']
  dsimp only
  rw [isKey_in hk, if_neg (show ¬ (1 : Int32) = 0 by decide), H.cl, rankOf_ok H S hfu, some_bind', bnd_eq]
  unfold xDrop
  by_cases hp : plc (s.1 i) (nI k) = -1
  · rw [if_pos hp, if_pos hp]
    exact ⟨w, rfl, h, Chg.rf _ _⟩
  · obtain ⟨hb, hpe⟩ := plc_ne hp
    obtain ⟨w', g1, g2, g3⟩ := closeGap_ok H hl (r := bel (s.1 i) (nI k)) (n := 1) (by omega)
    rw [if_neg hp, if_neg hp, hpe, H.cl, show (1 : Int32) = nI 1 from rfl, g1, some_bind', gI_ob g2.2.1 rfl, some_bind']
    have e1 : ((s.1 i).take (bel (s.1 i) (nI k)) ++ (s.1 i).drop (bel (s.1 i) (nI k) + 1)).length = (s.1 i).length - 1 := by simp; omega
    rw [e1]
    exact ⟨w', rfl, h.put hi g2 g3, g3.mono (hpl_in hi)⟩
theorem nI_eq0 {n : Nat} (h : n < 2 ^ 31) : nI n = 0 ↔ n = 0 := nI_eq (b := 0) h (by omega)
theorem nI_le0 {n : Nat} (h : n < 2 ^ 31) : nI n ≤ 0 ↔ n = 0 := by
  rw [show (0 : Int32) = nI 0 from rfl, nI_leI h (by omega)]; omega
theorem set_ne {i j : Nat} (hi : i < 8) (hj : j < 8) (hij : i ≠ j) : ¬ nI i = nI j := fun q => hij ((nI_eq (by omega) (by omega)).mp q)
theorem ccut_ok {w : MW} {s : AS} (h : CS w s.1 s.2) (O : AOK s.1) {fu : Nat} (hfu : 100 ≤ fu) {i j k : Nat} (hi : i < 8) (hj : j < 8) (hij : i ≠ j) (hk : k < 10000) : ∃ w', f_X7_cutAbove fu w 1 (nI i) (nI k) (nI j) = some ((xCut s i k j).1, w') ∧ CS w' (xCut s i k j).2.1 (xCut s i k j).2.2 ∧ Chg hpl w w' := by
  have S := O.1 i hi
  have H := h.ha hi
  have H2 := h.ha hj
  have hl := S.len
  have hl2 := (O.1 j hj).len
  have hn := nab_le (s.1 i) (nI k)
  rw [f_X7_cutAbove, h.cl, heapAt_in h hi, some_bind']
  dsimp only
  rw [h.cl, heapAt_in h hj, some_bind']
  dsimp only
  rw [if_neg (set_ne hi hj hij), isKey_in hk, if_neg (show ¬ (1 : Int32) = 0 by decide), H.cl, notAbove_ok H S hfu, some_bind', bnd_eq, gI_ob H.2.1 rfl, some_bind', nI_sub hn, bnd_eq]
  unfold xCut
  by_cases c1 : (s.1 i).length - nab (s.1 i) (nI k) = 0
  · rw [if_pos ((nI_eq0 (by omega)).mpr c1), if_pos c1]
    exact ⟨w, rfl, h, Chg.rf _ _⟩
  · rw [if_neg (fun q => c1 ((nI_eq0 (by omega)).mp q)), if_neg c1, gI_ob H2.2.1 rfl, some_bind']
    by_cases c2 : 0 < (s.1 j).length
    · rw [if_neg (fun q => by have := (nI_le0 (by omega)).mp q; omega), if_pos c2]
      exact ⟨w, rfl, h, Chg.rf _ _⟩
    · obtain ⟨w', g1, g2, g3⟩ := cgive h O hfu hi hj hij (r := nab (s.1 i) (nI k)) (n := (s.1 i).length - nab (s.1 i) (nI k)) (by omega) (by omega) (by omega)
      rw [if_pos ((nI_le0 (by omega)).mpr (by omega)), if_neg c2, H.cl, g1, some_bind']
      exact ⟨w', rfl, g2, g3⟩
theorem cwhy_ok {w : MW} {s : AS} (h : CS w s.1 s.2) (O : AOK s.1) {t o : Nat} (ht : t < 8) (ho : o < 8) : f_X7_whyNotJoin w 1 (13 + 2 * t) (13 + 2 * o) = some (wJoin s t o) := by
  have S1 := O.1 t ht
  have S2 := O.1 o ho
  have H1 := h.ha ht
  have H2 := h.ha ho
  have l1 := S1.len
  have l2 := S2.len
  have fin : f_X7_whyNotJoin_38 w (13 + 2 * t) (13 + 2 * o) = some (if 60 < (s.1 t).length + (s.1 o).length then -4 else 0) := by
    rw [f_X7_whyNotJoin_38, gI_ob H1.2.1 rfl, some_bind', gI_ob H2.2.1 rfl, some_bind', nI_add, show (60 : Int32) = nI 60 from rfl]
    by_cases c : 60 < (s.1 t).length + (s.1 o).length
    · rw [if_pos c, if_neg (nI_ge c (by omega))]
    · rw [if_neg c, if_pos (nI_le (by omega) (by omega))]
  rw [f_X7_whyNotJoin, gI_ob H2.2.1 rfl, some_bind']
  unfold wJoin
  by_cases c1 : (s.1 o).length = 0
  · rw [if_pos ((nI_eq0 (by omega)).mpr c1), if_pos c1]
  · rw [if_neg (fun q => c1 ((nI_eq0 (by omega)).mp q)), if_neg c1, gI_ob H1.2.1 rfl, some_bind']
    by_cases c2 : (s.1 t).length = 0
    · rw [if_pos ((nI_le0 (by omega)).mpr c2), if_neg (show ¬ (0 < (s.1 t).length ∧ nth (s.1 o) 0 / 2 ≤ nth (s.1 t) ((s.1 t).length - 1) / 2) from fun q => by omega), fin]
    · rw [if_neg (fun q => c2 ((nI_le0 (by omega)).mp q)), some_bind', show (1 : Int32) = nI 1 from rfl, nI_sub (by omega), H1.cl, keyAt_in H1 S1 (by omega), some_bind', show (0 : Int32) = nI 0 from rfl, H2.cl, keyAt_in H2 S2 (by omega), some_bind']
      have b1 := S1.lt (show (s.1 t).length - 1 < (s.1 t).length by omega)
      have b2 := S2.lt (show 0 < (s.1 o).length by omega)
      by_cases c3 : nth (s.1 o) 0 / 2 ≤ nth (s.1 t) ((s.1 t).length - 1) / 2
      · rw [if_neg (nI_nlt c3 (by omega)), if_pos ⟨by omega, c3⟩]
      · rw [if_pos (nI_lt (by omega) (by omega)), if_neg (show ¬ (0 < (s.1 t).length ∧ nth (s.1 o) 0 / 2 ≤ nth (s.1 t) ((s.1 t).length - 1) / 2) from fun q => c3 q.2), fin]
        rfl
theorem cjoin_ok {w : MW} {s : AS} (h : CS w s.1 s.2) (O : AOK s.1) {fu : Nat} (hfu : 100 ≤ fu) {t o : Nat} (ht : t < 8) (ho : o < 8) (hto : t ≠ o) : ∃ w', f_X7_joinTo fu w 1 (nI t) (nI o) = some ((xJoin s t o).1, w') ∧ CS w' (xJoin s t o).2.1 (xJoin s t o).2.2 ∧ Chg hpl w w' := by
  have l1 := (O.1 t ht).len
  have l2 := (O.1 o ho).len
  have H2 := h.ha ho
  rw [f_X7_joinTo, h.cl, heapAt_in h ht, some_bind']
  dsimp only
  rw [h.cl, heapAt_in h ho, some_bind']
  dsimp only
  rw [if_neg (set_ne ht ho hto), h.cl, cwhy_ok h O ht ho, some_bind', bnd_eq]
  unfold xJoin
  by_cases c : wJoin s t o = 0
  · have hc := c
    unfold wJoin at hc
    have c1 : ¬ (s.1 o).length = 0 := fun q => by rw [if_pos q] at hc; exact absurd hc (by decide)
    rw [if_neg c1] at hc
    have c2 : ¬ (0 < (s.1 t).length ∧ nth (s.1 o) 0 / 2 ≤ nth (s.1 t) ((s.1 t).length - 1) / 2) := fun q => by rw [if_pos q] at hc; exact absurd hc (by decide)
    rw [if_neg c2] at hc
    have c3 : ¬ 60 < (s.1 t).length + (s.1 o).length := fun q => by rw [if_pos q] at hc; exact absurd hc (by decide)
    obtain ⟨w', g1, g2, g3⟩ := cgive h O hfu ho ht (Ne.symm hto) (r := 0) (n := (s.1 o).length) (by omega) (by omega) (by omega)
    have e0 := gI_ob (g2.ha ht).2.1 (k := 1) (x := nI ((giveA s o t 0 (s.1 o).length).1 t).length) rfl
    have e1 : ((giveA s o t 0 (s.1 o).length).1 t).length = (s.1 t).length + (s.1 o).length := by
      unfold giveA
      simp only [va_up, if_true]
      rw [insAt_len (bel_le _ _), dt_len (by omega)]
    rw [if_pos c, if_pos c, gI_ob H2.2.1 rfl, some_bind', H2.cl, show (0 : Int32) = nI 0 from rfl, g1, some_bind', e0, some_bind', e1]
    exact ⟨w', rfl, g2, g3⟩
  · rw [if_neg c, if_neg c]
    exact ⟨w, rfl, h, Chg.rf _ _⟩
theorem cmove_ok {w : MW} {s : AS} (h : CS w s.1 s.2) (O : AOK s.1) {fu : Nat} (hfu : 100 ≤ fu) {i j a b : Nat} (hi : i < 8) (hj : j < 8) (hij : i ≠ j) (ha : a < 10000) (hb : b < 10000) : ∃ w', f_X7_moveStretch fu w 1 (nI i) (nI a) (nI b) (nI j) = some ((xMove s i a b j).1, w') ∧ CS w' (xMove s i a b j).2.1 (xMove s i a b j).2.2 ∧ Chg hpl w w' := by
  have S := O.1 i hi
  have S2 := O.1 j hj
  have H := h.ha hi
  have H2 := h.ha hj
  have hl := S.len
  have hl2 := S2.len
  have n1 := bel_le (s.1 i) (nI a)
  have n2 := nab_le (s.1 i) (nI b)
  rw [f_X7_moveStretch, h.cl, heapAt_in h hi, some_bind']
  dsimp only
  rw [h.cl, heapAt_in h hj, some_bind']
  dsimp only
  rw [if_neg (set_ne hi hj hij), isKey_in ha, if_neg (show ¬ (1 : Int32) = 0 by decide), isKey_in hb, if_neg (show ¬ (1 : Int32) = 0 by decide), H.cl, howMany_ok H S hfu, some_bind', bnd_eq]
  unfold xMove
  have hg : hmb (s.1 i) (nI a) (nI b) ≤ 60 := by unfold hmb; omega
  by_cases c1 : hmb (s.1 i) (nI a) (nI b) = 0
  · rw [if_pos ((nI_eq0 (by omega)).mpr c1), if_pos c1]
    exact ⟨w, rfl, h, Chg.rf _ _⟩
  · have hr : bel (s.1 i) (nI a) + hmb (s.1 i) (nI a) (nI b) ≤ (s.1 i).length := by unfold hmb at c1 ⊢; omega
    have n3 := nab_le (s.1 j) (nI (nth (s.1 i) (bel (s.1 i) (nI a) + hmb (s.1 i) (nI a) (nI b) - 1) / 2))
    have hg2 : hmb (s.1 j) (nI (nth (s.1 i) (bel (s.1 i) (nI a)) / 2)) (nI (nth (s.1 i) (bel (s.1 i) (nI a) + hmb (s.1 i) (nI a) (nI b) - 1) / 2)) ≤ 60 := Nat.le_trans (Nat.sub_le _ _) (by omega)
    rw [if_neg (fun q => c1 ((nI_eq0 (by omega)).mp q)), if_neg c1, H.cl, below_ok H S hfu, some_bind', bnd_eq, H.cl, keyAt_in H S (by omega), some_bind', nI_add, show (1 : Int32) = nI 1 from rfl, nI_sub (by omega), H.cl, keyAt_in H S (by omega), some_bind', H2.cl, howMany_ok H2 S2 hfu, some_bind']
    by_cases c2 : 0 < hmb (s.1 j) (nI (nth (s.1 i) (bel (s.1 i) (nI a)) / 2)) (nI (nth (s.1 i) (bel (s.1 i) (nI a) + hmb (s.1 i) (nI a) (nI b) - 1) / 2))
    · rw [if_neg (fun q => by have := (nI_le0 (by omega)).mp q; omega), if_pos c2]
      exact ⟨w, rfl, h, Chg.rf _ _⟩
    · rw [if_pos ((nI_le0 (by omega)).mpr (by omega)), if_neg c2, gI_ob H2.2.1 rfl, some_bind', nI_add, show (60 : Int32) = nI 60 from rfl]
      by_cases c3 : 60 < (s.1 j).length + hmb (s.1 i) (nI a) (nI b)
      · rw [if_neg (nI_ge c3 (by omega)), if_pos c3]
        exact ⟨w, rfl, h, Chg.rf _ _⟩
      · obtain ⟨w', g1, g2, g3⟩ := cgive h O hfu hi hj hij (r := bel (s.1 i) (nI a)) (n := hmb (s.1 i) (nI a) (nI b)) (by omega) hr (by omega)
        rw [if_pos (nI_le (by omega) (by omega)), if_neg c3, H.cl, g1, some_bind']
        exact ⟨w', rfl, g2, g3⟩
end
section
theorem SOK_of {L : List Nat} (h1 : ∀ i j, i < j → j < L.length → nth L i / 2 < nth L j / 2) (h2 : ∀ j, j < L.length → nth L j < 20000) (h3 : L.length ≤ 60) : SOK L := by
  refine ⟨List.pairwise_iff_getElem.mpr fun i j hi hj hij => ?_, fun e he => ?_, h3⟩
  · have := h1 i j hij hj
    rw [nth_get hi, nth_get hj] at this
    exact this
  · obtain ⟨j, hj, rfl⟩ := List.mem_iff_getElem.mp he
    have := h2 j hj
    rw [nth_get hj] at this
    exact this
theorem mem_nth {L : List Nat} {e : Nat} (h : e ∈ L) : ∃ j, j < L.length ∧ nth L j = e := by
  obtain ⟨j, hj, rfl⟩ := List.mem_iff_getElem.mp h
  exact ⟨j, hj, nth_get hj⟩
/-- a key is not there -/
theorem plc_iff {L : List Nat} (S : SOK L) {k : Nat} (hk : k < 2 ^ 31) : plc L (nI k) = -1 ↔ ∀ e ∈ L, e / 2 ≠ k := by
  constructor
  · intro h e he hek
    obtain ⟨j, hj, rfl⟩ := mem_nth he
    have b1 := bel_iff (nI k) L S j hj
    have hb : bel L (nI k) = j := by
      rcases Nat.lt_trichotomy (bel L (nI k)) j with q | q | q
      · have h1 := S.inc q hj
        have h2 := (bel_iff (nI k) L S _ (by omega)).mpr (nI_lt (a := nth L (bel L (nI k)) / 2) (by omega) hk)
        omega
      · exact q
      · have h2 := b1.mp q
        rw [hek] at h2
        exact absurd h2 (Int32.not_lt.mpr (Int32.le_refl _))
    unfold plc at h
    rw [hb, if_pos ⟨hj, by rw [hek]⟩] at h
    exact absurd h (m1_ne j (by have := S.len; omega))
  · intro h
    unfold plc
    rw [if_neg]
    intro q
    have h1 := S.lt q.1
    exact h _ (nth_mem q.1) ((nI_eq (by omega) hk).mp q.2)
/-- a new key comes in order -/
theorem SOK_ins {M : List Nat} (S : SOK M) (hl : M.length < 60) {e : Nat} (he : e < 20000) (hn : ∀ x ∈ M, x / 2 ≠ e / 2) : SOK (insAt M (bel M (nI (e / 2))) [e]) := by
  have hb := bel_le M (nI (e / 2))
  have hlen : (insAt M (bel M (nI (e / 2))) [e]).length = M.length + 1 := insAt_len hb
  have h1 : ([e] : List Nat).length = 1 := rfl
  have lo : ∀ j, j < M.length → j < bel M (nI (e / 2)) → nth M j / 2 < e / 2 := fun j hj q => by
    have := (bel_iff (nI (e / 2)) M S j hj).mp q
    have := S.lt hj
    exact (nI_ltI (by omega) (by omega)).mp (by assumption)
  have up : ∀ j, j < M.length → bel M (nI (e / 2)) ≤ j → e / 2 < nth M j / 2 := fun j hj q => by
    have h2 := S.lt hj
    have h3 := hn _ (nth_mem hj)
    rcases Nat.lt_trichotomy (nth M j / 2) (e / 2) with z | z | z
    · have := (bel_iff (nI (e / 2)) M S j hj).mpr (nI_lt z (by omega))
      omega
    · exact absurd z h3
    · exact z
  have at_ : ∀ j, nth (insAt M (bel M (nI (e / 2))) [e]) j = if j < bel M (nI (e / 2)) then nth M j else if j = bel M (nI (e / 2)) then e else nth M (j - 1) := fun j => by
    rw [nth_insAt hb, h1]
    by_cases c1 : j < bel M (nI (e / 2))
    · rw [if_pos c1, if_pos c1]
    · rw [if_neg c1, if_neg c1]
      by_cases c2 : j = bel M (nI (e / 2))
      · rw [if_pos (by omega), if_pos c2, c2, Nat.sub_self]; rfl
      · rw [if_neg (by omega), if_neg c2]
  refine SOK_of (fun i j hij hj => ?_) (fun j hj => ?_) (by omega)
  · rw [hlen] at hj
    rw [at_ i, at_ j]
    by_cases c1 : i < bel M (nI (e / 2))
    · rw [if_pos c1]
      have := lo i (by omega) c1
      by_cases c2 : j < bel M (nI (e / 2))
      · rw [if_pos c2]; exact S.inc hij (by omega)
      · rw [if_neg c2]
        by_cases c3 : j = bel M (nI (e / 2))
        · rw [if_pos c3]; exact this
        · rw [if_neg c3]
          have := up (j - 1) (by omega) (by omega)
          omega
    · rw [if_neg c1, if_neg (show ¬ j < bel M (nI (e / 2)) by omega), if_neg (show ¬ j = bel M (nI (e / 2)) by omega)]
      by_cases c2 : i = bel M (nI (e / 2))
      · rw [if_pos c2]; exact up (j - 1) (by omega) (by omega)
      · rw [if_neg c2]; exact S.inc (by omega) (by omega)
  · rw [hlen] at hj
    rw [at_ j]
    by_cases c1 : j < bel M (nI (e / 2))
    · rw [if_pos c1]; exact S.lt (by omega)
    · rw [if_neg c1]
      by_cases c2 : j = bel M (nI (e / 2))
      · rw [if_pos c2]; exact he
      · rw [if_neg c2]; exact S.lt (by omega)
theorem SOK_sub {L M : List Nat} (S : SOK L) (h : M.Sublist L) : SOK M := ⟨S.1.sublist h, fun e he => S.2.1 e (h.subset he), Nat.le_trans h.length_le S.2.2⟩
theorem SOK_erase {L : List Nat} (S : SOK L) (r : Nat) : SOK (L.eraseIdx r) := SOK_sub S (List.eraseIdx_sublist L r)
theorem nth_set {L : List Nat} {r x j : Nat} (hr : r < L.length) : nth (L.set r x) j = if j = r then x else nth L j := by
  unfold nth
  rw [List.getD_eq_getElem?_getD, List.getElem?_set]
  by_cases h : j = r
  · subst h; simp [hr]
  · rw [if_neg (Ne.symm h), if_neg h, List.getD_eq_getElem?_getD]
theorem SOK_set {L : List Nat} (S : SOK L) {r x : Nat} (hr : r < L.length) (hx : x / 2 = nth L r / 2) : SOK (L.set r x) := by
  have hlen : (L.set r x).length = L.length := List.length_set
  have key : ∀ j, nth (L.set r x) j / 2 = nth L j / 2 := fun j => by
    rw [nth_set hr]
    by_cases h : j = r
    · rw [if_pos h, h, hx]
    · rw [if_neg h]
  refine SOK_of (fun i j hij hj => ?_) (fun j hj => ?_) (by rw [hlen]; exact S.len)
  · rw [key, key]
    exact S.inc hij (by omega)
  · have h1 := key j
    have h2 := S.lt (show j < L.length by omega)
    omega
theorem erase_cut {L : List Nat} {r : Nat} : L.eraseIdx r = cutOut L r 1 := List.eraseIdx_eq_take_drop_succ L r
theorem mem_ins {M : List Nat} {r e x : Nat} : x ∈ insAt M r [e] ↔ x = e ∨ x ∈ M := by
  unfold insAt
  constructor
  · intro h
    rcases List.mem_append.mp h with h | h
    · rcases List.mem_append.mp h with h | h
      · exact Or.inr (List.mem_of_mem_take h)
      · exact Or.inl (by simpa using h)
    · exact Or.inr (List.mem_of_mem_drop h)
  · intro h
    rcases h with rfl | h
    · simp
    · have : x ∈ M.take r ++ M.drop r := by rw [List.take_append_drop]; exact h
      rcases List.mem_append.mp this with h | h
      · simp [h]
      · simp [h]
/-- the model's eight rows hold the sets -/
def M8 (al : Nat → Int32) (b : Nat) (s : AS) : Prop := ∀ i, i < 8 → MA al (b + 122 * i) (s.1 i) (s.2 i)
theorem MA.same {al al' : Nat → Int32} {o : Nat} {L : List Nat} {f : Int32} (M : MA al o L f) (hl : L.length ≤ 60) (h : ∀ q, o ≤ q → q < o + 122 → al' q = al q) : MA al' o L f := by
  refine ⟨?_, ?_, fun j hj => ?_⟩
  · rw [h o (by omega) (by omega)]; exact M.1
  · rw [h (o + 1) (by omega) (by omega)]; exact M.2.1
  · rw [h (o + 2 + j) (by omega) (by omega), h (o + 62 + j) (by omega) (by omega)]; exact M.2.2 j hj
theorem M8.put {al al' : Nat → Int32} {b : Nat} {s : AS} (M : M8 al b s) (O : ∀ i, i < 8 → SOK (s.1 i)) {i : Nat} (hi : i < 8) {L : List Nat} {f : Int32} (H : MA al' (b + 122 * i) L f) (h : ∀ q, q < b + 122 * i ∨ b + 122 * i + 122 ≤ q → al' q = al q) : M8 al' b (va_up s.1 i L, va_up s.2 i f) := by
  intro j hj
  by_cases e : j = i
  · subst e
    simp only [va_up, if_true]
    exact H
  · simp only [va_up, if_neg e]
    exact (M j hj).same (O j hj).len (fun q h1 h2 => h q (by omega))
/-- one key goes over, by the model -/
def goStep (s : AS) (i j r : Nat) : AS :=
  if plc (s.1 j) (nI (nth (s.1 i) r / 2)) = -1 then (va_up (va_up s.1 i ((s.1 i).eraseIdx r)) j (insAt (s.1 j) (bel (s.1 j) (nI (nth (s.1 i) r / 2))) [nth (s.1 i) r]), va_up (va_up s.2 i (-1)) j (-1))
  else if nth (s.1 i) r % 2 = 1 then (va_up (va_up s.1 i ((s.1 i).eraseIdx r)) j ((s.1 j).set (bel (s.1 j) (nI (nth (s.1 i) r / 2))) (2 * (nth (s.1 i) r / 2) + 1)), va_up (va_up s.2 i (-1)) j (s.2 j))
  else (va_up (va_up s.1 i ((s.1 i).eraseIdx r)) j (s.1 j), va_up (va_up s.2 i (-1)) j (s.2 j))
def goI (i j r : Nat) : Nat → AS → AS
  | 0, s => s
  | n + 1, s => goI i j r n (goStep s i j r)
theorem MA_mark {al : Nat → Int32} {o p x : Nat} {L : List Nat} {f : Int32} (M : MA al o L f) (hl : L.length ≤ 60) (hp : p < L.length) (hx : x / 2 = nth L p / 2) : MA (upd al (o + 62 + p) (nI (x % 2))) o (L.set p x) f := by
  refine ⟨?_, ?_, fun j hj => ?_⟩
  · rw [upd_ne _ _ (by omega), List.length_set]; exact M.1
  · rw [upd_ne _ _ (by omega)]; exact M.2.1
  · rw [List.length_set] at hj
    rw [nth_set hp, upd_ne _ _ (by omega)]
    by_cases e : j = p
    · subst e
      rw [if_pos rfl, upd_eq, hx]
      exact ⟨(M.2.2 j hj).1, rfl⟩
    · rw [if_neg e, upd_ne _ _ (by omega)]
      exact M.2.2 j hj
end
section
/-- how many of a stretch aren't there yet -/
def cNew (M T : List Nat) : Nat := T.countP (fun e => decide (plc M (nI (e / 2)) = -1))
theorem vu_eq {α : Type} (f : Nat → α) (k : Nat) (x : α) : va_up f k x k = x := by simp [va_up]
theorem vu_ne {α : Type} (f : Nat → α) {k j : Nat} (x : α) (h : j ≠ k) : va_up f k x j = f j := by simp [va_up, h]
theorem key_eq {L : List Nat} (S : SOK L) {x : Int32} (h : ¬ plc L x = -1) : nI (nth L (bel L x) / 2) = x := by
  unfold plc at h
  by_cases c : bel L x < L.length ∧ nI (nth L (bel L x) / 2) = x
  · exact c.2
  · rw [if_neg c] at h; exact absurd rfl h
/-- what a step of goStep is -/
theorem goStep_i {s : AS} {i j r : Nat} (hij : i ≠ j) : (goStep s i j r).1 i = (s.1 i).eraseIdx r ∧ (goStep s i j r).2 i = -1 := by
  unfold goStep
  split
  · exact ⟨by simp only [vu_ne _ _ hij, vu_eq], by simp only [vu_ne _ _ hij, vu_eq]⟩
  · split
    · exact ⟨by simp only [vu_ne _ _ hij, vu_eq], by simp only [vu_ne _ _ hij, vu_eq]⟩
    · exact ⟨by simp only [vu_ne _ _ hij, vu_eq], by simp only [vu_ne _ _ hij, vu_eq]⟩
theorem goStep_o {s : AS} {i j r k : Nat} (h1 : k ≠ i) (h2 : k ≠ j) : (goStep s i j r).1 k = s.1 k ∧ (goStep s i j r).2 k = s.2 k := by
  unfold goStep
  split
  · exact ⟨by simp only [vu_ne _ _ h2, vu_ne _ _ h1], by simp only [vu_ne _ _ h2, vu_ne _ _ h1]⟩
  · split
    · exact ⟨by simp only [vu_ne _ _ h2, vu_ne _ _ h1], by simp only [vu_ne _ _ h2, vu_ne _ _ h1]⟩
    · exact ⟨by simp only [vu_ne _ _ h2, vu_ne _ _ h1], by simp only [vu_ne _ _ h2, vu_ne _ _ h1]⟩
theorem goStep_j {s : AS} {i j r : Nat} (O : ∀ i, i < 8 → SOK (s.1 i)) (hi : i < 8) (hj : j < 8) (hr : r < (s.1 i).length) (hl : plc (s.1 j) (nI (nth (s.1 i) r / 2)) = -1 → (s.1 j).length < 60) : SOK ((goStep s i j r).1 j) ∧ ((goStep s i j r).1 j).length = (s.1 j).length + (if plc (s.1 j) (nI (nth (s.1 i) r / 2)) = -1 then 1 else 0) ∧ ∀ x, x / 2 ≠ nth (s.1 i) r / 2 → x < 20000 → (plc ((goStep s i j r).1 j) (nI (x / 2)) = -1 ↔ plc (s.1 j) (nI (x / 2)) = -1) := by
  have Sj := O j hj
  have he := (O i hi).lt hr
  unfold goStep
  by_cases c : plc (s.1 j) (nI (nth (s.1 i) r / 2)) = -1
  · have S1 := SOK_ins Sj (hl c) he ((plc_iff Sj (by omega)).mp c)
    rw [if_pos c, if_pos c]
    simp only [vu_eq]
    refine ⟨S1, by rw [insAt_len (bel_le _ _)]; rfl, fun x hx hx2 => ?_⟩
    rw [plc_iff S1 (by omega), plc_iff Sj (by omega)]
    constructor
    · intro h y hy; exact h y (mem_ins.mpr (Or.inr hy))
    · intro h y hy
      rcases mem_ins.mp hy with rfl | hy
      · exact Ne.symm hx
      · exact h y hy
  · rw [if_neg c, if_neg c]
    obtain ⟨hb, hpe⟩ := plc_ne c
    have hk := key_eq Sj c
    have hlt := Sj.lt hb
    have hk2 : nth (s.1 j) (bel (s.1 j) (nI (nth (s.1 i) r / 2))) / 2 = nth (s.1 i) r / 2 := (nI_eq (by omega) (by omega)).mp hk
    by_cases c2 : nth (s.1 i) r % 2 = 1
    · rw [if_pos c2]
      simp only [vu_eq]
      have S1 := SOK_set Sj hb (x := 2 * (nth (s.1 i) r / 2) + 1) (by omega)
      refine ⟨S1, by rw [List.length_set]; rfl, fun x hx hx2 => ?_⟩
      rw [plc_iff S1 (by omega), plc_iff Sj (by omega)]
      constructor
      · intro h y hy
        obtain ⟨q, hq, rfl⟩ := mem_nth hy
        have h1 := h (nth ((s.1 j).set (bel (s.1 j) (nI (nth (s.1 i) r / 2))) (2 * (nth (s.1 i) r / 2) + 1)) q) (nth_mem (by rw [List.length_set]; exact hq))
        rw [nth_set hb] at h1
        by_cases e : q = bel (s.1 j) (nI (nth (s.1 i) r / 2))
        · rw [e, hk2]; exact Ne.symm hx
        · rw [if_neg e] at h1; exact h1
      · intro h y hy
        obtain ⟨q, hq, rfl⟩ := mem_nth hy
        rw [List.length_set] at hq
        rw [nth_set hb]
        by_cases e : q = bel (s.1 j) (nI (nth (s.1 i) r / 2))
        · rw [if_pos e]; omega
        · rw [if_neg e]; exact h _ (nth_mem hq)
    · rw [if_neg c2]
      simp only [vu_eq]
      exact ⟨Sj, rfl, fun _ _ _ => trivial⟩
theorem goStep_ok {s : AS} {i j r : Nat} (O : ∀ i, i < 8 → SOK (s.1 i)) (hi : i < 8) (hj : j < 8) (hij : i ≠ j) (hr : r < (s.1 i).length) (hl : plc (s.1 j) (nI (nth (s.1 i) r / 2)) = -1 → (s.1 j).length < 60) : ∀ k, k < 8 → SOK ((goStep s i j r).1 k) := by
  intro k hk
  by_cases e1 : k = i
  · subst e1; rw [(goStep_i hij).1]; exact SOK_erase (O k hk) r
  · by_cases e2 : k = j
    · subst e2; exact (goStep_j O hi hk hr hl).1
    · rw [(goStep_o e1 e2).1]; exact O k hk
theorem dt_cons {L : List Nat} {r m : Nat} (hm : 0 < m) (hr : r < L.length) : (L.drop r).take m = nth L r :: ((L.eraseIdx r).drop r).take (m - 1) := by
  have e1 : (L.eraseIdx r).drop r = L.drop (r + 1) := by
    rw [List.eraseIdx_eq_take_drop_succ, List.drop_append, List.drop_take, Nat.sub_self, List.take_zero, List.nil_append, List.length_take, show r - min r L.length = 0 by omega, List.drop_zero]
  rw [e1, drop_cons hr]
  obtain ⟨m', rfl⟩ : ∃ m', m = m' + 1 := ⟨m - 1, by omega⟩
  rw [List.take_succ_cons, Nat.add_sub_cancel]
theorem cNew_step {s : AS} {i j r m : Nat} (O : ∀ i, i < 8 → SOK (s.1 i)) (hi : i < 8) (hj : j < 8) (hij : i ≠ j) (hr : r < (s.1 i).length) (hm : 0 < m) (hl : plc (s.1 j) (nI (nth (s.1 i) r / 2)) = -1 → (s.1 j).length < 60) : cNew (s.1 j) (((s.1 i).drop r).take m) = cNew ((goStep s i j r).1 j) ((((goStep s i j r).1 i).drop r).take (m - 1)) + (if plc (s.1 j) (nI (nth (s.1 i) r / 2)) = -1 then 1 else 0) := by
  have hJ := (goStep_j O hi hj hr hl).2.2
  rw [(goStep_i hij).1, dt_cons hm hr]
  unfold cNew
  rw [List.countP_cons]
  congr 1
  · apply List.countP_congr
    intro x hx
    have Se := SOK_erase (O i hi) r
    have hx1 : x ∈ (s.1 i).eraseIdx r := List.mem_of_mem_drop (List.mem_of_mem_take hx)
    have hx2 := Se.2.1 x hx1
    have hx3 : x / 2 ≠ nth (s.1 i) r / 2 := by
      obtain ⟨q, hq, rfl⟩ := mem_nth hx1
      rw [List.length_eraseIdx_of_lt hr] at hq
      rw [nth_erase]
      by_cases c : q < r
      · rw [if_pos c]; have := (O i hi).inc c hr; omega
      · rw [if_neg c]; have := (O i hi).inc (i := r) (j := q + 1) (by omega) (by omega); omega
    simp only [decide_eq_true_eq]
    exact (hJ x hx3 hx2).symm
  · simp
theorem mgo_loop {C : MW} (hC : C.length = 123) {F : Nat → Int32} {v : Int64} {b : Nat} (hb : F 9 = nI b) (hb2 : b ≤ 976) {i j : Nat} (hi : i < 8) (hj : j < 8) (hij : i ≠ j) {fu : Nat} (hfu : 100 ≤ fu) (r n : Nat) (hn60 : n ≤ 60) : ∀ N k (s : AS) ar, (∀ i, i < 8 → SOK (s.1 i)) → M8 (ar 0) b s → k ≤ n → r + (n - k) ≤ (s.1 i).length → (s.1 j).length + cNew (s.1 j) (((s.1 i).drop r).take (n - k)) ≤ 60 → n - k < N → ∃ al, f_X11_goOver_20 fu N (mW C F v ar) 123 (nI i) (nI j) (nI n) (nI r) (nI k) = some (nI n, mW C F v (ua ar 0 al)) ∧ M8 al b (goI i j r (n - k) s) ∧ (∀ q, q < 8 → SOK ((goI i j r (n - k) s).1 q)) ∧ ∀ q, q < b ∨ b + 976 ≤ q → al q = ar 0 q := by
  intro N
  induction N with
  | zero => intro k s ar _ _ _ _ _ hN; omega
  | succ N ih =>
    intro k s ar O M hk hr hc hN
    rw [f_X11_goOver_20]
    by_cases hlt : n ≤ k
    · rw [if_pos (nI_le hlt (by omega)), show n - k = 0 by omega]
      exact ⟨ar 0, by rw [ua_self], M, O, fun _ _ => rfl⟩
    · have Si := O i hi
      have Sj := O j hj
      have hli := Si.len
      have hlj := Sj.len
      have hrl : r < (s.1 i).length := by omega
      have he := Si.lt hrl
      have hcs : plc (s.1 j) (nI (nth (s.1 i) r / 2)) = -1 → (s.1 j).length < 60 := by
        intro hp
        rw [dt_cons (by omega) hrl] at hc
        unfold cNew at hc
        rw [List.countP_cons, if_pos (by simpa using hp)] at hc
        omega
      have hstep := cNew_step (m := n - k) O hi hj hij hrl (by omega) hcs
      have hJ := goStep_j O hi hj hrl hcs
      have hO := goStep_ok O hi hj hij hrl hcs
      have hI := (goStep_i (s := s) (r := r) hij).1
      obtain ⟨al1, g1, g2, g3⟩ := mdrops_ok (v := v) hC hb hb2 hi (M i hi) hli hfu hrl
      have M1 : M8 al1 b (va_up s.1 i ((s.1 i).eraseIdx r), va_up s.2 i (-1)) := M.put O hi g2 g3
      have O1 : ∀ q, q < 8 → SOK ((va_up s.1 i ((s.1 i).eraseIdx r)) q) := fun q hq => by
        by_cases c : q = i
        · subst c; rw [vu_eq]; exact SOK_erase Si r
        · rw [vu_ne _ _ c]; exact O q hq
      have Mj : MA (ua ar 0 al1 0) (b + 122 * j) (s.1 j) (s.2 j) := by
        have := M1 j hj
        simp only [vu_ne _ _ (Ne.symm hij)] at this
        rw [ua_eq]; exact this
      rw [if_neg (nI_ge (by omega) (by omega)), m_cl hC, mkeyAt_ok hC hb hb2 hi (M i hi) Si hrl, some_bind', bnd_eq, m_cl hC, mmarkAt_ok hC hb hb2 hi (M i hi) Si hrl, some_bind', bnd_eq, m_cl hC, g1, some_bind', m_cl hC, mplace_ok hC hb hb2 hj Mj Sj hfu, some_bind', bnd_eq]
      by_cases c : plc (s.1 j) (nI (nth (s.1 i) r / 2)) = -1
      · obtain ⟨al2, k1, k2, k3⟩ := mputs_ok (v := v) hC hb hb2 hj Mj Sj hfu (hcs c) (k := nth (s.1 i) r / 2) (m := nth (s.1 i) r % 2) (by omega)
        rw [ua_ua] at k1
        have k2' : MA al2 (b + 122 * j) (insAt (s.1 j) (bel (s.1 j) (nI (nth (s.1 i) r / 2))) [nth (s.1 i) r]) (-1) := by
          rw [show 2 * (nth (s.1 i) r / 2) + nth (s.1 i) r % 2 = nth (s.1 i) r by omega] at k2; exact k2
        have e1 : goStep s i j r = (va_up (va_up s.1 i ((s.1 i).eraseIdx r)) j (insAt (s.1 j) (bel (s.1 j) (nI (nth (s.1 i) r / 2))) [nth (s.1 i) r]), va_up (va_up s.2 i (-1)) j (-1)) := by
          unfold goStep; rw [if_pos c]
        have M2 : M8 al2 b (goStep s i j r) := by
          rw [e1]
          exact M1.put O1 hj k2' (fun q hq => by rw [k3 q hq, ua_eq])
        rw [if_pos c, m_cl hC, k1, some_bind', f_X11_goOver_109, bnd_eq, nI_1]
        obtain ⟨al, f1, f2, f3, f4⟩ := ih (k + 1) (goStep s i j r) (ua ar 0 al2) hO (by rw [ua_eq]; exact M2) (by omega) (by rw [hI, List.length_eraseIdx_of_lt hrl]; omega) (by rw [show n - (k + 1) = n - k - 1 by omega, hJ.2.1]; omega) (by omega)
        rw [ua_ua] at f1
        refine ⟨al, f1, ?_, ?_, fun q hq => ?_⟩
        · rw [show n - k = n - (k + 1) + 1 by omega]; exact f2
        · rw [show n - k = n - (k + 1) + 1 by omega]; exact f3
        · rw [f4 q hq, ua_eq, k3 q (by omega), ua_eq, g3 q (by omega)]
      · obtain ⟨hbp, hpe⟩ := plc_ne c
        have hkk := key_eq Sj c
        have hlt2 := Sj.lt hbp
        have hk2 : nth (s.1 j) (bel (s.1 j) (nI (nth (s.1 i) r / 2))) / 2 = nth (s.1 i) r / 2 := (nI_eq (by omega) (by omega)).mp hkk
        rw [if_neg c, hpe]
        by_cases c2 : nth (s.1 i) r % 2 = 1
        · have e1 : goStep s i j r = (va_up (va_up s.1 i ((s.1 i).eraseIdx r)) j ((s.1 j).set (bel (s.1 j) (nI (nth (s.1 i) r / 2))) (2 * (nth (s.1 i) r / 2) + 1)), va_up (va_up s.2 i (-1)) j (s.2 j)) := by
            unfold goStep; rw [if_neg c, if_pos c2]
          have k2 := MA_mark (x := 2 * (nth (s.1 i) r / 2) + 1) Mj hlj hbp (by omega)
          rw [show (2 * (nth (s.1 i) r / 2) + 1) % 2 = 1 by omega, ua_eq] at k2
          have M2 : M8 (upd al1 (b + 122 * j + 62 + bel (s.1 j) (nI (nth (s.1 i) r / 2))) (nI 1)) b (goStep s i j r) := by
            rw [e1]
            exact M1.put O1 hj k2 (fun q hq => upd_ne _ _ (by omega))
          rw [c2, if_pos (show nI 1 = (1 : Int32) from rfl), m_gR hC F v _ 0 rfl, some_bind', m_gI hC F v _ 9 rfl, some_bind', hb, mo, show (62 : Int32) = nI 62 from rfl, nI_add, nI_add, m_s0 hC F v _ _ (by omega), some_bind', f_X11_goOver_109, bnd_eq, nI_1, ua_ua, ua_eq]
          obtain ⟨al, f1, f2, f3, f4⟩ := ih (k + 1) (goStep s i j r) (ua ar 0 (upd al1 (b + 122 * j + 62 + bel (s.1 j) (nI (nth (s.1 i) r / 2))) (nI 1))) hO (by rw [ua_eq]; exact M2) (by omega) (by rw [hI, List.length_eraseIdx_of_lt hrl]; omega) (by rw [show n - (k + 1) = n - k - 1 by omega, hJ.2.1]; omega) (by omega)
          rw [ua_ua] at f1
          refine ⟨al, f1, ?_, ?_, fun q hq => ?_⟩
          · rw [show n - k = n - (k + 1) + 1 by omega]; exact f2
          · rw [show n - k = n - (k + 1) + 1 by omega]; exact f3
          · rw [f4 q hq, ua_eq, upd_ne _ _ (by omega), g3 q (by omega)]
        · have e1 : goStep s i j r = (va_up (va_up s.1 i ((s.1 i).eraseIdx r)) j (s.1 j), va_up (va_up s.2 i (-1)) j (s.2 j)) := by
            unfold goStep; rw [if_neg c, if_neg c2]
          have M2 : M8 al1 b (goStep s i j r) := by
            rw [e1]
            rw [ua_eq] at Mj
            exact M1.put O1 hj Mj (fun q hq => rfl)
          rw [if_neg (show ¬ nI (nth (s.1 i) r % 2) = (1 : Int32) from fun q => c2 ((nI_eq (b := 1) (by omega) (by omega)).mp q)), f_X11_goOver_109, bnd_eq, nI_1]
          obtain ⟨al, f1, f2, f3, f4⟩ := ih (k + 1) (goStep s i j r) (ua ar 0 al1) hO (by rw [ua_eq]; exact M2) (by omega) (by rw [hI, List.length_eraseIdx_of_lt hrl]; omega) (by rw [show n - (k + 1) = n - k - 1 by omega, hJ.2.1]; omega) (by omega)
          rw [ua_ua] at f1
          refine ⟨al, f1, ?_, ?_, fun q hq => ?_⟩
          · rw [show n - k = n - (k + 1) + 1 by omega]; exact f2
          · rw [show n - k = n - (k + 1) + 1 by omega]; exact f3
          · rw [f4 q hq, ua_eq, g3 q (by omega)]
end
section
theorem bel_eq {L : List Nat} (S : SOK L) {x : Int32} {p : Nat} (hp : p ≤ L.length) (h1 : ∀ j, j < p → nI (nth L j / 2) < x) (h2 : ∀ j, p ≤ j → j < L.length → ¬ nI (nth L j / 2) < x) : bel L x = p := by
  have hb := bel_le L x
  rcases Nat.lt_trichotomy (bel L x) p with q | q | q
  · have := (bel_iff x L S _ (by omega)).mpr (h1 _ q)
    omega
  · exact q
  · exact absurd ((bel_iff x L S p (by omega)).mp q) (h2 p (Nat.le_refl _) (by omega))
theorem insAt_snoc {M T : List Nat} {b e : Nat} (hb : b ≤ M.length) : insAt (insAt M b T) (b + T.length) [e] = insAt M b (T ++ [e]) := by
  have hl : (M.take b ++ T).length = b + T.length := by simp; omega
  have e1 : insAt M b T = (M.take b ++ T) ++ M.drop b := rfl
  have e2 : (insAt M b T).take (b + T.length) = M.take b ++ T := by rw [e1, ← hl, List.take_left]
  have e3 : (insAt M b T).drop (b + T.length) = M.drop b := by rw [e1, ← hl, List.drop_left]
  show (insAt M b T).take (b + T.length) ++ [e] ++ (insAt M b T).drop (b + T.length) = M.take b ++ (T ++ [e]) ++ M.drop b
  rw [e2, e3]
  simp
theorem mem_insT {M T : List Nat} {r x : Nat} (h : x ∈ insAt M r T) : x ∈ T ∨ x ∈ M := by
  unfold insAt at h
  rcases List.mem_append.mp h with h | h
  · rcases List.mem_append.mp h with h | h
    · exact Or.inr (List.mem_of_mem_take h)
    · exact Or.inl h
  · exact Or.inr (List.mem_of_mem_drop h)
theorem goI_snoc (i j r : Nat) : ∀ (n : Nat) (s : AS), goI i j r (n + 1) s = goStep (goI i j r n s) i j r
  | 0, _ => rfl
  | n + 1, s => goI_snoc i j r n (goStep s i j r)
theorem nth_cut {L : List Nat} {r k j : Nat} (hr : r ≤ L.length) : nth (cutOut L r k) j = if j < r then nth L j else nth L (j + k) := by
  unfold nth cutOut
  rw [List.getD_eq_getElem?_getD]
  by_cases h : j < r
  · rw [if_pos h, List.getElem?_append_left (by simp; omega), List.getElem?_take_of_lt h, List.getD_eq_getElem?_getD]
  · rw [if_neg h, List.getElem?_append_right (by simp; omega), List.getElem?_drop, List.getD_eq_getElem?_getD]
    congr 2
    simp
    omega
theorem cut_len {L : List Nat} {r k : Nat} (h : r + k ≤ L.length) : (cutOut L r k).length = L.length - k := by
  simp [cutOut]; omega
theorem cut_erase {L : List Nat} {r k : Nat} (h : r + k < L.length) : (cutOut L r k).eraseIdx r = cutOut L r (k + 1) := by
  unfold cutOut
  have hl : (L.take r).length = r := by simp; omega
  rw [List.eraseIdx_append_of_length_le (by omega), hl, Nat.sub_self, drop_cons h, List.eraseIdx_cons_zero]
  rfl
theorem dt_snoc {L : List Nat} {r k : Nat} (h : r + k < L.length) : (L.drop r).take (k + 1) = (L.drop r).take k ++ [nth L (r + k)] := by
  rw [List.take_succ_eq_append_getElem (by simp; omega), List.getElem_drop, nth_get h]
/-- a stretch none of whose keys is there goes over as it is -/
theorem goI_give {s : AS} {i j r n : Nat} (O : ∀ q, q < 8 → SOK (s.1 q)) (hi : i < 8) (hj : j < 8) (hij : i ≠ j) (hr : r + n ≤ (s.1 i).length) (hl : (s.1 j).length + n ≤ 60) (hno : ∀ y ∈ s.1 j, y / 2 < nth (s.1 i) r / 2 ∨ nth (s.1 i) (r + n - 1) / 2 < y / 2) : ∀ k, k ≤ n → ((goI i j r k s).1 i = cutOut (s.1 i) r k ∧ (goI i j r k s).1 j = insAt (s.1 j) (bel (s.1 j) (nI (nth (s.1 i) r / 2))) (((s.1 i).drop r).take k) ∧ (∀ q, q ≠ i → q ≠ j → (goI i j r k s).1 q = s.1 q ∧ (goI i j r k s).2 q = s.2 q) ∧ (1 ≤ k → (goI i j r k s).2 i = -1 ∧ (goI i j r k s).2 j = -1) ∧ ∀ q, q < 8 → SOK ((goI i j r k s).1 q)) := by
  have Si := O i hi
  have Sj := O j hj
  have hb := bel_le (s.1 j) (nI (nth (s.1 i) r / 2))
  have hli := Si.len
  intro k
  induction k with
  | zero =>
    intro _
    refine ⟨?_, ?_, fun _ _ _ => ⟨rfl, rfl⟩, fun h => by omega, O⟩
    · show s.1 i = cutOut (s.1 i) r 0
      unfold cutOut; rw [Nat.add_zero, List.take_append_drop]
    · show s.1 j = insAt (s.1 j) _ []
      unfold insAt; rw [List.append_nil, List.take_append_drop]
  | succ k ih =>
    intro hk
    obtain ⟨p1, p2, p3, p4, p5⟩ := ih (by omega)
    have he : nth ((goI i j r k s).1 i) r = nth (s.1 i) (r + k) := by rw [p1, nth_cut (by omega), if_neg (by omega)]
    have hlt := Si.lt (show r + k < (s.1 i).length by omega)
    have hT : (((s.1 i).drop r).take k).length = k := dt_len (by omega)
    have hfirst : nth (s.1 i) r / 2 ≤ nth (s.1 i) (r + k) / 2 := by
      rcases Nat.eq_zero_or_pos k with q | q
      · subst q; exact Nat.le_refl _
      · exact Nat.le_of_lt (Si.inc (by omega) (by omega))
    have hlast : nth (s.1 i) (r + k) / 2 ≤ nth (s.1 i) (r + n - 1) / 2 := by
      rcases Nat.lt_or_ge (r + k) (r + n - 1) with q | q
      · exact Nat.le_of_lt (Si.inc q (by omega))
      · rw [show r + n - 1 = r + k by omega]; exact Nat.le_refl _
    have Sg := p5 j hj
    have hlr := Si.lt (show r < (s.1 i).length by omega)
    have hlen : ((goI i j r k s).1 j).length = (s.1 j).length + k := by rw [p2, insAt_len hb, hT]
    have hpl : plc ((goI i j r k s).1 j) (nI (nth ((goI i j r k s).1 i) r / 2)) = -1 := by
      rw [he, plc_iff Sg (by omega)]
      intro y hy
      rw [p2] at hy
      rcases mem_insT hy with hy | hy
      · obtain ⟨q, hq, rfl⟩ := mem_nth hy
        rw [hT] at hq
        rw [nth_dt hq]
        have := Si.inc (i := r + q) (j := r + k) (by omega) (by omega)
        omega
      · rcases hno y hy with z | z
        · omega
        · omega
    have hbl : bel ((goI i j r k s).1 j) (nI (nth ((goI i j r k s).1 i) r / 2)) = bel (s.1 j) (nI (nth (s.1 i) r / 2)) + k := by
      rw [he]
      refine bel_eq Sg (by omega) (fun q hq => ?_) (fun q hq hq2 => ?_)
      · rw [p2, nth_insAt hb, hT]
        by_cases c1 : q < bel (s.1 j) (nI (nth (s.1 i) r / 2))
        · rw [if_pos c1]
          have h1 := (bel_iff (nI (nth (s.1 i) r / 2)) (s.1 j) Sj q (by omega)).mp c1
          have h2 := Sj.lt (show q < (s.1 j).length by omega)
          have h3 := (nI_ltI (by omega) (by omega)).mp h1
          exact nI_lt (by omega) (by omega)
        · rw [if_neg c1, if_pos (by omega), nth_dt (by omega)]
          have := Si.inc (i := r + (q - bel (s.1 j) (nI (nth (s.1 i) r / 2)))) (j := r + k) (by omega) (by omega)
          exact nI_lt this (by omega)
      · rw [hlen] at hq2
        rw [p2, nth_insAt hb, hT, if_neg (by omega), if_neg (by omega)]
        have h2 := Sj.lt (show q - k < (s.1 j).length by omega)
        have h3 : ¬ nth (s.1 j) (q - k) / 2 < nth (s.1 i) r / 2 := fun z => by
          have := (bel_iff (nI (nth (s.1 i) r / 2)) (s.1 j) Sj (q - k) (by omega)).mpr (nI_lt z (by omega))
          omega
        have h4 := (hno _ (nth_mem (show q - k < (s.1 j).length by omega))).resolve_left h3
        exact nI_nlt (by omega) (by omega)
    have hrl : r < ((goI i j r k s).1 i).length := by rw [p1, cut_len (by omega)]; omega
    have hO := goStep_ok p5 hi hj hij hrl (fun _ => by omega)
    rw [goI_snoc]
    refine ⟨?_, ?_, fun q h1 h2 => ?_, fun _ => ?_, hO⟩
    · rw [(goStep_i hij).1, p1, cut_erase (by omega)]
    · have e1 : (goStep (goI i j r k s) i j r).1 j = insAt ((goI i j r k s).1 j) (bel ((goI i j r k s).1 j) (nI (nth ((goI i j r k s).1 i) r / 2))) [nth ((goI i j r k s).1 i) r] := by
        unfold goStep; rw [if_pos hpl]; simp only [vu_eq]
      rw [e1, hbl, he, p2]
      have := insAt_snoc (M := s.1 j) (T := ((s.1 i).drop r).take k) (b := bel (s.1 j) (nI (nth (s.1 i) r / 2))) (e := nth (s.1 i) (r + k)) hb
      rw [hT] at this
      rw [this, dt_snoc (by omega)]
    · have h3 := goStep_o (s := goI i j r k s) (r := r) h1 h2
      exact ⟨h3.1.trans (p3 q h1 h2).1, h3.2.trans (p3 q h1 h2).2⟩
    · refine ⟨(goStep_i hij).2, ?_⟩
      unfold goStep; rw [if_pos hpl]; simp only [vu_eq]
theorem goI_giveA {s : AS} {i j r n : Nat} (O : ∀ q, q < 8 → SOK (s.1 q)) (hi : i < 8) (hj : j < 8) (hij : i ≠ j) (hn : 1 ≤ n) (hr : r + n ≤ (s.1 i).length) (hl : (s.1 j).length + n ≤ 60) (hno : ∀ y ∈ s.1 j, y / 2 < nth (s.1 i) r / 2 ∨ nth (s.1 i) (r + n - 1) / 2 < y / 2) : goI i j r n s = giveA s i j r n ∧ ∀ q, q < 8 → SOK ((giveA s i j r n).1 q) := by
  obtain ⟨p1, p2, p3, p4, p5⟩ := goI_give O hi hj hij hr hl hno n (Nat.le_refl _)
  have e : goI i j r n s = giveA s i j r n := by
    unfold giveA
    refine Prod.ext (funext fun q => ?_) (funext fun q => ?_)
    · by_cases c1 : q = j
      · subst c1; simp only [vu_eq]; exact p2
      · by_cases c2 : q = i
        · subst c2; simp only [vu_ne _ _ c1, vu_eq]; exact p1
        · simp only [vu_ne _ _ c1, vu_ne _ _ c2]; exact (p3 q c2 c1).1
    · by_cases c1 : q = j
      · subst c1; simp only [vu_eq]; exact (p4 hn).2
      · by_cases c2 : q = i
        · subst c2; simp only [vu_ne _ _ c1, vu_eq]; exact (p4 hn).1
        · simp only [vu_ne _ _ c1, vu_ne _ _ c2]; exact (p3 q c2 c1).2
  exact ⟨e, by rw [← e]; exact p5⟩
theorem cNew_le (M T : List Nat) : cNew M T ≤ T.length := List.countP_le_length
/-- the model: a stretch none of whose keys is there -/
theorem mgive {C : MW} (hC : C.length = 123) {F : Nat → Int32} {v : Int64} {b : Nat} (hb : F 9 = nI b) (hb2 : b ≤ 976) {i j : Nat} (hi : i < 8) (hj : j < 8) (hij : i ≠ j) {fu : Nat} (hfu : 100 ≤ fu) {s : AS} {ar : Nat → Nat → Int32} (O : ∀ q, q < 8 → SOK (s.1 q)) (M : M8 (ar 0) b s) {x y : Int32} {r n : Nat} (hcx : cnt (s.1 i) x y = n) (hbx : bel (s.1 i) x = r) (hn : 1 ≤ n) (hr : r + n ≤ (s.1 i).length) (hl : (s.1 j).length + n ≤ 60) (hno : ∀ z ∈ s.1 j, z / 2 < nth (s.1 i) r / 2 ∨ nth (s.1 i) (r + n - 1) / 2 < z / 2) : ∃ al, f_X11_goOver fu (mW C F v ar) 123 (nI i) x y (nI j) = some (nI n, mW C F v (ua ar 0 al)) ∧ M8 al b (giveA s i j r n) ∧ (∀ q, q < 8 → SOK ((giveA s i j r n).1 q)) ∧ ∀ q, q < b ∨ b + 976 ≤ q → al q = ar 0 q := by
  have Si := O i hi
  have hli := Si.len
  obtain ⟨e1, e2⟩ := goI_giveA O hi hj hij hn hr hl hno
  have hc2 : (s.1 j).length + cNew (s.1 j) (((s.1 i).drop r).take (n - 0)) ≤ 60 := by
    have := cNew_le (s.1 j) (((s.1 i).drop r).take (n - 0))
    rw [Nat.sub_zero, dt_len hr] at this
    rw [Nat.sub_zero]
    omega
  obtain ⟨al, g1, g2, g3, g4⟩ := mgo_loop (v := v) hC hb hb2 hi hj hij hfu r n (by omega) fu 0 s ar O M (by omega) (by omega) hc2 (by omega)
  rw [Nat.sub_zero, e1] at g2
  refine ⟨al, ?_, g2, e2, g4⟩
  rw [f_X11_goOver, m_cl hC, mcounted_ok hC hb hb2 hi (M i hi) Si hfu, some_bind', bnd_eq, m_cl hC, mbelow_ok hC hb hb2 hi (M i hi) Si hfu, some_bind', bnd_eq, bnd_eq, hcx, hbx]
  exact g1
end
section
theorem bel_succ {L : List Nat} (S : SOK L) {k : Nat} (hk : k < 10000) : bel L (nI (k + 1)) = nab L (nI k) := by
  have hn := nab_le L (nI k)
  refine bel_eq S hn (fun j hj => ?_) (fun j h1 h2 h3 => ?_)
  · have h1 := (nab_iff (nI k) L S j (by omega)).mp hj
    have h2 := S.lt (show j < L.length by omega)
    have h3 := (nI_leI (by omega) (by omega)).mp h1
    exact nI_lt (by omega) (by omega)
  · have h4 := S.lt h2
    have h5 := (nI_ltI (by omega) (by omega)).mp h3
    have h6 := (nab_iff (nI k) L S j h2).mpr (nI_le (by omega) (by omega))
    omega
theorem nab_all {L : List Nat} (S : SOK L) : nab L (nI 9999) = L.length := by
  have hn := nab_le L (nI 9999)
  rcases Nat.lt_or_ge (nab L (nI 9999)) L.length with h | h
  · have h1 := S.lt h
    have := (nab_iff (nI 9999) L S _ h).mpr (nI_le (by omega) (by omega))
    omega
  · omega
theorem bel_zero {L : List Nat} (S : SOK L) : bel L (nI 0) = 0 := by
  refine bel_eq S (Nat.zero_le _) (fun j hj => by omega) (fun j _ h2 h3 => ?_)
  have h4 := S.lt h2
  have := (nI_ltI (by omega) (by omega)).mp h3
  omega
theorem cnt_above {L : List Nat} (S : SOK L) {k : Nat} (hk : k < 10000) : cnt L (nI (k + 1)) (nI 9999) = L.length - nab L (nI k) := by
  rw [cnt_hmb _ _ L S]
  unfold hmb
  rw [nab_all S, bel_succ S hk]
theorem cnt_all {L : List Nat} (S : SOK L) : cnt L (nI 0) (nI 9999) = L.length := by
  rw [cnt_hmb _ _ L S]
  unfold hmb
  rw [nab_all S, bel_zero S]
  rfl
/-- a copy, from place k on -/
def cpF (al : Nat → Int32) (fr to n k : Nat) : Nat → Int32 := fun q => if to + k ≤ q ∧ q < to + n then al (fr + (q - to)) else al q
theorem cpF_step (al : Nat → Int32) (fr to n k : Nat) (hk : k < n) (h : to < fr ∨ fr + n ≤ to) : cpF (upd al (to + k) (al (fr + k))) fr to n (k + 1) = cpF al fr to n k := by
  funext q
  unfold cpF
  by_cases c1 : to + (k + 1) ≤ q ∧ q < to + n
  · rw [if_pos c1, if_pos ⟨by omega, c1.2⟩, upd_ne _ _ (by omega)]
  · rw [if_neg c1]
    by_cases c2 : q = to + k
    · subst c2
      rw [upd_eq, if_pos ⟨Nat.le_refl _, by omega⟩, show to + k - to = k by omega]
    · rw [upd_ne _ _ c2, if_neg (by omega)]
theorem mcopies_loop {C : MW} (hC : C.length = 123) {F : Nat → Int32} {v : Int64} (fu fr to n : Nat) (h : to < fr ∨ fr + n ≤ to) (h1 : fr + n ≤ 20204) (h2 : to + n ≤ 20204) : ∀ N k ar, k ≤ n → n - k < N → f_X11_copies_3 fu N (mW C F v ar) 123 (nI fr) (nI to) (nI n) (nI k) = some (mW C F v (ua ar 0 (cpF (ar 0) fr to n k))) := by
  intro N
  induction N with
  | zero => intro k ar _ hN; omega
  | succ N ih =>
    intro k ar hk hN
    rw [f_X11_copies_3]
    by_cases hlt : n ≤ k
    · have e1 : cpF (ar 0) fr to n k = ar 0 := by
        funext q; unfold cpF; rw [if_neg (by omega)]
      rw [if_pos (nI_le hlt (by omega)), e1, ua_self]
    · rw [if_neg (nI_ge (by omega) (by omega)), m_gR hC F v ar 0 rfl, some_bind', some_bind', nI_add, m_a0 hC F v ar (by omega), some_bind', nI_add, m_s0 hC F v ar _ (by omega), some_bind', bnd_eq, nI_1, ih (k + 1) _ (by omega) (by omega), ua_ua, ua_eq, cpF_step _ _ _ _ _ (by omega) h]
theorem mcopies_ok {C : MW} (hC : C.length = 123) {F : Nat → Int32} {v : Int64} {ar : Nat → Nat → Int32} {fu fr to n : Nat} (hfu : 20000 ≤ fu) (h : to < fr ∨ fr + n ≤ to) (h1 : fr + n ≤ 20204) (h2 : to + n ≤ 20204) (h3 : n < 20000) : f_X11_copies fu (mW C F v ar) 123 (nI fr) (nI to) (nI n) = some (mW C F v (ua ar 0 (cpF (ar 0) fr to n 0))) := by
  rw [f_X11_copies, bnd_eq, show (0 : Int32) = nI 0 from rfl, mcopies_loop hC fu fr to n h h1 h2 fu 0 ar (by omega) (by omega)]
theorem M8.copy {al al' : Nat → Int32} {b b' : Nat} {s : AS} (M : M8 al b s) (O : ∀ i, i < 8 → SOK (s.1 i)) (h : ∀ q, q < 976 → al' (b' + q) = al (b + q)) : M8 al' b' s := by
  intro i hi
  have hl := (O i hi).len
  obtain ⟨m1, m2, m3⟩ := M i hi
  refine ⟨?_, ?_, fun j hj => ?_⟩
  · rw [h (122 * i) (by omega)]; exact m1
  · rw [show b' + 122 * i + 1 = b' + (122 * i + 1) by omega, h _ (by omega)]; exact m2
  · rw [show b' + 122 * i + 2 + j = b' + (122 * i + 2 + j) by omega, show b' + 122 * i + 62 + j = b' + (122 * i + 62 + j) by omega, h _ (by omega), h _ (by omega), show b + (122 * i + 2 + j) = b + 122 * i + 2 + j by omega, show b + (122 * i + 62 + j) = b + 122 * i + 62 + j by omega]
    exact m3 j hj
def as0 : AS := (fun _ => [], fun _ => 0)
/-- the model: sets, and what can be undone, the oldest first -/
def MU (al : Nat → Int32) (V : List AS) : Prop := V.length ≤ 12 ∧ ∀ t, t < V.length → M8 al (1952 + 976 * t) (V.getD t as0) ∧ ∀ q, q < 8 → SOK ((V.getD t as0).1 q)
/-- what is kept ahead of an act -/
def kept (V : List AS) (s : AS) : List AS := (if V.length = 12 then V.drop 1 else V) ++ [s]
theorem mF8 {F : Nat → Int32} {v : Int64} (x : Int32) : (mF F v).set 8 (.int x) = mF (upd F 8 x) v := rfl
theorem mkeeps_ok {C : MW} (hC : C.length = 123) {F : Nat → Int32} {v : Int64} {ar : Nat → Nat → Int32} {fu : Nat} (hfu : 20000 ≤ fu) {s : AS} {V : List AS} (O : ∀ q, q < 8 → SOK (s.1 q)) (M : M8 (ar 0) 0 s) (U : MU (ar 0) V) (h8 : F 8 = nI V.length) : ∃ al F', f_X11_keeps fu (mW C F v ar) 123 = some (mW C F' v (ua ar 0 al)) ∧ M8 al 0 s ∧ MU al (kept V s) ∧ F' 8 = nI (kept V s).length ∧ (∀ k, k ≠ 8 → F' k = F k) ∧ ∀ q, q < 1952 ∨ 13664 ≤ q → al q = ar 0 q := by
  have hV := U.1
  have tailp : ∀ (F : Nat → Int32) (ar : Nat → Nat → Int32) (V : List AS), M8 (ar 0) 0 s → MU (ar 0) V → F 8 = nI V.length → V.length < 12 → ∃ al F', f_X11_keeps_32 fu (mW C F v ar) 123 = some (mW C F' v (ua ar 0 al)) ∧ M8 al 0 s ∧ MU al (V ++ [s]) ∧ F' 8 = nI (V ++ [s]).length ∧ (∀ k, k ≠ 8 → F' k = F k) ∧ ∀ q, q < 1952 ∨ 13664 ≤ q → al q = ar 0 q := by
    intro F ar V M U h8 hl
    refine ⟨cpF (ar 0) 0 (1952 + 976 * V.length) 976 0, upd F 8 (nI (V.length + 1)), ?_, ?_, ⟨?_, fun t ht => ?_⟩, ?_, fun k hk => upd_ne _ _ hk, fun q hq => ?_⟩
    · rw [f_X11_keeps_32, m_gI hC F v ar 8 rfl, some_bind', h8, show (976 : Int32) = nI 976 from rfl, nI_mul, show (1952 : Int32) = nI 1952 from rfl, nI_add, m_cl hC, show (0 : Int32) = nI 0 from rfl, mcopies_ok hC hfu (by omega) (by omega) (by omega) (by omega), some_bind', m_gI hC F v _ 8 rfl, some_bind', h8, nI_1, m_p hC F v _ 8 (by omega) (mF8 _), some_bind']
    · refine M.copy O (fun q hq => ?_)
      unfold cpF
      rw [if_neg (by omega)]
    · simp; omega
    · by_cases c : t < V.length
      · have e1 : (V ++ [s]).getD t as0 = V.getD t as0 := by
          rw [List.getD_eq_getElem?_getD, List.getElem?_append_left c, List.getD_eq_getElem?_getD]
        rw [e1]
        have h1 := U.2 t c
        refine ⟨h1.1.copy h1.2 (fun q hq => ?_), h1.2⟩
        unfold cpF
        rw [if_neg (by omega)]
      · have e0 : t = V.length := by simp at ht; omega
        have e1 : (V ++ [s]).getD t as0 = s := by
          rw [e0, List.getD_eq_getElem?_getD, List.getElem?_append_right (Nat.le_refl _), Nat.sub_self]; rfl
        rw [e1]
        refine ⟨M.copy O (fun q hq => ?_), O⟩
        unfold cpF
        rw [if_pos (by omega), e0]
        congr 1
        omega
    · rw [upd_eq]; simp
    · unfold cpF
      rw [if_neg (by omega)]
  rw [f_X11_keeps, m_gI hC F v ar 8 rfl, some_bind', h8]
  unfold kept
  by_cases c : V.length = 12
  · rw [c, if_pos (show nI 12 = (12 : Int32) from rfl), if_pos rfl, m_cl hC, show (2928 : Int32) = nI 2928 from rfl, show (1952 : Int32) = nI 1952 from rfl, show (10736 : Int32) = nI 10736 from rfl, mcopies_ok hC hfu (by omega) (by omega) (by omega) (by omega), some_bind', m_gI hC F v _ 8 rfl, some_bind', h8, c, show (1 : Int32) = nI 1 from rfl, nI_sub (by omega), m_p hC F v _ 8 (by omega) (mF8 _), some_bind']
    have hd : (V.drop 1).length = 11 := by simp; omega
    obtain ⟨al, F', g1, g2, g3, g4, g5, g6⟩ := tailp (upd F 8 (nI (12 - 1))) (ua ar 0 (cpF (ar 0) 2928 1952 10736 0)) (V.drop 1) (by
      rw [ua_eq]
      refine M.copy O (fun q hq => ?_)
      unfold cpF
      rw [if_neg (by omega)]) (by
      rw [ua_eq]
      refine ⟨by omega, fun t ht => ?_⟩
      have e1 : (V.drop 1).getD t as0 = V.getD (t + 1) as0 := by
        rw [List.getD_eq_getElem?_getD, List.getElem?_drop, List.getD_eq_getElem?_getD, Nat.add_comm]
      rw [e1]
      have h1 := U.2 (t + 1) (by omega)
      refine ⟨h1.1.copy h1.2 (fun q hq => ?_), h1.2⟩
      unfold cpF
      rw [if_pos (by omega), show 2928 + (1952 + 976 * t + q - 1952) = 1952 + 976 * (t + 1) + q by omega]) (by rw [upd_eq, hd]) (by omega)
    rw [ua_ua] at g1
    refine ⟨al, F', g1, g2, g3, g4, fun k hk => by rw [g5 k hk, upd_ne _ _ hk], fun q hq => ?_⟩
    rw [g6 q hq, ua_eq]
    unfold cpF
    rw [if_neg (by omega)]
  · rw [if_neg (show ¬ nI V.length = (12 : Int32) from fun q => c ((nI_eq (b := 12) (by omega) (by omega)).mp q)), if_neg c]
    exact tailp F ar V M U h8 (by omega)
end
section
theorem smF_snoc (f : Nat → Nat) : ∀ (e i : Nat), i ≤ e → smF f i (e + 1) = smF f i e + f e := by
  intro e i h
  unfold smF
  rw [show e + 1 - i = (e - i) + 1 by omega, List.range'_concat, List.map_append, List.sum_append]
  simp
  rw [show i + (e - i) = e by omega]
theorem smF_mono (f : Nat → Nat) {i j : Nat} (h : i ≤ j) : smF f 0 i ≤ smF f 0 j := by
  induction j with
  | zero => rw [show i = 0 by omega]; exact Nat.le_refl _
  | succ j ih =>
    rcases Nat.lt_or_ge i (j + 1) with q | q
    · rw [smF_snoc f j 0 (by omega)]
      have := ih (by omega)
      omega
    · rw [show i = j + 1 by omega]; exact Nat.le_refl _
def off (hs : Nat → List Nat) (i : Nat) : Nat := smF (fun t => (hs t).length) 0 i
theorem off_s (hs : Nat → List Nat) (i : Nat) : off hs (i + 1) = off hs i + (hs i).length := smF_snoc _ i 0 (Nat.zero_le _)
theorem off_le {hs : Nat → List Nat} (O : AOK hs) {i : Nat} (hi : i < 8) : off hs i + (hs i).length ≤ 240 := by
  rw [← off_s]
  exact Nat.le_trans (smF_mono _ (by omega)) O.2
/-- a snapshot's cells hold the sets below i -/
def SNq (w : MW) (p : Nat) (s : AS) (i : Nat) : Prop := w[p]? = some (.inr (6, [.ref (p + 1), .ref (p + 2), .ref (p + 3)])) ∧ ∃ es ss fs, w[p + 1]? = some (.inl (.int, 240, .inl es)) ∧ w[p + 2]? = some (.inl (.int, 8, .inl ss)) ∧ w[p + 3]? = some (.inl (.int, 8, .inl fs)) ∧ ∀ t, t < i → ss t = nI (s.1 t).length ∧ fs t = s.2 t ∧ ∀ j, j < (s.1 t).length → es (off s.1 t + j) = nI (nth (s.1 t) j)
abbrev SNP (w : MW) (p : Nat) (s : AS) : Prop := SNq w p s 8
theorem SNq.chg {ks : List Nat} {w w' : MW} {p i : Nat} {s : AS} (h : SNq w p s i) (C : Chg ks w w') (hk : ∀ k, k ∈ ks → k < p ∨ p + 3 < k) : SNq w' p s i := by
  obtain ⟨h0, es, ss, fs, h1, h2, h3, h4⟩ := h
  exact ⟨C.at (fun q => by have := hk _ q; omega) h0, es, ss, fs, C.at (fun q => by have := hk _ q; omega) h1, C.at (fun q => by have := hk _ q; omega) h2, C.at (fun q => by have := hk _ q; omega) h3, h4⟩
theorem imin_l {a b : Nat} (h : a ≤ b) (hb : b < 2 ^ 31) : imin (nI a) (nI b) = nI a := by
  unfold imin
  rw [if_neg (nI_nlt h hb)]
theorem take_loop {s : AS} (O : AOK s.1) {fu p : Nat} (hp : 33 ≤ p) : ∀ N i w, CS w s.1 s.2 → SNq w p s i → i ≤ 8 → 8 - i < N → ∃ w', f_X6_take_4 fu N w p 1 (nI (off s.1 i)) (nI i) = some w' ∧ SNP w' p s ∧ Chg [p + 1, p + 2, p + 3] w w' := by
  intro N
  induction N with
  | zero => intro i w _ _ _ hN; omega
  | succ N ih =>
    intro i w h S hi hN
    rw [f_X6_take_4]
    by_cases h8 : 8 ≤ i
    · rw [if_pos (show (8 : Int32) ≤ nI i from nI_le (a := 8) h8 (by omega))]
      rw [show i = 8 by omega] at S
      exact ⟨w, rfl, S, Chg.rf _ _⟩
    · have hi8 : i < 8 := by omega
      have hl := (O.1 i hi8).len
      have ho := off_le O hi8
      obtain ⟨hne, a1, xs, a2, a3⟩ := h.ha hi8
      obtain ⟨h0, es, ss, fs, h1, h2, h3, h4⟩ := S
      have c1 := Chg.st (ks := [p + 1, p + 2, p + 3]) w (a := p + 1) (.inl (.int, 240, .inl (va_cpy xs es 0 (off s.1 i) (s.1 i).length))) (by simp)
      generalize hw1 : w.set (p + 1) (.inl (.int, 240, .inl (va_cpy xs es 0 (off s.1 i) (s.1 i).length))) = w1 at c1
      have e1 : cpI w .int (14 + 2 * i) (nI 0) (p + 1) (nI (off s.1 i)) (nI (s.1 i).length) = some w1 := by
        rw [cpI_ar a2 h1 (by omega) (by omega) (by omega) (by omega), hw1]
      have b0 : w1[p]? = some (.inr (6, [.ref (p + 1), .ref (p + 2), .ref (p + 3)])) := by rw [← hw1, get_set_ne (by omega)]; exact h0
      have b1 : w1[p + 1]? = some (.inl (.int, 240, .inl (va_cpy xs es 0 (off s.1 i) (s.1 i).length))) := by rw [← hw1, get_set_eq h1]
      have b2 : w1[p + 2]? = some (.inl (.int, 8, .inl ss)) := by rw [← hw1, get_set_ne (by omega)]; exact h2
      have b3 : w1[p + 3]? = some (.inl (.int, 8, .inl fs)) := by rw [← hw1, get_set_ne (by omega)]; exact h3
      have c2 := Chg.st (ks := [p + 1, p + 2, p + 3]) w1 (a := p + 2) (.inl (.int, 8, .inl (upd ss i (nI (s.1 i).length)))) (by simp)
      generalize hw2 : w1.set (p + 2) (.inl (.int, 8, .inl (upd ss i (nI (s.1 i).length)))) = w2 at c2
      have e2 : sI w1 .int (p + 2) (nI i) (nI (s.1 i).length) = some w2 := by rw [sI_ar b2 hi8 (by omega), hw2]
      have d0 : w2[p]? = some (.inr (6, [.ref (p + 1), .ref (p + 2), .ref (p + 3)])) := by rw [← hw2, get_set_ne (by omega)]; exact b0
      have d3 : w2[p + 3]? = some (.inl (.int, 8, .inl fs)) := by rw [← hw2, get_set_ne (by omega)]; exact b3
      have C2 := h.chg (c1.tr c2) (fun k hk => by simp at hk; omega)
      have c3 := Chg.st (ks := [p + 1, p + 2, p + 3]) w2 (a := p + 3) (.inl (.int, 8, .inl (upd fs i (s.2 i)))) (by simp)
      generalize hw3 : w2.set (p + 3) (.inl (.int, 8, .inl (upd fs i (s.2 i)))) = w3 at c3
      have e3 : sI w2 .int (p + 3) (nI i) (s.2 i) = some w3 := by rw [sI_ar d3 hi8 (by omega), hw3]
      have C3 := h.chg ((c1.tr c2).tr c3) (fun k hk => by simp at hk; omega)
      have S3 : SNq w3 p s (i + 1) := by
        refine ⟨by rw [← hw3, get_set_ne (by omega)]; exact d0, va_cpy xs es 0 (off s.1 i) (s.1 i).length, upd ss i (nI (s.1 i).length), upd fs i (s.2 i), by rw [← hw3, get_set_ne (by omega), ← hw2, get_set_ne (by omega)]; exact b1, by rw [← hw3, get_set_ne (by omega), ← hw2, get_set_eq b2], by rw [← hw3, get_set_eq d3], fun t ht => ?_⟩
        by_cases c : t = i
        · subst c
          refine ⟨upd_eq _ _ _, upd_eq _ _ _, fun j hj => ?_⟩
          unfold va_cpy
          rw [if_pos (by omega), show 0 + (off s.1 t + j - off s.1 t) = j by omega]
          exact a3 j hj
        · have h5 := h4 t (by omega)
          refine ⟨by rw [upd_ne _ _ c]; exact h5.1, by rw [upd_ne _ _ c]; exact h5.2.1, fun j hj => ?_⟩
          have h6 : off s.1 (t + 1) ≤ off s.1 i := smF_mono _ (by omega)
          rw [off_s] at h6
          unfold va_cpy
          rw [if_neg (by omega)]
          exact h5.2.2 j hj
      obtain ⟨w', g1, g2, g3⟩ := ih (i + 1) w3 C3 S3 (by omega) (by omega)
      rw [if_neg (show ¬ (8 : Int32) ≤ nI i from nI_ge (b := 8) hi8 (by omega)), h.arr, some_bind', h.heap hi8, some_bind', gI_ob a1 rfl, some_bind', show (240 : Int32) = nI 240 from rfl, nI_sub (by omega), imin_l (by omega) (by omega), bnd_eq, gR_ob a1 rfl, some_bind', gR_ob h0 rfl, some_bind', show (0 : Int32) = nI 0 from rfl, e1, some_bind', gR_ob b0 rfl, some_bind', e2, some_bind', gR_ob d0 rfl, some_bind', gI_ob (C2.ha hi8).2.1 rfl, some_bind', e3, some_bind', bnd_eq, nI_add, bnd_eq, nI_1, ← off_s, g1]
      exact ⟨w', rfl, g2, ((c1.tr c2).tr c3).tr g3⟩
theorem take_ok {s : AS} (O : AOK s.1) {fu p : Nat} (hfu : 100 ≤ fu) (hp : 33 ≤ p) {w : MW} (h : CS w s.1 s.2) {s0 : AS} (S : SNq w p s0 0) : ∃ w', f_X6_take fu w p 1 = some w' ∧ SNP w' p s ∧ Chg [p + 1, p + 2, p + 3] w w' := by
  have S0 : SNq w p s 0 := by
    obtain ⟨h0, es, ss, fs, h1, h2, h3, -⟩ := S
    exact ⟨h0, es, ss, fs, h1, h2, h3, fun t ht => by omega⟩
  rw [f_X6_take, bnd_eq, bnd_eq, show (0 : Int32) = nI 0 from rfl]
  exact take_loop O hp fu 0 w h S0 (by omega) (by omega)
theorem SNq.shape {w : MW} {p i : Nat} {s s' : AS} (h : SNq w p s i) : SNq w p s' 0 := by
  obtain ⟨h0, es, ss, fs, h1, h2, h3, -⟩ := h
  exact ⟨h0, es, ss, fs, h1, h2, h3, fun t ht => by omega⟩
theorem CS.ext {w : MW} {hs hs' : Nat → List Nat} {fg fg' : Nat → Int32} (h : CS w hs fg) (e : ∀ t, t < 8 → hs t = hs' t ∧ fg t = fg' t) : CS w hs' fg' := ⟨h.1, h.2.1, fun i hi => by rw [← (e i hi).1, ← (e i hi).2]; exact h.2.2 i hi⟩
theorem giveb_loop {s : AS} (O : AOK s.1) {fu p : Nat} (hp : 33 ≤ p) : ∀ N i w (hs : Nat → List Nat) (fg : Nat → Int32), CS w hs fg → (∀ t, t < i → hs t = s.1 t ∧ fg t = s.2 t) → SNP w p s → i ≤ 8 → 8 - i < N → ∃ w', f_X6_give_4 fu N w p 1 (nI (off s.1 i)) (nI i) = some w' ∧ CS w' s.1 s.2 ∧ Chg hpl w w' := by
  intro N
  induction N with
  | zero => intro i w hs fg _ _ _ _ hN; omega
  | succ N ih =>
    intro i w hs fg h hd S hi hN
    rw [f_X6_give_4]
    by_cases h8 : 8 ≤ i
    · rw [if_pos (show (8 : Int32) ≤ nI i from nI_le (a := 8) h8 (by omega))]
      exact ⟨w, rfl, h.ext (fun t ht => hd t (by omega)), Chg.rf _ _⟩
    · have hi8 : i < 8 := by omega
      have hl := (O.1 i hi8).len
      have ho := off_le O hi8
      obtain ⟨hne, a1, xs, a2, a3⟩ := h.ha hi8
      obtain ⟨h0, es, ss, fs, h1, h2, h3, h4⟩ := id S
      obtain ⟨s1, s2, s3⟩ := h4 i hi8
      have hin1 : 14 + 2 * i ∈ [13 + 2 * i, 14 + 2 * i] := by simp
      have hin2 : 13 + 2 * i ∈ [13 + 2 * i, 14 + 2 * i] := by simp
      have c1 := Chg.st (ks := [13 + 2 * i, 14 + 2 * i]) w (a := 14 + 2 * i) (.inl (.int, 60, .inl (va_cpy es xs (off s.1 i) 0 (s.1 i).length))) hin1
      generalize hw1 : w.set (14 + 2 * i) (.inl (.int, 60, .inl (va_cpy es xs (off s.1 i) 0 (s.1 i).length))) = w1 at c1
      have e1 : cpI w .int (p + 1) (nI (off s.1 i)) (14 + 2 * i) (nI 0) (nI (s.1 i).length) = some w1 := by
        rw [cpI_ar h1 a2 (by omega) (by omega) (by omega) (by omega), hw1]
      have b1 : w1[13 + 2 * i]? = some (.inr (0, [.ref (14 + 2 * i), .int (nI (hs i).length), .int (fg i)])) := by rw [← hw1, get_set_ne (by omega)]; exact a1
      have b2 : w1[14 + 2 * i]? = some (.inl (.int, 60, .inl (va_cpy es xs (off s.1 i) 0 (s.1 i).length))) := by rw [← hw1, get_set_eq a2]
      have c2 := Chg.st (ks := [13 + 2 * i, 14 + 2 * i]) w1 (a := 13 + 2 * i) (.inr (0, [.ref (14 + 2 * i), .int (nI (s.1 i).length), .int (fg i)])) hin2
      generalize hw2 : w1.set (13 + 2 * i) (.inr (0, [.ref (14 + 2 * i), .int (nI (s.1 i).length), .int (fg i)])) = w2 at c2
      have e2 : pV w1 0 (13 + 2 * i) 1 (.int (nI (s.1 i).length)) = some w2 := by rw [pV_ob b1 (by simp), ← hw2]; rfl
      have S2 : SNP w2 p s := S.chg (c1.tr c2) (fun k hk => by simp at hk; omega)
      obtain ⟨f0, es', ss', fs', f1, f2, f3, f4⟩ := id S2
      have d1 : w2[13 + 2 * i]? = some (.inr (0, [.ref (14 + 2 * i), .int (nI (s.1 i).length), .int (fg i)])) := by rw [← hw2, get_set_eq b1]
      have c3 := Chg.st (ks := [13 + 2 * i, 14 + 2 * i]) w2 (a := 13 + 2 * i) (.inr (0, [.ref (14 + 2 * i), .int (nI (s.1 i).length), .int (s.2 i)])) hin2
      generalize hw3 : w2.set (13 + 2 * i) (.inr (0, [.ref (14 + 2 * i), .int (nI (s.1 i).length), .int (s.2 i)])) = w3 at c3
      have e3 : pV w2 0 (13 + 2 * i) 2 (.int (s.2 i)) = some w3 := by rw [pV_ob d1 (by simp), ← hw3]; rfl
      have H3 : HA w3 (13 + 2 * i) (14 + 2 * i) (s.1 i) (s.2 i) := by
        refine ⟨hne, by rw [← hw3, get_set_eq d1], va_cpy es xs (off s.1 i) 0 (s.1 i).length, by rw [← hw3, get_set_ne (by omega), ← hw2, get_set_ne (by omega)]; exact b2, fun j hj => ?_⟩
        unfold va_cpy
        rw [if_pos (by omega), Nat.sub_zero]
        exact s3 j hj
      have C3 := h.put hi8 H3 ((c1.tr c2).tr c3)
      obtain ⟨w', g1, g2, g3⟩ := ih (i + 1) w3 _ _ C3 (fun t ht => by
        by_cases c : t = i
        · subst c; exact ⟨vu_eq _ _ _, vu_eq _ _ _⟩
        · rw [vu_ne _ _ c, vu_ne _ _ c]; exact hd t (by omega)) (S.chg ((c1.tr c2).tr c3) (fun k hk => by simp at hk; omega)) (by omega) (by omega)
      rw [if_neg (show ¬ (8 : Int32) ≤ nI i from nI_ge (b := 8) hi8 (by omega)), h.arr, some_bind', h.heap hi8, some_bind', gR_ob h0 rfl, some_bind', aI_ar h2 hi8 (by omega), some_bind', s1, show (240 : Int32) = nI 240 from rfl, nI_sub (by omega), imin_l (by omega) (by omega), bnd_eq, gR_ob h0 rfl, some_bind', gR_ob a1 rfl, some_bind', show (0 : Int32) = nI 0 from rfl, e1, some_bind', e2, some_bind', gR_ob f0 rfl, some_bind', aI_ar f3 hi8 (by omega), some_bind', (f4 i hi8).2.1, e3, some_bind', bnd_eq, nI_add, bnd_eq, nI_1, ← off_s, g1]
      exact ⟨w', rfl, g2, (((c1.tr c2).tr c3).mono (hpl_in hi8)).tr g3⟩
theorem giveb_ok {s : AS} (O : AOK s.1) {fu p : Nat} (hfu : 100 ≤ fu) (hp : 33 ≤ p) {w : MW} {hs : Nat → List Nat} {fg : Nat → Int32} (h : CS w hs fg) (S : SNP w p s) : ∃ w', f_X6_give fu w p 1 = some w' ∧ CS w' s.1 s.2 ∧ Chg hpl w w' := by
  rw [f_X6_give, bnd_eq, bnd_eq, show (0 : Int32) = nI 0 from rfl]
  exact giveb_loop O hp fu 0 w hs fg h (fun t ht => by omega) S (by omega) (by omega)
end
section
/-- what the class can undo, the oldest first -/
def CP (w : MW) (n : Nat) (V : List AS) : Prop := n < 13 ∧ V.length ≤ 12 ∧ w[31]? = some (.inr (3, [.ref 32, .int (nI n), .int (nI V.length)])) ∧ (∃ f, w[32]? = some (.inl (.object RX6, 13, .inr (.inr (.inr (.inr f))))) ∧ ∀ k, k < 13 → f k = some (33 + 4 * k)) ∧ (∀ k, k < 13 → SNq w (33 + 4 * k) as0 0) ∧ ∀ t, t < V.length → SNP w (33 + 4 * ((n + 13 - V.length + t) % 13)) (V.getD t as0) ∧ AOK (V.getD t as0).1
theorem CP.chg {ks : List Nat} {w w' : MW} {n : Nat} {V : List AS} (h : CP w n V) (C : Chg ks w w') (hk : ∀ k, k ∈ ks → k < 31 ∨ 84 < k) : CP w' n V := by
  obtain ⟨h1, h2, h3, ⟨f, h4, h4'⟩, h5, h6⟩ := h
  refine ⟨h1, h2, C.at (fun q => by have := hk _ q; omega) h3, ⟨f, C.at (fun q => by have := hk _ q; omega) h4, h4'⟩, fun k hk' => (h5 k hk').chg C (fun q hq => by have := hk _ hq; omega), fun t ht => ⟨(h6 t ht).1.chg C (fun q hq => ?_), (h6 t ht).2⟩⟩
  have := hk _ hq
  have := Nat.mod_lt (n + 13 - V.length + t) (show 0 < 13 by omega)
  omega
theorem CP.cl {α : Type} {w : MW} {n : Nat} {V : List AS} (h : CP w n V) (x : Option α) : cl w 3 31 x = x := cl_ob h.2.2.1 x
theorem getD_l {V : List AS} {s : AS} {t : Nat} (c : t < V.length) : (V ++ [s]).getD t as0 = V.getD t as0 := by
  rw [List.getD_eq_getElem?_getD, List.getElem?_append_left c, List.getD_eq_getElem?_getD]
theorem getD_r {V : List AS} {s : AS} {t : Nat} (c : t = V.length) : (V ++ [s]).getD t as0 = s := by
  rw [c, List.getD_eq_getElem?_getD, List.getElem?_append_right (Nat.le_refl _), Nat.sub_self]; rfl
theorem getD_d {V : List AS} {t : Nat} : (V.drop 1).getD t as0 = V.getD (t + 1) as0 := by
  rw [List.getD_eq_getElem?_getD, List.getElem?_drop, List.getD_eq_getElem?_getD, Nat.add_comm]
theorem getD_t {V : List AS} {t m : Nat} (h : t < m) : (V.take m).getD t as0 = V.getD t as0 := by
  rw [List.getD_eq_getElem?_getD, List.getElem?_take_of_lt h, List.getD_eq_getElem?_getD]
theorem prepare_ok {s : AS} (O : AOK s.1) {fu : Nat} (hfu : 100 ≤ fu) {w : MW} (h : CS w s.1 s.2) {n : Nat} {V : List AS} (P : CP w n V) : ∃ w', f_X3_prepare fu w 31 1 = some w' ∧ CS w' s.1 s.2 ∧ CP w' n V ∧ SNP w' (33 + 4 * n) s ∧ Chg [34 + 4 * n, 35 + 4 * n, 36 + 4 * n] w w' := by
  obtain ⟨h1, h2, h3, ⟨f, h4, h4'⟩, h5, h6⟩ := id P
  obtain ⟨w', g1, g2, g3⟩ := take_ok O hfu (show 33 ≤ 33 + 4 * n by omega) h (h5 n h1)
  have g3' : Chg [34 + 4 * n, 35 + 4 * n, 36 + 4 * n] w w' := g3.mono (fun k hk => by simp at hk ⊢; omega)
  refine ⟨w', ?_, h.chg g3 (fun k hk => by simp at hk; omega), ?_, g2, g3'⟩
  · rw [f_X3_prepare, gR_ob h3 rfl, some_bind', gI_ob h3 rfl, some_bind', aRn_ar h4 (h4' n h1) h1 (by omega), some_bind', cl_ob (h5 n h1).1, g1, some_bind']
  · refine ⟨h1, h2, g3.at (by simp; omega) h3, ⟨f, g3.at (by simp; omega) h4, h4'⟩, fun k hk => ?_, fun t ht => ⟨(h6 t ht).1.chg g3 (fun q hq => ?_), (h6 t ht).2⟩⟩
    · by_cases c : k = n
      · subst c; exact SNq.shape g2
      · exact (h5 k hk).chg g3 (fun q hq => by simp at hq; omega)
    · have : (n + 13 - V.length + t) % 13 ≠ n := by omega
      simp at hq
      omega
theorem settle_ok {s : AS} (O : AOK s.1) {w : MW} {n : Nat} {V : List AS} (P : CP w n V) (S : SNP w (33 + 4 * n) s) {x : Int32} (hx : ¬ x < 0) : ∃ w', f_X3_settle w 31 x = some (x, w') ∧ CP w' ((n + 1) % 13) (kept V s) ∧ Chg [31] w w' := by
  obtain ⟨h1, h2, h3, ⟨f, h4, h4'⟩, h5, h6⟩ := id P
  have hl : (kept V s).length = min (V.length + 1) 12 := by
    unfold kept
    by_cases c : V.length = 12
    · rw [if_pos c]; simp; omega
    · rw [if_neg c]; simp; omega
  have hmn : imin (nI (V.length + 1)) 12 = nI (min (V.length + 1) 12) := by
    by_cases c : V.length = 12
    · rw [c]; rfl
    · rw [show (12 : Int32) = nI 12 from rfl, imin_l (by omega) (by omega)]; congr 1; omega
  have c1 := Chg.st (ks := [31]) w (a := 31) (.inr (3, [.ref 32, .int (nI ((n + 1) % 13)), .int (nI V.length)])) (by simp)
  generalize hw1 : w.set 31 (.inr (3, [.ref 32, .int (nI ((n + 1) % 13)), .int (nI V.length)])) = w1 at c1
  have b1 : w1[31]? = some (.inr (3, [.ref 32, .int (nI ((n + 1) % 13)), .int (nI V.length)])) := by rw [← hw1, get_set_eq h3]
  have c2 := Chg.st (ks := [31]) w1 (a := 31) (.inr (3, [.ref 32, .int (nI ((n + 1) % 13)), .int (nI (min (V.length + 1) 12))])) (by simp)
  generalize hw2 : w1.set 31 (.inr (3, [.ref 32, .int (nI ((n + 1) % 13)), .int (nI (min (V.length + 1) 12))])) = w2 at c2
  have e1 : pV w 3 31 1 (.int (nI ((n + 1) % 13))) = some w1 := by rw [pV_ob h3 (by simp), ← hw1]; rfl
  have e2 : pV w1 3 31 2 (.int (nI (min (V.length + 1) 12))) = some w2 := by rw [pV_ob b1 (by simp), ← hw2]; rfl
  have c12 := c1.tr c2
  have key : f_X3_settle_26 w 31 x 31 (nI ((n + 1) % 13)) = some (x, w2) := by
    rw [f_X3_settle_26, e1, some_bind', gI_ob b1 rfl, some_bind', nI_1, hmn, e2, some_bind']
  refine ⟨w2, ?_, ⟨by omega, by omega, by rw [hl, ← hw2, get_set_eq b1], ⟨f, c12.at (by simp) h4, h4'⟩, fun k hk => (h5 k hk).chg c12 (fun q hq => by simp at hq; omega), fun t ht => ?_⟩, c12⟩
  · rw [f_X3_settle, if_neg hx, gI_ob h3 rfl, some_bind', nI_1]
    by_cases c : n = 12
    · rw [if_pos (show (13 : Int32) ≤ nI (n + 1) from nI_le (a := 13) (by omega) (by omega)), ← key, c]; rfl
    · rw [if_neg (show ¬ (13 : Int32) ≤ nI (n + 1) from nI_ge (b := 13) (by omega) (by omega)), some_bind', nI_1, ← key, show (n + 1) % 13 = n + 1 by omega]
  · rw [hl] at ht ⊢
    have T : ∀ p, 33 ≤ p → ∀ q, SNP w p q → SNP w2 p q := fun p hp q hq => hq.chg c12 (fun r hr => by simp at hr; omega)
    unfold kept
    by_cases c : V.length = 12
    · rw [if_pos c]
      have hd : (V.drop 1).length = 11 := by simp; omega
      by_cases ct : t < 11
      · rw [getD_l (by omega), getD_d]
        have := h6 (t + 1) (by omega)
        refine ⟨T _ (by omega) _ ?_, this.2⟩
        rw [show ((n + 1) % 13 + 13 - min (V.length + 1) 12 + t) % 13 = (n + 13 - V.length + (t + 1)) % 13 by omega]
        exact this.1
      · rw [getD_r (by omega), show ((n + 1) % 13 + 13 - min (V.length + 1) 12 + t) % 13 = n by omega]
        exact ⟨T _ (by omega) _ S, O⟩
    · rw [if_neg c]
      by_cases ct : t < V.length
      · rw [getD_l ct]
        have := h6 t ct
        refine ⟨T _ (by omega) _ ?_, this.2⟩
        rw [show ((n + 1) % 13 + 13 - min (V.length + 1) 12 + t) % 13 = (n + 13 - V.length + t) % 13 by omega]
        exact this.1
      · rw [getD_r (by omega), show ((n + 1) % 13 + 13 - min (V.length + 1) 12 + t) % 13 = n by omega]
        exact ⟨T _ (by omega) _ S, O⟩
theorem settle_no {w : MW} {x : Int32} (hx : x < 0) : f_X3_settle w 31 x = some (x, w) := by
  rw [f_X3_settle, if_pos hx]
theorem stepBack_ok {fu : Nat} (hfu : 100 ≤ fu) {s : AS} {w : MW} (h : CS w s.1 s.2) {n : Nat} {V : List AS} (P : CP w n V) (hV : 0 < V.length) : ∃ w', f_X3_stepBack fu w 31 1 = some w' ∧ CS w' (V.getD (V.length - 1) as0).1 (V.getD (V.length - 1) as0).2 ∧ CP w' ((n + 12) % 13) (V.take (V.length - 1)) ∧ Chg (31 :: hpl) w w' := by
  obtain ⟨h1, h2, h3, ⟨f, h4, h4'⟩, h5, h6⟩ := id P
  have c1 := Chg.st (ks := [31]) w (a := 31) (.inr (3, [.ref 32, .int (nI ((n + 12) % 13)), .int (nI V.length)])) (by simp)
  generalize hw1 : w.set 31 (.inr (3, [.ref 32, .int (nI ((n + 12) % 13)), .int (nI V.length)])) = w1 at c1
  have b1 : w1[31]? = some (.inr (3, [.ref 32, .int (nI ((n + 12) % 13)), .int (nI V.length)])) := by rw [← hw1, get_set_eq h3]
  have c2 := Chg.st (ks := [31]) w1 (a := 31) (.inr (3, [.ref 32, .int (nI ((n + 12) % 13)), .int (nI (V.length - 1))])) (by simp)
  generalize hw2 : w1.set 31 (.inr (3, [.ref 32, .int (nI ((n + 12) % 13)), .int (nI (V.length - 1))])) = w2 at c2
  have e1 : pV w 3 31 1 (.int (nI ((n + 12) % 13))) = some w1 := by rw [pV_ob h3 (by simp), ← hw1]; rfl
  have e2 : pV w1 3 31 2 (.int (nI (V.length - 1))) = some w2 := by rw [pV_ob b1 (by simp), ← hw2]; rfl
  have b2 : w2[31]? = some (.inr (3, [.ref 32, .int (nI ((n + 12) % 13)), .int (nI (V.length - 1))])) := by rw [← hw2, get_set_eq b1]
  have c12 := c1.tr c2
  have d4 := c12.at (by simp) h4
  have H2 : CS w2 s.1 s.2 := h.chg c12 (fun q hq => by simp at hq; omega)
  have hr : (n + 12) % 13 < 13 := by omega
  have hS := h6 (V.length - 1) (by omega)
  have S2 : SNP w2 (33 + 4 * ((n + 12) % 13)) (V.getD (V.length - 1) as0) := by
    rw [show (n + 12) % 13 = (n + 13 - V.length + (V.length - 1)) % 13 by omega]
    exact hS.1.chg c12 (fun r hr => by simp at hr; omega)
  obtain ⟨w', g1, g2, g3⟩ := giveb_ok hS.2 hfu (show 33 ≤ 33 + 4 * ((n + 12) % 13) by omega) H2 S2
  have key : f_X3_stepBack_19 fu w 31 1 31 (nI ((n + 12) % 13)) = some w' := by
    rw [f_X3_stepBack_19, e1, some_bind', gI_ob b1 rfl, some_bind', show (1 : Int32) = nI 1 from rfl, nI_sub (by omega), e2, some_bind', gR_ob b2 rfl, some_bind', gI_ob b2 rfl, some_bind', aRn_ar d4 (h4' _ hr) hr (by omega), some_bind', cl_ob S2.1, g1, some_bind']
  have hh : ∀ k, k ∈ hpl → k < 31 := by decide
  have hl : (V.take (V.length - 1)).length = V.length - 1 := by simp
  refine ⟨w', ?_, g2, ?_, (c12.mono (fun k hk => by simp at hk; simp [hk])).tr (g3.mono (fun k hk => List.mem_cons_of_mem _ hk))⟩
  · rw [f_X3_stepBack, gI_ob h3 rfl, some_bind']
    by_cases c : n = 0
    · subst c
      rw [if_pos (show nI 0 ≤ 0 by decide)]; exact key
    · rw [if_neg (show ¬ nI n ≤ 0 from fun q => c (by have := (nI_leI (b := 0) (by omega) (by omega)).mp q; omega)), some_bind', show (1 : Int32) = nI 1 from rfl, nI_sub (by omega), ← key, show (n + 12) % 13 = n - 1 by omega]
  · have P2 : CP w2 ((n + 12) % 13) (V.take (V.length - 1)) := by
      refine ⟨hr, by omega, by rw [hl]; exact b2, ⟨f, d4, h4'⟩, fun k hk => (h5 k hk).chg c12 (fun q hq => by simp at hq; omega), fun t ht => ?_⟩
      rw [hl] at ht ⊢
      rw [getD_t ht]
      have := h6 t (by omega)
      refine ⟨SNq.chg ?_ c12 (fun r hr => by simp at hr; omega), this.2⟩
      rw [show ((n + 12) % 13 + 13 - (V.length - 1) + t) % 13 = (n + 13 - V.length + t) % 13 by omega]
      exact this.1
    exact P2.chg g3 (fun k hk => by have := hh k hk; omega)
theorem forget_ok {w : MW} {n : Nat} {V : List AS} (P : CP w n V) : ∃ w', f_X3_forget w 31 = some w' ∧ CP w' n [] ∧ Chg [31] w w' := by
  obtain ⟨h1, h2, h3, ⟨f, h4, h4'⟩, h5, h6⟩ := id P
  have c1 := Chg.st (ks := [31]) w (a := 31) (.inr (3, [.ref 32, .int (nI n), .int (nI 0)])) (by simp)
  refine ⟨_, ?_, ⟨h1, by simp, get_set_eq h3, ⟨f, c1.at (by simp) h4, h4'⟩, fun k hk => (h5 k hk).chg c1 (fun q hq => by simp at hq; omega), fun t ht => by simp at ht⟩, c1⟩
  rw [f_X3_forget, pV_ob h3 (by simp), some_bind']
  rfl
end
section
theorem mC_len (F : Nat → Int32) (v : Int64) (ar : Nat → Nat → Int32) : (mC F v ar).length = 7 := rfl
theorem mW_len {C : MW} (hC : C.length = 123) (F : Nat → Int32) (v : Int64) (ar : Nat → Nat → Int32) : (mW C F v ar).length = 130 := by
  unfold mW
  rw [List.length_append, hC, mC_len]
/-- what the class does keeps the model's cells -/
theorem mW_chg {C : MW} (hC : C.length = 123) {F : Nat → Int32} {v : Int64} {ar : Nat → Nat → Int32} {ks : List Nat} {w' : MW} (h : Chg ks (mW C F v ar) w') (hk : ∀ k, k ∈ ks → k < 123) : ∃ C', C'.length = 123 ∧ w' = mW C' F v ar ∧ ∀ k, k ∉ ks → C'[k]? = C[k]? := by
  have hl : w'.length = 130 := by rw [h.1, mW_len hC]
  refine ⟨w'.take 123, by rw [List.length_take]; omega, ?_, fun k hq => ?_⟩
  · unfold mW
    have e : w'.drop 123 = mC F v ar := by
      refine List.ext_getElem? (fun i => ?_)
      rw [List.getElem?_drop, h.2 _ (fun q => by have := hk _ q; omega), mW_get hC]
    rw [← e, List.take_append_drop]
  · by_cases c : k < 123
    · rw [List.getElem?_take_of_lt c, h.2 k hq, mW_low hC _ _ _ c]
    · rw [List.getElem?_eq_none (by rw [List.length_take]; omega), List.getElem?_eq_none (by omega)]
/-- what the model does keeps the class's cells -/
theorem mW_m {C : MW} (hC : C.length = 123) (F F' : Nat → Int32) (v v' : Int64) (ar ar' : Nat → Nat → Int32) : Chg (List.range' 123 7) (mW C F v ar) (mW C F' v' ar') := by
  refine ⟨by rw [mW_len hC, mW_len hC], fun k hk => ?_⟩
  by_cases c : k < 123
  · rw [mW_low hC _ _ _ c, mW_low hC _ _ _ c]
  · have : 130 ≤ k := by
      rw [List.mem_range'_1] at hk
      omega
    rw [List.getElem?_eq_none (by rw [mW_len hC]; omega), List.getElem?_eq_none (by rw [mW_len hC]; omega)]
theorem CS.m {C : MW} (hC : C.length = 123) {F : Nat → Int32} {v : Int64} {ar : Nat → Nat → Int32} {hs : Nat → List Nat} {fg : Nat → Int32} (h : CS (mW C F v ar) hs fg) (F' : Nat → Int32) (v' : Int64) (ar' : Nat → Nat → Int32) : CS (mW C F' v' ar') hs fg :=
  h.chg (mW_m hC F F' v v' ar ar') (fun k hk => by rw [List.mem_range'_1] at hk; omega)
theorem CP.m {C : MW} (hC : C.length = 123) {F : Nat → Int32} {v : Int64} {ar : Nat → Nat → Int32} {n : Nat} {V : List AS} (h : CP (mW C F v ar) n V) (F' : Nat → Int32) (v' : Int64) (ar' : Nat → Nat → Int32) : CP (mW C F' v' ar') n V :=
  h.chg (mW_m hC F F' v v' ar ar') (fun k hk => by rw [List.mem_range'_1] at hk; omega)
/-- the top object -/
def C0 (w : MW) : Prop := ∃ a b, w[0]? = some (.inr (10, [.ref 1, .ref 31, .ref 85, .ref 87, .ref 89, .ref 91, .ref 95, .int a, .int b]))
theorem C0.chg {ks : List Nat} {w w' : MW} (h : C0 w) (C : Chg ks w w') (hk : 0 ∉ ks) : C0 w' := by
  obtain ⟨a, b, h⟩ := h
  exact ⟨a, b, C.at hk h⟩
/-- an act of the class: kept first, then settled -/
def actOf (f : MW → Nat → Option (Int32 × MW)) (fu : Nat) (w : MW) : Option (Int32 × MW) :=
  (gR w 10 0 1).bind fun x1 =>
  (gR w 10 0 0).bind fun x2 =>
  (cl w 3 x1 (f_X3_prepare fu w x1 x2)).bind fun q3 =>
  (gR q3 10 0 1).bind fun x6 =>
  (gR q3 10 0 0).bind fun x7 =>
  (cl q3 7 x7 (f q3 x7)).bind fun q8 =>
  (cl q8.2 3 x6 (f_X3_settle q8.2 x6 q8.1)).bind fun q11 =>
  some (q11.1, q11.2)
def actKs : List Nat := List.range' 1 30 ++ List.range' 31 54
theorem actKs_iff (k : Nat) : k ∈ actKs ↔ 1 ≤ k ∧ k < 85 := by
  unfold actKs
  rw [List.mem_append, List.mem_range'_1, List.mem_range'_1]
  omega
theorem cact {s s' : AS} (O : AOK s.1) {fu : Nat} (hfu : 100 ≤ fu) {w : MW} (T : C0 w) (h : CS w s.1 s.2) {n : Nat} {V : List AS} (P : CP w n V) {f : MW → Nat → Option (Int32 × MW)} {x : Int32} {ks : List Nat} (hks : ∀ k, k ∈ ks → 1 ≤ k ∧ k < 31) (hf : ∀ u, Chg actKs w u → CS u s.1 s.2 → ∃ u', f u 1 = some (x, u') ∧ CS u' s'.1 s'.2 ∧ Chg ks u u') : ∃ w' n', actOf f fu w = some (x, w') ∧ CS w' s'.1 s'.2 ∧ CP w' n' (if x < 0 then V else kept V s) ∧ Chg actKs w w' := by
  have m0 : (0 : Nat) ∉ actKs := fun q => by rw [actKs_iff] at q; omega
  obtain ⟨w1, a1, a2, a3, a4, a5⟩ := prepare_ok O hfu h P
  have k1 : Chg actKs w w1 := a5.mono (fun k hk => by have := P.1; rw [actKs_iff]; simp at hk; omega)
  obtain ⟨w2, b1, b2, b3⟩ := hf w1 k1 a2
  have k2 : Chg actKs w1 w2 := b3.mono (fun k hk => by have := hks k hk; rw [actKs_iff]; omega)
  have P2 : CP w2 n V := a3.chg b3 (fun k hk => by have := hks k hk; omega)
  have S2 : SNP w2 (33 + 4 * n) s := a4.chg b3 (fun k hk => by have := hks k hk; omega)
  obtain ⟨a, b, t0⟩ := T
  have t1 := k1.at m0 t0
  have pre : actOf f fu w = (f_X3_settle w2 31 x).bind fun q11 => some (q11.1, q11.2) := by
    rw [actOf, gR_ob t0 rfl, some_bind', gR_ob t0 rfl, some_bind', P.cl, a1, some_bind', gR_ob t1 rfl, some_bind', gR_ob t1 rfl, some_bind', a2.cl, b1, some_bind', P2.cl]
  rw [pre]
  by_cases hx : x < 0
  · rw [settle_no hx, some_bind', if_pos hx]
    exact ⟨w2, n, rfl, b2, P2, k1.tr k2⟩
  · obtain ⟨w3, c1, c2, c3⟩ := settle_ok O P2 S2 hx
    rw [c1, some_bind', if_neg hx]
    exact ⟨w3, _, rfl, b2.chg c3 (fun k hk => by simp at hk; omega), c2, (k1.tr k2).tr (c3.mono (fun k hk => by simp at hk; rw [actKs_iff]; omega))⟩
/-- both sides hold the sets s, and V can be undone -/
def Core (C : MW) (F : Nat → Int32) (v : Int64) (ar : Nat → Nat → Int32) (s : AS) (V : List AS) (n : Nat) : Prop :=
  C.length = 123 ∧ C0 (mW C F v ar) ∧ CS (mW C F v ar) s.1 s.2 ∧ AOK s.1 ∧ CP (mW C F v ar) n V ∧ M8 (ar 0) 0 s ∧ MU (ar 0) V ∧ F 8 = nI V.length ∧ F 9 = nI 0
/-- what an act leaves alone -/
def Fr (C : MW) (F : Nat → Int32) (ar : Nat → Nat → Int32) (C' : MW) (F' : Nat → Int32) (ar' : Nat → Nat → Int32) : Prop :=
  (∀ k, k ∉ actKs → C'[k]? = C[k]?) ∧ (∀ k, k < 8 ∨ 22 < k → F' k = F k) ∧ (∀ k, 0 < k → k < 4 → ar' k = ar k) ∧ ∀ q, 13664 ≤ q → ar' 0 q = ar 0 q
theorem Fr.tr {C C1 C2 : MW} {F F1 F2 : Nat → Int32} {ar ar1 ar2 : Nat → Nat → Int32} (h : Fr C F ar C1 F1 ar1) (g : Fr C1 F1 ar1 C2 F2 ar2) : Fr C F ar C2 F2 ar2 :=
  ⟨fun k hk => (g.1 k hk).trans (h.1 k hk), fun k hk => (g.2.1 k hk).trans (h.2.1 k hk), fun k h1 h2 => (g.2.2.1 k h1 h2).trans (h.2.2.1 k h1 h2), fun q hq => (g.2.2.2 q hq).trans (h.2.2.2 q hq)⟩
theorem mbegins_no {C : MW} (hC : C.length = 123) {F : Nat → Int32} {v : Int64} {ar : Nat → Nat → Int32} {fu : Nat} {x : Int32} (hx : ¬ x = 0) : f_X11_begins fu (mW C F v ar) 123 x = some (x, mW C F v ar) := by
  rw [f_X11_begins, if_neg hx]
theorem mbegins_ok {C : MW} (hC : C.length = 123) {F : Nat → Int32} {v : Int64} {ar : Nat → Nat → Int32} {fu : Nat} (hfu : 20000 ≤ fu) {s : AS} {V : List AS} (O : ∀ q, q < 8 → SOK (s.1 q)) (M : M8 (ar 0) 0 s) (U : MU (ar 0) V) (h8 : F 8 = nI V.length) : ∃ al F', f_X11_begins fu (mW C F v ar) 123 0 = some (0, mW C F' v (ua ar 0 al)) ∧ M8 al 0 s ∧ MU al (kept V s) ∧ F' 8 = nI (kept V s).length ∧ (∀ k, k ≠ 8 → F' k = F k) ∧ ∀ q, q < 1952 ∨ 13664 ≤ q → al q = ar 0 q := by
  obtain ⟨al, F', g1, g2⟩ := mkeeps_ok hC (v := v) hfu O M U h8
  refine ⟨al, F', ?_, g2⟩
  rw [f_X11_begins, if_pos rfl, m_cl hC, g1, some_bind']
end
section
/-! acts, both sides -/
/-- what the class reckons with: shapes alone -/
def TSh (w : MW) : Prop := (∃ a b, w[3]? = some (.inr (8, [.ref 4, .ref 5, .ref 6, .ref 7, .ref 8, .ref 9, .ref 10, .int a, .int b]))) ∧ ∀ k, k < 7 → ∃ f, w[4 + k]? = some (.inl (.int, 61, .inl f))
def Sc (w : MW) : Prop := TSh w ∧ (∃ a b c d e, w[11]? = some (.inr (9, [.int a, .int b, .int c, .int d, .int e]))) ∧ (∃ f, w[12]? = some (.inl (.int, 8, .inl f))) ∧ w[29]? = some (.inr (2, [.ref 2, .ref 30])) ∧ ∃ f, w[30]? = some (.inl (.int, 8, .inl f))
theorem TSh.chg {ks : List Nat} {w w' : MW} (h : TSh w) (C : Chg ks w w') (hk : ∀ k, k ∈ ks → k < 3 ∨ 10 < k) : TSh w' := by
  obtain ⟨⟨a, b, h1⟩, h2⟩ := h
  refine ⟨⟨a, b, C.at (fun q => by have := hk _ q; omega) h1⟩, fun k hk' => ?_⟩
  obtain ⟨f, hf⟩ := h2 k hk'
  exact ⟨f, C.at (fun q => by have := hk _ q; omega) hf⟩
theorem Sc.chg {ks : List Nat} {w w' : MW} (h : Sc w) (C : Chg ks w w') (hk : ∀ k, k ∈ ks → k < 3 ∨ (12 < k ∧ k < 29) ∨ 30 < k) : Sc w' := by
  obtain ⟨h1, ⟨a, b, c, d, e, h2⟩, ⟨f, h3⟩, h4, ⟨g, h5⟩⟩ := h
  exact ⟨h1.chg C (fun k q => by have := hk _ q; omega), ⟨a, b, c, d, e, C.at (fun q => by have := hk _ q; omega) h2⟩, ⟨f, C.at (fun q => by have := hk _ q; omega) h3⟩, C.at (fun q => by have := hk _ q; omega) h4, ⟨g, C.at (fun q => by have := hk _ q; omega) h5⟩⟩
theorem Sc.m {C : MW} (hC : C.length = 123) {F : Nat → Int32} {v : Int64} {ar : Nat → Nat → Int32} (h : Sc (mW C F v ar)) (F' : Nat → Int32) (v' : Int64) (ar' : Nat → Nat → Int32) : Sc (mW C F' v' ar') :=
  h.chg (mW_m hC F F' v v' ar ar') (fun k hk => by rw [List.mem_range'_1] at hk; omega)
theorem C0.m {C : MW} (hC : C.length = 123) {F : Nat → Int32} {v : Int64} {ar : Nat → Nat → Int32} (h : C0 (mW C F v ar)) (F' : Nat → Int32) (v' : Int64) (ar' : Nat → Nat → Int32) : C0 (mW C F' v' ar') :=
  h.chg (mW_m hC F F' v v' ar ar') (fun hk => by rw [List.mem_range'_1] at hk; omega)
theorem hpl_sc : ∀ k, k ∈ hpl → 12 < k ∧ k < 29 := by decide
theorem Sc.hp {w w' : MW} (h : Sc w) (C : Chg hpl w w') : Sc w' := h.chg C (fun k hk => by have := hpl_sc k hk; omega)
theorem cact2 {s s' : AS} (O : AOK s.1) {fu : Nat} (hfu : 100 ≤ fu) {w : MW} (T : C0 w) (h : CS w s.1 s.2) (Z : Sc w) {n : Nat} {V : List AS} (P : CP w n V) {f : MW → Nat → Option (Int32 × MW)} {x : Int32} {ks : List Nat} (hks : ∀ k, k ∈ ks → 1 ≤ k ∧ k < 31) (hf : ∀ u, CS u s.1 s.2 → Sc u → ∃ u', f u 1 = some (x, u') ∧ CS u' s'.1 s'.2 ∧ Sc u' ∧ Chg ks u u') : ∃ w' n', actOf f fu w = some (x, w') ∧ CS w' s'.1 s'.2 ∧ Sc w' ∧ CP w' n' (if x < 0 then V else kept V s) ∧ Chg actKs w w' := by
  have m0 : (0 : Nat) ∉ actKs := fun q => by rw [actKs_iff] at q; omega
  obtain ⟨w1, a1, a2, a3, a4, a5⟩ := prepare_ok O hfu h P
  have k1 : Chg actKs w w1 := a5.mono (fun k hk => by have := P.1; rw [actKs_iff]; simp at hk; omega)
  have Z1 : Sc w1 := Z.chg a5 (fun k hk => by simp at hk; omega)
  obtain ⟨w2, b1, b2, b4, b3⟩ := hf w1 a2 Z1
  have k2 : Chg actKs w1 w2 := b3.mono (fun k hk => by have := hks k hk; rw [actKs_iff]; omega)
  have P2 : CP w2 n V := a3.chg b3 (fun k hk => by have := hks k hk; omega)
  have S2 : SNP w2 (33 + 4 * n) s := a4.chg b3 (fun k hk => by have := hks k hk; omega)
  obtain ⟨a, b, t0⟩ := T
  have t1 := k1.at m0 t0
  have pre : actOf f fu w = (f_X3_settle w2 31 x).bind fun q11 => some (q11.1, q11.2) := by
    rw [actOf, gR_ob t0 rfl, some_bind', gR_ob t0 rfl, some_bind', P.cl, a1, some_bind', gR_ob t1 rfl, some_bind', gR_ob t1 rfl, some_bind', a2.cl, b1, some_bind', P2.cl]
  rw [pre]
  by_cases hx : x < 0
  · rw [settle_no hx, some_bind', if_pos hx]
    exact ⟨w2, n, rfl, b2, b4, P2, k1.tr k2⟩
  · obtain ⟨w3, c1, c2, c3⟩ := settle_ok O P2 S2 hx
    rw [c1, some_bind', if_neg hx]
    exact ⟨w3, _, rfl, b2.chg c3 (fun k hk => by simp at hk; omega), b4.chg c3 (fun k hk => by simp at hk; omega), c2, (k1.tr k2).tr (c3.mono (fun k hk => by simp at hk; rw [actKs_iff]; omega))⟩
/-- an act of the model -/
def mactOf (R : MW → Option Int32) (D : MW → Option (Int32 × MW)) (fu : Nat) (w : MW) : Option (Int32 × MW) :=
  (cl w 11 123 (R w)).bind fun q1 =>
  (cl w 11 123 (f_X11_begins fu w 123 q1)).bind fun q4 =>
  bnd q4.1 fun x7 =>
  if x7 ≤ 0 then D q4.2 else some ((-x7), q4.2)
/-- a finger is at a key, or at none -/
def FOK (s : AS) : Prop := ∀ i, i < 8 → s.2 i = -1 ∨ ∃ e ∈ s.1 i, s.2 i = nI (e / 2)
theorem FOK.up {s : AS} (h : FOK s) (i : Nat) (L : List Nat) : FOK (va_up s.1 i L, va_up s.2 i (-1)) := by
  intro j hj
  by_cases c : j = i
  · subst c; exact Or.inl (vu_eq _ _ _)
  · simp only [vu_ne _ _ c]; exact h j hj
theorem FOK.give {s : AS} (h : FOK s) (i j r n : Nat) : FOK (giveA s i j r n) := by
  unfold giveA
  exact (h.up i _).up j _
def Good (C : MW) (F : Nat → Int32) (v : Int64) (ar : Nat → Nat → Int32) (s : AS) (V : List AS) (n : Nat) : Prop := Core C F v ar s V n ∧ Sc (mW C F v ar) ∧ FOK s ∧ ∀ W ∈ V, FOK W
/-- both sides answer alike, and hold s' and V' then -/
def Res (C : MW) (F : Nat → Int32) (ar : Nat → Nat → Int32) (s' : AS) (V' : List AS) (p : Option (Int32 × MW)) (q : MW → Option (Int32 × MW)) : Prop :=
  ∃ x w1 C' F' v' ar' n', p = some (x, w1) ∧ q w1 = some (x, mW C' F' v' ar') ∧ cl w1 11 123 (q w1) = q w1 ∧ Good C' F' v' ar' s' V' n' ∧ Fr C F ar C' F' ar'
theorem MU.same {al al' : Nat → Int32} {V : List AS} (U : MU al V) (h : ∀ q, 976 ≤ q → al' q = al q) : MU al' V :=
  ⟨U.1, fun t ht => ⟨(U.2 t ht).1.copy (U.2 t ht).2 (fun q _ => h _ (by omega)), (U.2 t ht).2⟩⟩
theorem kept_fok {s : AS} {V : List AS} (h : FOK s) (hV : ∀ W ∈ V, FOK W) : ∀ W ∈ kept V s, FOK W := by
  intro W hW
  unfold kept at hW
  rcases List.mem_append.mp hW with q | q
  · split at q
    · exact hV W (List.mem_of_mem_drop q)
    · exact hV W q
  · rw [List.mem_singleton.mp q]; exact h
theorem act_resq {C : MW} {F : Nat → Int32} {v : Int64} {ar : Nat → Nat → Int32} {s : AS} {V : List AS} {n : Nat} (G : Good C F v ar s V n) {fu : Nat} (hfu : 20000 ≤ fu) {s' : AS} (hO : AOK s'.1) (hFO : FOK s → FOK s') {x : Int32} {f : MW → Nat → Option (Int32 × MW)} {ks : List Nat} (hks : ∀ k, k ∈ ks → 1 ≤ k ∧ k < 31) (hf : ∀ u, CS u s.1 s.2 → Sc u → ∃ u', f u 1 = some (x, u') ∧ CS u' s'.1 s'.2 ∧ Sc u' ∧ Chg ks u u') (hx : x < 0 → s' = s ∧ (x = -1 ∨ x = -2 ∨ x = -3 ∨ x = -4)) {R : MW → Option Int32} {D : MW → Option (Int32 × MW)} (hR : ∀ C', C'.length = 123 → R (mW C' F v ar) = some (if x < 0 then -x else 0)) (hD : ¬ x < 0 → ∀ C' F' al, C'.length = 123 → (∀ k, k ≠ 8 → F' k = F k) → M8 al 0 s → ∃ F'' v'' ar', D (mW C' F' v (ua ar 0 al)) = some (x, mW C' F'' v'' ar') ∧ M8 (ar' 0) 0 s' ∧ (∀ q, 976 ≤ q → ar' 0 q = al q) ∧ (∀ k, k < 10 ∨ 22 < k → F'' k = F' k) ∧ ∀ k, 0 < k → k < 4 → ar' k = ar k) {Q : MW → Option (Int32 × MW)} (hQ : ∀ C', C'.length = 123 → Q (mW C' F v ar) = mactOf R D fu (mW C' F v ar)) : Res C F ar s' (if x < 0 then V else kept V s) (actOf f fu (mW C F v ar)) Q := by
  obtain ⟨⟨hC, T, h, O, P, M, U, h8, h9⟩, Z, FO, FV⟩ := G
  obtain ⟨w', n', a1, a2, a3, a4, a5⟩ := cact2 O (show 100 ≤ fu by omega) T h Z P hks hf
  obtain ⟨C', b1, b2, b3⟩ := mW_chg hC a5 (fun k hk => by rw [actKs_iff] at hk; omega)
  have T1 : C0 w' := T.chg a5 (fun hk => by rw [actKs_iff] at hk; omega)
  subst b2
  by_cases c : x < 0
  · obtain ⟨e1, e2⟩ := hx c
    subst e1
    refine ⟨x, _, C', F, v, ar, n', a1, ?_, m_cl b1 _ _ _ _, ⟨⟨b1, T1, a2, O, a4, M, ?_, ?_, h9⟩, a3, FO, by rw [if_pos c]; exact FV⟩, b3, fun _ _ => rfl, fun _ _ _ => rfl, fun _ _ => rfl⟩
    · rw [hQ C' b1]
      unfold mactOf
      rw [hR C' b1, if_pos c, m_cl b1, some_bind', m_cl b1]
      rcases e2 with rfl | rfl | rfl | rfl
      · rw [mbegins_no b1 (by decide), some_bind', bnd_eq]; rfl
      · rw [mbegins_no b1 (by decide), some_bind', bnd_eq]; rfl
      · rw [mbegins_no b1 (by decide), some_bind', bnd_eq]; rfl
      · rw [mbegins_no b1 (by decide), some_bind', bnd_eq]; rfl
    · rw [if_pos c]; exact U
    · rw [if_pos c]; exact h8
  · obtain ⟨al, F', g1, g2, g3, g4, g5, g6⟩ := mbegins_ok b1 (v := v) hfu O.1 M U h8
    obtain ⟨F'', v'', ar', k1, k2, k3, k4, k5⟩ := hD c C' F' al b1 g5 g2
    refine ⟨x, _, C', F'', v'', ar', n', a1, ?_, m_cl b1 _ _ _ _, ⟨⟨b1, T1.m b1 _ _ _, a2.m b1 _ _ _, hO, a4.m b1 _ _ _, k2, ?_, ?_, ?_⟩, a3.m b1 _ _ _, hFO FO, by rw [if_neg c]; exact kept_fok FO FV⟩, b3, fun k hk => ?_, k5, fun q hq => ?_⟩
    · rw [hQ C' b1]
      unfold mactOf
      rw [hR C' b1, if_neg c, m_cl b1, some_bind', m_cl b1, g1, some_bind', bnd_eq, if_pos (show (0 : Int32) ≤ 0 by decide), k1]
    · rw [if_neg c]; exact g3.same k3
    · rw [if_neg c, k4 8 (by omega), g4]
    · rw [k4 9 (by omega), g5 9 (by omega), h9]
    · rw [k4 k (by omega), g5 k (by omega)]
    · rw [k3 q (by omega), g6 q (by omega)]
theorem act_res {C : MW} {F : Nat → Int32} {v : Int64} {ar : Nat → Nat → Int32} {s : AS} {V : List AS} {n : Nat} (G : Good C F v ar s V n) {fu : Nat} (hfu : 20000 ≤ fu) {s' : AS} (hO : AOK s'.1) (hFO : FOK s → FOK s') {x : Int32} {f : MW → Nat → Option (Int32 × MW)} {ks : List Nat} (hks : ∀ k, k ∈ ks → 1 ≤ k ∧ k < 31) (hf : ∀ u, CS u s.1 s.2 → Sc u → ∃ u', f u 1 = some (x, u') ∧ CS u' s'.1 s'.2 ∧ Sc u' ∧ Chg ks u u') (hx : x < 0 → s' = s ∧ (x = -1 ∨ x = -2 ∨ x = -3 ∨ x = -4)) {R : MW → Option Int32} {D : MW → Option (Int32 × MW)} (hR : ∀ C', C'.length = 123 → R (mW C' F v ar) = some (if x < 0 then -x else 0)) (hD : ¬ x < 0 → ∀ C' F' al, C'.length = 123 → (∀ k, k ≠ 8 → F' k = F k) → M8 al 0 s → ∃ F'' v'' ar', D (mW C' F' v (ua ar 0 al)) = some (x, mW C' F'' v'' ar') ∧ M8 (ar' 0) 0 s' ∧ (∀ q, 976 ≤ q → ar' 0 q = al q) ∧ (∀ k, k < 10 ∨ 22 < k → F'' k = F' k) ∧ ∀ k, 0 < k → k < 4 → ar' k = ar k) : Res C F ar s' (if x < 0 then V else kept V s) (actOf f fu (mW C F v ar)) (mactOf R D fu) :=
  act_resq G hfu hO hFO hks hf hx hR hD (fun _ _ => rfl)
theorem act_bad {C : MW} {F : Nat → Int32} {v : Int64} {ar : Nat → Nat → Int32} {s : AS} {V : List AS} {n : Nat} (G : Good C F v ar s V n) {fu : Nat} (hfu : 20000 ≤ fu) {f : MW → Nat → Option (Int32 × MW)} (hf : ∀ u, CS u s.1 s.2 → f u 1 = some (-1, u)) {R : MW → Option Int32} {D : MW → Option (Int32 × MW)} (hR : ∀ C', C'.length = 123 → R (mW C' F v ar) = some 1) : Res C F ar s V (actOf f fu (mW C F v ar)) (mactOf R D fu) := by
  have := act_res (D := D) (R := R) (x := -1) (ks := []) G hfu G.1.2.2.2.1 id (by simp) (f := f) (fun u h1 h2 => ⟨u, hf u h1, h1, h2, Chg.rf _ _⟩) (fun _ => ⟨rfl, Or.inl rfl⟩) (fun C' hC' => by rw [hR C' hC', if_pos (by decide)]; rfl) (fun c => absurd (by decide) c)
  rw [if_pos (by decide)] at this
  exact this
/-- the model's rows hold s at b -/
def MB (C : MW) (F : Nat → Int32) (ar : Nat → Nat → Int32) (b : Nat) (s : AS) : Prop := C.length = 123 ∧ F 9 = nI b ∧ b ≤ 976 ∧ M8 (ar 0) b s ∧ ∀ i, i < 8 → SOK (s.1 i)
section MBs
variable {C : MW} {F : Nat → Int32} {v : Int64} {ar : Nat → Nat → Int32} {b : Nat} {s : AS}
theorem MB.cl {α : Type} (B : MB C F ar b s) (x : Option α) : cl (mW C F v ar) 11 123 x = x := m_cl B.1 _ _ _ x
theorem MB.many (B : MB C F ar b s) {i : Nat} (hi : i < 8) : f_X11_many (mW C F v ar) 123 (nI i) = some (nI (s.1 i).length) := many_ok B.1 B.2.1 B.2.2.1 hi (B.2.2.2.1 i hi)
theorem MB.key (B : MB C F ar b s) {i j : Nat} (hi : i < 8) (hj : j < (s.1 i).length) : f_X11_keyAt (mW C F v ar) 123 (nI i) (nI j) = some (nI (nth (s.1 i) j / 2)) := mkeyAt_ok B.1 B.2.1 B.2.2.1 hi (B.2.2.2.1 i hi) (B.2.2.2.2 i hi) hj
theorem MB.mark (B : MB C F ar b s) {i j : Nat} (hi : i < 8) (hj : j < (s.1 i).length) : f_X11_markAt (mW C F v ar) 123 (nI i) (nI j) = some (nI (nth (s.1 i) j % 2)) := mmarkAt_ok B.1 B.2.1 B.2.2.1 hi (B.2.2.2.1 i hi) (B.2.2.2.2 i hi) hj
theorem MB.finger (B : MB C F ar b s) {i : Nat} (hi : i < 8) : f_X11_finger (mW C F v ar) 123 (nI i) = some (s.2 i) := mfinger_ok B.1 B.2.1 B.2.2.1 hi (B.2.2.2.1 i hi)
theorem MB.below (B : MB C F ar b s) {i : Nat} (hi : i < 8) {fu : Nat} (hfu : 100 ≤ fu) (x : Int32) : f_X11_below fu (mW C F v ar) 123 (nI i) x = some (nI (bel (s.1 i) x)) := mbelow_ok B.1 B.2.1 B.2.2.1 hi (B.2.2.2.1 i hi) (B.2.2.2.2 i hi) hfu x
theorem MB.place (B : MB C F ar b s) {i : Nat} (hi : i < 8) {fu : Nat} (hfu : 100 ≤ fu) (x : Int32) : f_X11_placeOf fu (mW C F v ar) 123 (nI i) x = some (plc (s.1 i) x) := mplace_ok B.1 B.2.1 B.2.2.1 hi (B.2.2.2.1 i hi) (B.2.2.2.2 i hi) hfu x
theorem MB.counted (B : MB C F ar b s) {i : Nat} (hi : i < 8) {fu : Nat} (hfu : 100 ≤ fu) (x y : Int32) : f_X11_counted fu (mW C F v ar) 123 (nI i) x y = some (nI (hmb (s.1 i) x y)) := by
  rw [mcounted_ok B.1 B.2.1 B.2.2.1 hi (B.2.2.2.1 i hi) (B.2.2.2.2 i hi) hfu x y, cnt_hmb x y _ (B.2.2.2.2 i hi)]
theorem MB.total (B : MB C F ar b s) {fu : Nat} (hfu : 100 ≤ fu) : f_X11_total fu (mW C F v ar) 123 = some (nI (smF (fun i => (s.1 i).length) 0 8)) := mtotal_ok B.1 B.2.1 B.2.2.1 hfu (ln := fun i => (s.1 i).length) (fun t ht => (B.2.2.2.1 t ht).1)
end MBs
theorem Core.mb {C : MW} {F : Nat → Int32} {v : Int64} {ar : Nat → Nat → Int32} {s : AS} {V : List AS} {n : Nat} (G : Core C F v ar s V n) : MB C F ar 0 s := ⟨G.1, G.2.2.2.2.2.2.2.2, by omega, G.2.2.2.2.2.1, G.2.2.2.1.1⟩
theorem mSet_in {i : Nat} (hi : i < 8) : f_X11_isSet (nI i) = 1 := by
  rw [f_X11_isSet, f_X11_isIn, if_neg (nI_pos (by omega)), if_neg (show ¬ (7 : Int32) < nI i from nI_nlt (a := 7) (by omega) (by omega))]
theorem mSet_out {x : Int32} (h : x < 0 ∨ 8 ≤ x) : f_X11_isSet x = 0 := by
  rw [f_X11_isSet, f_X11_isIn]
  by_cases c : x < 0
  · rw [if_pos c]
  · rw [if_neg c, if_pos (Int32.lt_of_lt_of_le (by decide) (h.resolve_left c))]
theorem mKey_in {k : Nat} (hk : k < 10000) : f_X11_isKey (nI k) = 1 := by
  rw [f_X11_isKey, f_X11_isIn, if_neg (nI_pos (by omega)), if_neg (show ¬ (9999 : Int32) < nI k from nI_nlt (a := 9999) (by omega) (by omega))]
theorem mKey_out {x : Int32} (h : x < 0 ∨ 9999 < x) : f_X11_isKey x = 0 := by
  rw [f_X11_isKey, f_X11_isIn]
  by_cases c : x < 0
  · rw [if_pos c]
  · rw [if_neg c, if_pos (h.resolve_left c)]
theorem mTwo_in {w : MW} {p i j : Nat} (hi : i < 8) (hj : j < 8) (hij : i ≠ j) : f_X11_areTwo w p (nI i) (nI j) = some 1 := by
  rw [f_X11_areTwo, mSet_in hi, mSet_in hj, if_neg (by decide), if_neg (by decide), if_neg (set_ne hi hj hij)]
/-- two sets that are such, or not -/
theorem two_cases (x y : Int32) : (∃ i j, i < 8 ∧ j < 8 ∧ i ≠ j ∧ x = nI i ∧ y = nI j) ∨ ((x < 0 ∨ 8 ≤ x) ∨ (y < 0 ∨ 8 ≤ y) ∨ x = y) := by
  rcases set_cases x with ⟨i, hi, rfl⟩ | h
  · rcases set_cases y with ⟨j, hj, rfl⟩ | h
    · by_cases c : i = j
      · subst c; exact Or.inr (Or.inr (Or.inr rfl))
      · exact Or.inl ⟨i, j, hi, hj, c, rfl, rfl⟩
    · exact Or.inr (Or.inr (Or.inl h))
  · exact Or.inr (Or.inl h)
theorem mTwo_out {w : MW} {p : Nat} {x y : Int32} (h : (x < 0 ∨ 8 ≤ x) ∨ (y < 0 ∨ 8 ≤ y) ∨ x = y) : f_X11_areTwo w p x y = some 0 := by
  rw [f_X11_areTwo]
  by_cases c1 : f_X11_isSet x = 0
  · rw [if_pos c1]
  · rw [if_neg c1]
    by_cases c2 : f_X11_isSet y = 0
    · rw [if_pos c2]
    · rw [if_neg c2, if_pos]
      rcases h with h | h | h
      · exact absurd (mSet_out h) c1
      · exact absurd (mSet_out h) c2
      · exact h
theorem smF8 (f : Nat → Nat) : smF f 0 8 = f 0 + f 1 + f 2 + f 3 + f 4 + f 5 + f 6 + f 7 := by
  simp [smF, List.range']; omega
theorem tot_up (hs : Nat → List Nat) {i : Nat} (hi : i < 8) (L : List Nat) : smF (fun t => (va_up hs i L t).length) 0 8 + (hs i).length = smF (fun t => (hs t).length) 0 8 + L.length := by
  rw [smF8, smF8]
  have : i = 0 ∨ i = 1 ∨ i = 2 ∨ i = 3 ∨ i = 4 ∨ i = 5 ∨ i = 6 ∨ i = 7 := by omega
  rcases this with rfl | rfl | rfl | rfl | rfl | rfl | rfl | rfl <;> simp [va_up] <;> omega
theorem AOK_up {hs : Nat → List Nat} (O : AOK hs) {i : Nat} (hi : i < 8) {L : List Nat} (S : SOK L) (ht : smF (fun t => (hs t).length) 0 8 + L.length ≤ 240 + (hs i).length) : AOK (va_up hs i L) := by
  refine ⟨fun j hj => ?_, ?_⟩
  · by_cases c : j = i
    · subst c; rw [vu_eq]; exact S
    · rw [vu_ne _ _ c]; exact O.1 j hj
  · have := tot_up hs hi L
    omega
theorem AOK_up2 {hs : Nat → List Nat} (O : AOK hs) {i j : Nat} (hi : i < 8) (hj : j < 8) (hij : i ≠ j) {L M : List Nat} (S : SOK L) (S2 : SOK M) (ht : L.length + M.length ≤ (hs i).length + (hs j).length) : AOK (va_up (va_up hs i L) j M) := by
  refine ⟨fun k hk => ?_, ?_⟩
  · by_cases c : k = j
    · subst c; rw [vu_eq]; exact S2
    · rw [vu_ne _ _ c]
      by_cases c2 : k = i
      · subst c2; rw [vu_eq]; exact S
      · rw [vu_ne _ _ c2]; exact O.1 k hk
  · have h1 := tot_up hs hi L
    have h2 := tot_up (va_up hs i L) hj M
    rw [vu_ne _ _ (Ne.symm hij)] at h2
    have := O.2
    omega
end
section
/-! PUT, DROP, CUT, JOIN, MOVE, UNDO: both sides -/
def wOf (x : Int32) : Int32 := if x < 0 then -x else 0
theorem wOf_1 : wOf (-1) = 1 := by decide
theorem wOf_2 : wOf (-2) = 2 := by decide
theorem wOf_3 : wOf (-3) = 3 := by decide
theorem wOf_4 : wOf (-4) = 4 := by decide
theorem wOf_n {n : Nat} (h : n < 2 ^ 31) : wOf (nI n) = 0 := if_neg (nI_pos h)
/-- an answer of an act: a reason, or not below 0 -/
def RZ (s : AS) (x : Int32 × AS) : Prop := x.1 < 0 → x.2 = s ∧ (x.1 = -1 ∨ x.1 = -2 ∨ x.1 = -3 ∨ x.1 = -4)
def xPut (s : AS) (i k : Nat) : Int32 × AS :=
  if ¬ plc (s.1 i) (nI k) = -1 then (-2, s)
  else if 60 ≤ (s.1 i).length ∨ 240 ≤ smF (fun i => (s.1 i).length) 0 8 then (-4, s)
  else (nI (bel (s.1 i) (nI k)), (va_up s.1 i (insAt (s.1 i) (bel (s.1 i) (nI k)) [2 * k]), va_up s.2 i (-1)))
theorem cput2 {w : MW} {s : AS} (h : CS w s.1 s.2) (O : AOK s.1) {fu : Nat} (hfu : 100 ≤ fu) {i k : Nat} (hi : i < 8) (hk : k < 10000) : ∃ w', f_X7_putKey fu w 1 (nI i) (nI k) = some ((xPut s i k).1, w') ∧ CS w' (xPut s i k).2.1 (xPut s i k).2.2 ∧ Chg hpl w w' := by
  have e : aPut s.1 s.2 (nI i) (nI k) = ((xPut s i k).1, (xPut s i k).2.1, (xPut s i k).2.2) := by
    have ei : (nI i).toNatClampNeg = i := nI_clamp (by omega)
    have ek : (nI k).toNatClampNeg = k := nI_clamp (by omega)
    unfold aPut xPut
    rw [ei, ek, if_neg (not_not_intro ⟨(in_set hi).1, (in_set hi).2, (in_key hk).1, (in_key hk).2⟩)]
  have := cput_ok h O hfu (nI i) (nI k)
  rw [e] at this
  exact this
theorem nneg {n : Nat} (h : n < 2 ^ 31) : ¬ (nI n, (as0 : AS)).1 < 0 := nI_pos h
theorem xPut_rz {s : AS} (O : AOK s.1) {i k : Nat} (hi : i < 8) (hk : k < 10000) : RZ s (xPut s i k) ∧ AOK (xPut s i k).2.1 := by
  have S := O.1 i hi
  have hl := S.len
  have hb := bel_le (s.1 i) (nI k)
  unfold xPut
  by_cases c1 : ¬ plc (s.1 i) (nI k) = -1
  · rw [if_pos c1]; exact ⟨fun _ => ⟨rfl, by simp⟩, O⟩
  · rw [if_neg c1]
    by_cases c2 : 60 ≤ (s.1 i).length ∨ 240 ≤ smF (fun i => (s.1 i).length) 0 8
    · rw [if_pos c2]; exact ⟨fun _ => ⟨rfl, by simp⟩, O⟩
    · rw [if_neg c2]
      refine ⟨fun q => absurd q (nI_pos (by omega)), AOK_up O hi ?_ ?_⟩
      · have := SOK_ins S (by omega) (e := 2 * k) (by omega) (by
          have := (plc_iff S (by omega)).mp (Decidable.not_not.mp c1)
          intro x hx
          rw [show 2 * k / 2 = k by omega]
          exact this x hx)
        rw [show 2 * k / 2 = k by omega] at this
        exact this
      · rw [insAt_len hb]
        show _ + ((s.1 i).length + 1) ≤ _
        omega
section M
variable {C : MW} {F : Nat → Int32} {v : Int64} {ar : Nat → Nat → Int32} {b : Nat} {s : AS}
theorem mrPut (B : MB C F ar b s) (ht : smF (fun i => (s.1 i).length) 0 8 ≤ 240) {fu : Nat} (hfu : 100 ≤ fu) {i k : Nat} (hi : i < 8) (hk : k < 10000) : f_X11_refusesPut fu (mW C F v ar) 123 (nI i) (nI k) = some (wOf (xPut s i k).1) := by
  have hl := (B.2.2.2.2 i hi).len
  have hb := bel_le (s.1 i) (nI k)
  rw [f_X11_refusesPut, mSet_in hi, mKey_in hk, if_neg (by decide), if_neg (by decide), B.cl, B.place hi hfu, some_bind']
  unfold xPut
  by_cases c1 : plc (s.1 i) (nI k) = -1
  · rw [if_pos c1, if_neg (not_not_intro c1), B.cl, B.many hi, some_bind']
    by_cases c2 : (s.1 i).length = 60
    · rw [if_pos (by rw [c2]; rfl), if_pos (Or.inl (by omega)), wOf_4]
    · rw [if_neg (show ¬ nI (s.1 i).length = (60 : Int32) from fun q => c2 ((nI_eq (b := 60) (by omega) (by omega)).mp q)), B.cl, B.total hfu, some_bind']
      by_cases c3 : smF (fun i => (s.1 i).length) 0 8 = 240
      · rw [if_pos (by rw [c3]; rfl), if_pos (Or.inr (by omega)), wOf_4]
      · rw [if_neg (show ¬ nI (smF (fun i => (s.1 i).length) 0 8) = (240 : Int32) from fun q => c3 ((nI_eq (b := 240) (by omega) (by omega)).mp q)), if_neg (by omega)]
        show _ = some (wOf (nI _))
        rw [wOf_n (by omega)]
  · rw [if_neg c1, if_pos c1, wOf_2]
theorem mputs2 (B : MB C F ar b s) {fu : Nat} (hfu : 100 ≤ fu) {i k : Nat} (hi : i < 8) (hk : k < 10000) (hx : ¬ (xPut s i k).1 < 0) : ∃ al, f_X11_puts fu (mW C F v ar) 123 (nI i) (nI k) (nI 0) = some (mW C F v (ua ar 0 al)) ∧ M8 al b (xPut s i k).2 ∧ (xPut s i k).1 = nI (bel (s.1 i) (nI k)) ∧ (∀ q, q < b ∨ b + 976 ≤ q → al q = ar 0 q) := by
  have S := B.2.2.2.2 i hi
  unfold xPut at hx ⊢
  by_cases c1 : ¬ plc (s.1 i) (nI k) = -1
  · rw [if_pos c1] at hx; exact absurd (show (-2 : Int32) < 0 by decide) hx
  · rw [if_neg c1] at hx ⊢
    by_cases c2 : 60 ≤ (s.1 i).length ∨ 240 ≤ smF (fun i => (s.1 i).length) 0 8
    · rw [if_pos c2] at hx; exact absurd (show (-4 : Int32) < 0 by decide) hx
    · rw [if_neg c2]
      obtain ⟨al, g1, g2, g3⟩ := mputs_ok (v := v) B.1 B.2.1 B.2.2.1 hi (B.2.2.2.1 i hi) S hfu (by omega) (k := k) (m := 0) (by omega)
      exact ⟨al, g1, B.2.2.2.1.put B.2.2.2.2 hi g2 g3, rfl, fun q hq => g3 q (by omega)⟩
theorem MB.al (B : MB C F ar b s) {s' : AS} {ar' : Nat → Nat → Int32} (M : M8 (ar' 0) b s') (O : ∀ i, i < 8 → SOK (s'.1 i)) : MB C F ar' b s' := ⟨B.1, B.2.1, B.2.2.1, M, O⟩
/-- below of a key that has come is its place -/
theorem bel_ins {L : List Nat} (S : SOK L) {k m : Nat} (hk : k < 10000) (hm : m ≤ 1) (hl : L.length < 60) (hn : plc L (nI k) = -1) : bel (insAt L (bel L (nI k)) [2 * k + m]) (nI k) = bel L (nI k) := by
  have hb := bel_le L (nI k)
  have e1 : (2 * k + m) / 2 = k := by omega
  have S2 := SOK_ins S hl (e := 2 * k + m) (by omega) (by rw [e1]; exact (plc_iff S (by omega)).mp hn)
  rw [e1] at S2
  refine bel_eq S2 (by rw [insAt_len hb]; omega) (fun j hj => ?_) (fun j h1 h2 h3 => ?_)
  · rw [nth_insAt hb, if_pos hj]
    exact (bel_iff (nI k) L S j (by omega)).mp hj
  · rw [nth_insAt hb, if_neg (by omega)] at h3
    have hl1 : ([2 * k + m] : List Nat).length = 1 := rfl
    rw [insAt_len hb, hl1] at h2
    rw [hl1] at h3
    by_cases c : j < bel L (nI k) + 1
    · rw [if_pos c, show j - bel L (nI k) = 0 by omega, nth_0, e1] at h3
      exact absurd h3 (Int32.not_lt.mpr (Int32.le_refl _))
    · rw [if_neg c] at h3
      have := (bel_iff (nI k) L S (j - 1) (by omega)).mpr h3
      omega
end M
theorem MB.F {C C' : MW} {F F' : Nat → Int32} {ar ar' : Nat → Nat → Int32} {s s' : AS} {b : Nat} (B : MB C F ar b s) (hC : C'.length = 123) (h9 : F' 9 = F 9) (M : M8 (ar' 0) b s') (O : ∀ i, i < 8 → SOK (s'.1 i)) : MB C' F' ar' b s' := ⟨hC, by rw [h9]; exact B.2.1, B.2.2.1, M, O⟩
theorem cl_cases (w : MW) (c h : Nat) : (∀ (α : Type) (x : Option α), cl w c h x = x) ∨ (∀ (α : Type) (x : Option α), cl w c h x = none) := by
  unfold cl
  rcases w[h]? with _ | (y | ⟨d, fs⟩)
  · exact Or.inr (fun _ _ => rfl)
  · exact Or.inr (fun _ _ => rfl)
  · by_cases e : d = c
    · exact Or.inl (fun _ _ => by simp [e])
    · exact Or.inr (fun _ _ => by simp [e])
theorem mdrop_act {fu : Nat} {a b : Int32} : (fun w => f_X11_drop fu w 123 a b) = mactOf (fun w => if (f_X11_isSet a) = 0 then some 1 else if (f_X11_isKey b) = 0 then some 1 else (cl w 11 123 (f_X11_placeOf fu w 123 a b)).bind fun q => if q = -1 then some 2 else some 0) (fun w => (cl w 11 123 (f_X11_placeOf fu w 123 a b)).bind fun q5 => (cl w 11 123 (f_X11_drops fu w 123 a q5)).bind fun q8 => (cl q8 11 123 (f_X11_many q8 123 a)).bind fun q11 => some (q11, q8)) fu := by
  funext w
  unfold f_X11_drop mactOf f_X11_drop_34
  rcases cl_cases w 11 123 with h | h
  · simp only [h]
    by_cases c1 : f_X11_isSet a = 0
    · rw [if_pos c1, if_pos c1]; rfl
    · rw [if_neg c1, if_neg c1]
      by_cases c2 : f_X11_isKey b = 0
      · rw [if_pos c2, if_pos c2]; rfl
      · rw [if_neg c2, if_neg c2]
        rcases f_X11_placeOf fu w 123 a b with _ | q
        · rfl
        · rw [some_bind', some_bind']
          by_cases c3 : q = -1
          · rw [if_pos c3, if_pos c3]; rfl
          · rw [if_neg c3, if_neg c3]; rfl
  · simp only [h]
    by_cases c1 : f_X11_isSet a = 0
    · rw [if_pos c1]; rfl
    · rw [if_neg c1]
      by_cases c2 : f_X11_isKey b = 0
      · rw [if_pos c2]; rfl
      · rw [if_neg c2]; rfl
section R
variable {C : MW} {F : Nat → Int32} {v : Int64} {ar : Nat → Nat → Int32} {s : AS} {V : List AS} {n : Nat} {fu : Nat}
theorem hpl_31 : ∀ k, k ∈ hpl → 1 ≤ k ∧ k < 31 := by decide
theorem put_res (G : Good C F v ar s V n) (hfu : 20000 ≤ fu) (a b : Int32) : ∃ s' V', Res C F ar s' V' (f_X10_put fu (mW C F v ar) 0 a b) (fun w => f_X11_put fu w 123 a b) := by
  have e1 : f_X10_put fu (mW C F v ar) 0 a b = actOf (fun w p => f_X7_putKey fu w p a b) fu (mW C F v ar) := rfl
  have e2 : (fun w => f_X11_put fu w 123 a b) = mactOf (fun w => f_X11_refusesPut fu w 123 a b) (fun w => (cl w 11 123 (f_X11_puts fu w 123 a b (0 : Int32))).bind fun q8 => (cl q8 11 123 (f_X11_below fu q8 123 a b)).bind fun q11 => some (q11, q8)) fu := rfl
  rw [e1, e2]
  have B := G.1.mb
  have O := G.1.2.2.2.1
  have hfu2 : 100 ≤ fu := by omega
  rcases set_cases a with ⟨i, hi, rfl⟩ | ha
  · rcases key_cases b with ⟨k, hk, rfl⟩ | hb
    · obtain ⟨z1, z2⟩ := xPut_rz O hi hk
      have z3 : FOK s → FOK (xPut s i k).2 := fun h => by
        unfold xPut; split
        · exact h
        · split
          · exact h
          · exact h.up i _
      refine ⟨_, _, act_res G hfu z2 z3 hpl_31 (fun u hu hz => ?_) z1 (fun C' hC' => ?_) (fun hx C' F' al hC' hF hM => ?_)⟩
      · obtain ⟨u', g1, g2, g3⟩ := cput2 hu O hfu2 hi hk
        exact ⟨u', g1, g2, hz.hp g3, g3⟩
      · exact mrPut (B.F hC' rfl B.2.2.2.1 O.1) O.2 hfu2 hi hk
      · have B1 : MB C' F' (ua ar 0 al) 0 s := B.F hC' (hF 9 (by omega)) (by rw [ua_eq]; exact hM) O.1
        obtain ⟨al2, g1, g2, g3, g4⟩ := mputs2 (v := v) B1 hfu2 hi hk hx
        have B2 := B1.F (ar' := ua (ua ar 0 al) 0 al2) hC' rfl (by rw [ua_eq]; exact g2) z2.1
        refine ⟨F', v, ua (ua ar 0 al) 0 al2, ?_, by rw [ua_eq]; exact g2, fun q hq => by rw [ua_eq, g4 q (by omega), ua_eq], fun _ _ => rfl, fun k h1 h2 => by rw [ua_ne _ _ (by omega), ua_ne _ _ (by omega)]⟩
        rw [B1.cl, show (0 : Int32) = nI 0 from rfl, g1, some_bind', B2.cl, B2.below hi hfu2, some_bind', g3]
        congr 3
        unfold xPut at hx ⊢
        by_cases c1 : ¬ plc (s.1 i) (nI k) = -1
        · rw [if_pos c1] at hx; exact absurd (show (-2 : Int32) < 0 by decide) hx
        · rw [if_neg c1] at hx ⊢
          by_cases c2 : 60 ≤ (s.1 i).length ∨ 240 ≤ smF (fun i => (s.1 i).length) 0 8
          · rw [if_pos c2] at hx; exact absurd (show (-4 : Int32) < 0 by decide) hx
          · rw [if_neg c2]
            show bel (va_up s.1 i (insAt (s.1 i) (bel (s.1 i) (nI k)) [2 * k]) i) (nI k) = _
            rw [vu_eq]
            exact bel_ins (m := 0) (O.1 i hi) hk (by omega) (by omega) (Decidable.not_not.mp c1)
    · refine ⟨_, _, act_bad G hfu (fun u hu => ?_) (fun C' hC' => ?_)⟩
      · rw [f_X7_putKey, hu.cl, heapAt_in hu hi, some_bind']
        dsimp only
        rw [isKey_out hb, if_pos rfl]
      · rw [f_X11_refusesPut, mSet_in hi, mKey_out hb, if_neg (by decide), if_pos rfl]
  · refine ⟨_, _, act_bad G hfu (fun u hu => ?_) (fun C' hC' => ?_)⟩
    · rw [f_X7_putKey, hu.cl, heapAt_out ha, some_bind']
    · rw [f_X11_refusesPut, mSet_out ha, if_pos rfl]
theorem xDrop_rz (O : AOK s.1) {i k : Nat} (hi : i < 8) : RZ s (xDrop s i k) ∧ AOK (xDrop s i k).2.1 := by
  have S := O.1 i hi
  have hl := S.len
  have ht := O.2
  unfold xDrop
  by_cases c1 : plc (s.1 i) (nI k) = -1
  · rw [if_pos c1]; exact ⟨fun _ => ⟨rfl, by simp⟩, O⟩
  · rw [if_neg c1]
    obtain ⟨h1, h2⟩ := plc_ne c1
    refine ⟨fun q => absurd q (nI_pos (by omega)), AOK_up O hi ?_ ?_⟩
    · rw [← erase_cut]; exact SOK_erase S _
    · rw [cut_len (by omega)]; omega
theorem drop_res (G : Good C F v ar s V n) (hfu : 20000 ≤ fu) (a b : Int32) : ∃ s' V', Res C F ar s' V' (f_X10_drop fu (mW C F v ar) 0 a b) (fun w => f_X11_drop fu w 123 a b) := by
  have e1 : f_X10_drop fu (mW C F v ar) 0 a b = actOf (fun w p => f_X7_dropKey fu w p a b) fu (mW C F v ar) := rfl
  rw [e1]
  have B := G.1.mb
  have O := G.1.2.2.2.1
  have hfu2 : 100 ≤ fu := by omega
  rw [mdrop_act]
  rcases set_cases a with ⟨i, hi, rfl⟩ | ha
  · rcases key_cases b with ⟨k, hk, rfl⟩ | hb
    · obtain ⟨z1, z2⟩ := xDrop_rz (k := k) O hi
      have z3 : FOK s → FOK (xDrop s i k).2 := fun h => by
        unfold xDrop; split
        · exact h
        · exact h.up i _
      have hl := (O.1 i hi).len
      refine ⟨_, _, act_res G hfu z2 z3 hpl_31 (fun u hu hz => ?_) z1 (fun C' hC' => ?_) (fun hx C' F' al hC' hF hM => ?_)⟩
      · obtain ⟨u', g1, g2, g3⟩ := cdrop_ok hu O hfu2 hi hk
        exact ⟨u', g1, g2, hz.hp g3, g3⟩
      · have B1 : MB C' F ar 0 s := B.F hC' rfl B.2.2.2.1 O.1
        rw [mSet_in hi, mKey_in hk, if_neg (by decide), if_neg (by decide), B1.cl, B1.place hi hfu2, some_bind']
        show _ = some (wOf _)
        unfold xDrop
        by_cases c1 : plc (s.1 i) (nI k) = -1
        · rw [if_pos c1, if_pos c1, wOf_2]
        · rw [if_neg c1, if_neg c1, wOf_n (by omega)]
      · have B1 : MB C' F' (ua ar 0 al) 0 s := B.F hC' (hF 9 (by omega)) (by rw [ua_eq]; exact hM) O.1
        unfold xDrop at hx z2 ⊢
        by_cases c1 : plc (s.1 i) (nI k) = -1
        · rw [if_pos c1] at hx; exact absurd (show (-2 : Int32) < 0 by decide) hx
        · rw [if_neg c1] at z2 ⊢
          obtain ⟨h1, h2⟩ := plc_ne c1
          obtain ⟨al2, g1, g2, g3⟩ := mdrops_ok (v := v) B1.1 B1.2.1 B1.2.2.1 hi (B1.2.2.2.1 i hi) hl hfu2 h1
          rw [erase_cut] at g2
          have g4 := B1.2.2.2.1.put B1.2.2.2.2 hi g2 g3
          have B2 := B1.F (ar' := ua (ua ar 0 al) 0 al2) hC' rfl (by rw [ua_eq]; exact g4) z2.1
          refine ⟨F', v, ua (ua ar 0 al) 0 al2, ?_, by rw [ua_eq]; exact g4, fun q hq => by rw [ua_eq, g3 q (by omega), ua_eq], fun _ _ => rfl, fun k h1 h2 => by rw [ua_ne _ _ (by omega), ua_ne _ _ (by omega)]⟩
          rw [B1.cl, B1.place hi hfu2, some_bind', h2, B1.cl, g1, some_bind', B2.cl, B2.many hi, some_bind']
          dsimp only
          rw [vu_eq, cut_len (by omega)]
    · refine ⟨_, _, act_bad G hfu (fun u hu => ?_) (fun C' hC' => ?_)⟩
      · rw [f_X7_dropKey, hu.cl, heapAt_in hu hi, some_bind']
        dsimp only
        rw [isKey_out hb, if_pos rfl]
      · rw [mSet_in hi, mKey_out hb, if_neg (by decide), if_pos rfl]
  · refine ⟨_, _, act_bad G hfu (fun u hu => ?_) (fun C' hC' => ?_)⟩
    · rw [f_X7_dropKey, hu.cl, heapAt_out ha, some_bind']
    · rw [mSet_out ha, if_pos rfl]
theorem give_aok (O : AOK s.1) {i j r m : Nat} (hi : i < 8) (hj : j < 8) (hij : i ≠ j) (hr : r + m ≤ (s.1 i).length) (h : ∀ q, q < 8 → SOK ((giveA s i j r m).1 q)) : AOK (giveA s i j r m).1 := by
  have h1 := h i hi
  have h2 := h j hj
  unfold giveA at h1 h2 ⊢
  simp only [vu_eq, vu_ne _ _ hij] at h1 h2 ⊢
  refine AOK_up2 O hi hj hij h1 h2 ?_
  rw [cut_len hr, insAt_len (bel_le _ _), dt_len hr]
  omega
/-- the do-part of an act that is a stretch going over -/
theorem give_do (B : MB C F ar 0 s) {fu : Nat} (hfu : 100 ≤ fu) {i j r m : Nat} (hi : i < 8) (hj : j < 8) (hij : i ≠ j) {x y : Int32} (hcx : hmb (s.1 i) x y = m) (hbx : bel (s.1 i) x = r) (hn : 1 ≤ m) (hr : r + m ≤ (s.1 i).length) (hl : (s.1 j).length + m ≤ 60) (hno : ∀ z ∈ s.1 j, z / 2 < nth (s.1 i) r / 2 ∨ nth (s.1 i) (r + m - 1) / 2 < z / 2) {C' : MW} {F' : Nat → Int32} {al : Nat → Int32} (hC' : C'.length = 123) (hF : ∀ k, k ≠ 8 → F' k = F k) (hM : M8 al 0 s) : ∃ al2, f_X11_goOver fu (mW C' F' v (ua ar 0 al)) 123 (nI i) x y (nI j) = some (nI m, mW C' F' v (ua ar 0 al2)) ∧ M8 (ua ar 0 al2 0) 0 (giveA s i j r m) ∧ (∀ q, 976 ≤ q → ua ar 0 al2 0 q = al q) ∧ (∀ k, k < 10 ∨ 22 < k → F' k = F' k) ∧ ∀ k, 0 < k → k < 4 → ua ar 0 al2 k = ar k := by
  obtain ⟨al2, g1, g2, g3, g4⟩ := mgive (v := v) (C := C') (F := F') (ar := ua ar 0 al) hC' (by rw [hF 9 (by omega)]; exact B.2.1) (by omega) hi hj hij hfu B.2.2.2.2 (by rw [ua_eq]; exact hM) (x := x) (y := y) (by rw [cnt_hmb _ _ _ (B.2.2.2.2 i hi)]; exact hcx) hbx hn hr hl hno
  rw [ua_ua] at g1
  exact ⟨al2, g1, by rw [ua_eq]; exact g2, fun q hq => by rw [ua_eq, g4 q (by omega), ua_eq], fun _ _ => rfl, fun k h1 h2 => ua_ne _ _ (by omega)⟩
theorem cut_bad {u : MW} (hu : CS u s.1 s.2) {a b c : Int32} (h : ((a < 0 ∨ 8 ≤ a) ∨ (c < 0 ∨ 8 ≤ c) ∨ a = c) ∨ (b < 0 ∨ 9999 < b)) : f_X7_cutAbove fu u 1 a b c = some (-1, u) := by
  rw [f_X7_cutAbove, hu.cl]
  rcases set_cases a with ⟨i, hi, rfl⟩ | ha
  · rw [heapAt_in hu hi, some_bind']
    dsimp only
    rw [hu.cl]
    rcases set_cases c with ⟨j, hj, rfl⟩ | hc
    · rw [heapAt_in hu hj, some_bind']
      dsimp only
      by_cases e : nI i = nI j
      · rw [if_pos e]
      · rw [if_neg e, isKey_out, if_pos rfl]
        rcases h with (h | h | h) | h
        · exact absurd ⟨(in_set hi).1, (in_set hi).2, trivial⟩ (out_not (P := True) h)
        · exact absurd ⟨(in_set hj).1, (in_set hj).2, trivial⟩ (out_not (P := True) h)
        · exact absurd h e
        · exact h
    · rw [heapAt_out hc, some_bind']
  · rw [heapAt_out ha, some_bind']
    dsimp only
    rw [hu.cl]
    rcases set_cases c with ⟨j, hj, rfl⟩ | hc
    · rw [heapAt_in hu hj, some_bind']
    · rw [heapAt_out hc, some_bind']
theorem join_bad {u : MW} (hu : CS u s.1 s.2) {a c : Int32} (h : (a < 0 ∨ 8 ≤ a) ∨ (c < 0 ∨ 8 ≤ c) ∨ a = c) : f_X7_joinTo fu u 1 a c = some (-1, u) := by
  rw [f_X7_joinTo, hu.cl]
  rcases set_cases a with ⟨i, hi, rfl⟩ | ha
  · rw [heapAt_in hu hi, some_bind']
    dsimp only
    rw [hu.cl]
    rcases set_cases c with ⟨j, hj, rfl⟩ | hc
    · rw [heapAt_in hu hj, some_bind']
      dsimp only
      rw [if_pos]
      rcases h with h | h | h
      · exact absurd ⟨(in_set hi).1, (in_set hi).2, trivial⟩ (out_not (P := True) h)
      · exact absurd ⟨(in_set hj).1, (in_set hj).2, trivial⟩ (out_not (P := True) h)
      · exact h
    · rw [heapAt_out hc, some_bind']
  · rw [heapAt_out ha, some_bind']
    dsimp only
    rw [hu.cl]
    rcases set_cases c with ⟨j, hj, rfl⟩ | hc
    · rw [heapAt_in hu hj, some_bind']
    · rw [heapAt_out hc, some_bind']
theorem move_bad {u : MW} (hu : CS u s.1 s.2) {a b d c : Int32} (h : ((a < 0 ∨ 8 ≤ a) ∨ (c < 0 ∨ 8 ≤ c) ∨ a = c) ∨ (b < 0 ∨ 9999 < b) ∨ (d < 0 ∨ 9999 < d)) : f_X7_moveStretch fu u 1 a b d c = some (-1, u) := by
  rw [f_X7_moveStretch, hu.cl]
  rcases set_cases a with ⟨i, hi, rfl⟩ | ha
  · rw [heapAt_in hu hi, some_bind']
    dsimp only
    rw [hu.cl]
    rcases set_cases c with ⟨j, hj, rfl⟩ | hc
    · rw [heapAt_in hu hj, some_bind']
      dsimp only
      by_cases e : nI i = nI j
      · rw [if_pos e]
      · rw [if_neg e]
        by_cases e2 : f_X10_isKey b = 0
        · rw [if_pos e2]
        · rw [if_neg e2, isKey_out, if_pos rfl]
          rcases h with (h | h | h) | h | h
          · exact absurd ⟨(in_set hi).1, (in_set hi).2, trivial⟩ (out_not (P := True) h)
          · exact absurd ⟨(in_set hj).1, (in_set hj).2, trivial⟩ (out_not (P := True) h)
          · exact absurd h e
          · exact absurd (isKey_out h) e2
          · exact h
    · rw [heapAt_out hc, some_bind']
  · rw [heapAt_out ha, some_bind']
    dsimp only
    rw [hu.cl]
    rcases set_cases c with ⟨j, hj, rfl⟩ | hc
    · rw [heapAt_in hu hj, some_bind']
    · rw [heapAt_out hc, some_bind']
theorem hmb_above {L : List Nat} (S : SOK L) {k : Nat} (hk : k < 10000) : hmb L (nI (k + 1)) (nI 9999) = L.length - nab L (nI k) := by
  rw [← cnt_hmb _ _ L S]; exact cnt_above S hk
theorem hmb_all {L : List Nat} (S : SOK L) : hmb L (nI 0) (nI 9999) = L.length := by
  rw [← cnt_hmb _ _ L S]; exact cnt_all S
/-- none between: each is below or above -/
theorem hmb_no {L : List Nat} (S : SOK L) {a b : Nat} (ha : a < 2 ^ 31) (hb : b < 2 ^ 31) (h : hmb L (nI a) (nI b) = 0) : ∀ z ∈ L, z / 2 < a ∨ b < z / 2 := by
  intro z hz
  rw [← cnt_hmb _ _ L S] at h
  have h1 := (List.countP_eq_zero.mp h) z hz
  have h2 := S.2.1 z hz
  rcases Nat.lt_or_ge (z / 2) a with q | q
  · exact Or.inl q
  · rcases Nat.lt_or_ge b (z / 2) with q2 | q2
    · exact Or.inr q2
    · refine absurd ?_ h1
      rw [decide_eq_true (nI_le q (by omega)), decide_eq_true (nI_le q2 (by omega))]; rfl
theorem mrCut {b : Nat} (B : MB C F ar b s) {fu : Nat} (hfu : 100 ≤ fu) {i j k : Nat} (hi : i < 8) (hj : j < 8) (hij : i ≠ j) (hk : k < 10000) : f_X11_refusesCut fu (mW C F v ar) 123 (nI i) (nI k) (nI j) = some (wOf (xCut s i k j).1) := by
  have S := B.2.2.2.2 i hi
  have hl := S.len
  have hl2 := (B.2.2.2.2 j hj).len
  rw [f_X11_refusesCut, B.cl, mTwo_in hi hj hij, some_bind', mKey_in hk, if_neg (by decide), if_neg (by decide), nI_1, B.cl, show (9999 : Int32) = nI 9999 from rfl, B.counted hi hfu, hmb_above S hk, some_bind']
  unfold xCut
  by_cases c1 : (s.1 i).length - nab (s.1 i) (nI k) = 0
  · rw [if_pos ((nI_eq0 (by omega)).mpr c1), if_pos c1, wOf_2]
  · rw [if_neg (fun q => c1 ((nI_eq0 (by omega)).mp q)), if_neg c1, B.cl, B.many hj, some_bind']
    by_cases c2 : 0 < (s.1 j).length
    · rw [if_neg (fun q => by have := (nI_le0 (by omega)).mp q; omega), if_pos c2, wOf_3]
    · rw [if_pos ((nI_le0 (by omega)).mpr (by omega)), if_neg c2, wOf_n (by omega)]
theorem xCut_do (O : ∀ i, i < 8 → SOK (s.1 i)) {i j k : Nat} (hi : i < 8) (hj : j < 8) (hij : i ≠ j) (hx : ¬ (xCut s i k j).1 < 0) : 1 ≤ (s.1 i).length - nab (s.1 i) (nI k) ∧ (s.1 j).length = 0 ∧ xCut s i k j = (nI ((s.1 i).length - nab (s.1 i) (nI k)), giveA s i j (nab (s.1 i) (nI k)) ((s.1 i).length - nab (s.1 i) (nI k))) ∧ ∀ q, q < 8 → SOK ((giveA s i j (nab (s.1 i) (nI k)) ((s.1 i).length - nab (s.1 i) (nI k))).1 q) := by
  have hl := (O i hi).len
  have hn := nab_le (s.1 i) (nI k)
  unfold xCut at hx ⊢
  by_cases c1 : (s.1 i).length - nab (s.1 i) (nI k) = 0
  · rw [if_pos c1] at hx; exact absurd (show (-2 : Int32) < 0 by decide) hx
  · rw [if_neg c1] at hx ⊢
    by_cases c2 : 0 < (s.1 j).length
    · rw [if_pos c2] at hx; exact absurd (show (-3 : Int32) < 0 by decide) hx
    · rw [if_neg c2]
      refine ⟨by omega, by omega, rfl, (goI_giveA O hi hj hij (by omega) (by omega) (by omega) (fun z hz => ?_)).2⟩
      have : s.1 j = [] := List.length_eq_zero_iff.mp (by omega)
      rw [this] at hz; simp at hz
theorem xCut_rz (O : AOK s.1) {i j k : Nat} (hi : i < 8) (hj : j < 8) (hij : i ≠ j) : RZ s (xCut s i k j) ∧ AOK (xCut s i k j).2.1 := by
  have hl := (O.1 i hi).len
  have hn := nab_le (s.1 i) (nI k)
  by_cases hx : (xCut s i k j).1 < 0
  · unfold xCut at hx ⊢
    by_cases c1 : (s.1 i).length - nab (s.1 i) (nI k) = 0
    · rw [if_pos c1]; exact ⟨fun _ => ⟨rfl, by simp⟩, O⟩
    · rw [if_neg c1] at hx ⊢
      by_cases c2 : 0 < (s.1 j).length
      · rw [if_pos c2]; exact ⟨fun _ => ⟨rfl, by simp⟩, O⟩
      · rw [if_neg c2] at hx; exact absurd hx (nI_pos (by omega))
  · obtain ⟨h1, h2, h3, h4⟩ := xCut_do O.1 hi hj hij hx
    refine ⟨fun q => absurd q hx, ?_⟩
    rw [h3]
    exact give_aok O hi hj hij (by omega) h4
theorem cut_res (G : Good C F v ar s V n) (hfu : 20000 ≤ fu) (a b c : Int32) : ∃ s' V', Res C F ar s' V' (f_X10_cut fu (mW C F v ar) 0 a b c) (fun w => f_X11_cut fu w 123 a b c) := by
  have e1 : f_X10_cut fu (mW C F v ar) 0 a b c = actOf (fun w p => f_X7_cutAbove fu w p a b c) fu (mW C F v ar) := rfl
  have e2 : (fun w => f_X11_cut fu w 123 a b c) = mactOf (fun w => f_X11_refusesCut fu w 123 a b c) (fun w => (cl w 11 123 (f_X11_goOver fu w 123 a (b + (1 : Int32)) (9999 : Int32) c)).bind fun q8 => some (q8.1, q8.2)) fu := rfl
  rw [e1, e2]
  have B := G.1.mb
  have O := G.1.2.2.2.1
  have hfu2 : 100 ≤ fu := by omega
  rcases two_cases a c with ⟨i, j, hi, hj, hij, rfl, rfl⟩ | hac
  · rcases key_cases b with ⟨k, hk, rfl⟩ | hb
    · obtain ⟨z1, z2⟩ := xCut_rz (k := k) O hi hj hij
      have z3 : FOK s → FOK (xCut s i k j).2 := fun h => by
        unfold xCut; split
        · exact h
        · split
          · exact h
          · exact h.give _ _ _ _
      have hl := (O.1 i hi).len
      have hn := nab_le (s.1 i) (nI k)
      refine ⟨_, _, act_res G hfu z2 z3 hpl_31 (fun u hu hz => ?_) z1 (fun C' hC' => ?_) (fun hx C' F' al hC' hF hM => ?_)⟩
      · obtain ⟨u', g1, g2, g3⟩ := ccut_ok hu O hfu2 hi hj hij hk
        exact ⟨u', g1, g2, hz.hp g3, g3⟩
      · exact mrCut (B.F hC' rfl B.2.2.2.1 O.1) hfu2 hi hj hij hk
      · obtain ⟨h1, h2, h3, h4⟩ := xCut_do O.1 hi hj hij hx
        obtain ⟨al2, g1, g2⟩ := give_do (v := v) B hfu2 hi hj hij (hmb_above (O.1 i hi) hk) (bel_succ (O.1 i hi) hk) h1 (by omega) (by omega) (fun z hz => by
          have : s.1 j = [] := List.length_eq_zero_iff.mp (by omega)
          rw [this] at hz; simp at hz) hC' hF hM
        rw [h3]
        refine ⟨F', v, _, ?_, g2⟩
        rw [m_cl hC', nI_1, show (9999 : Int32) = nI 9999 from rfl, g1, some_bind']
    · refine ⟨_, _, act_bad G hfu (fun u hu => cut_bad hu (Or.inr hb)) (fun C' hC' => ?_)⟩
      rw [f_X11_refusesCut, m_cl hC', mTwo_in hi hj hij, some_bind', mKey_out hb, if_neg (by decide), if_pos rfl]
  · refine ⟨_, _, act_bad G hfu (fun u hu => cut_bad hu (Or.inl hac)) (fun C' hC' => ?_)⟩
    rw [f_X11_refusesCut, m_cl hC', mTwo_out hac, some_bind', if_pos rfl]
end R
end
section
section R
variable {C : MW} {F : Nat → Int32} {v : Int64} {ar : Nat → Nat → Int32} {s : AS} {V : List AS} {n : Nat} {fu : Nat}
theorem wJoin_v (s : AS) (t o : Nat) : wJoin s t o = 0 ∨ wJoin s t o = -2 ∨ wJoin s t o = -3 ∨ wJoin s t o = -4 := by
  unfold wJoin
  split
  · exact Or.inr (Or.inl rfl)
  · split
    · exact Or.inr (Or.inr (Or.inl rfl))
    · split
      · exact Or.inr (Or.inr (Or.inr rfl))
      · exact Or.inl rfl
theorem wJoin_0 {s : AS} {t o : Nat} (h : wJoin s t o = 0) : 1 ≤ (s.1 o).length ∧ ¬ (0 < (s.1 t).length ∧ nth (s.1 o) 0 / 2 ≤ nth (s.1 t) ((s.1 t).length - 1) / 2) ∧ (s.1 t).length + (s.1 o).length ≤ 60 := by
  unfold wJoin at h
  split at h
  · exact absurd h (by decide)
  · split at h
    · exact absurd h (by decide)
    · split at h
      · exact absurd h (by decide)
      · exact ⟨by omega, by assumption, by omega⟩
theorem mrJoin {b : Nat} (B : MB C F ar b s) {t o : Nat} (ht : t < 8) (ho : o < 8) (hto : t ≠ o) : f_X11_refusesJoin (mW C F v ar) 123 (nI t) (nI o) = some (wOf (wJoin s t o)) := by
  have S1 := B.2.2.2.2 t ht
  have S2 := B.2.2.2.2 o ho
  have l1 := S1.len
  have l2 := S2.len
  have fin : f_X11_refusesJoin_52 (mW C F v ar) 123 (nI t) (nI o) = some (if 60 < (s.1 t).length + (s.1 o).length then 4 else 0) := by
    rw [f_X11_refusesJoin_52, B.cl, B.many ht, some_bind', B.cl, B.many ho, some_bind', nI_add, show (60 : Int32) = nI 60 from rfl]
    by_cases c : 60 < (s.1 t).length + (s.1 o).length
    · rw [if_pos c, if_neg (nI_ge c (by omega))]
    · rw [if_neg c, if_pos (nI_le (by omega) (by omega))]
  have fin2 : wOf (if 60 < (s.1 t).length + (s.1 o).length then -4 else 0) = if 60 < (s.1 t).length + (s.1 o).length then 4 else 0 := by
    by_cases c : 60 < (s.1 t).length + (s.1 o).length
    · rw [if_pos c, if_pos c, wOf_4]
    · rw [if_neg c, if_neg c]; rfl
  rw [f_X11_refusesJoin, B.cl, mTwo_in ht ho hto, some_bind', if_neg (by decide), B.cl, B.many ho, some_bind']
  unfold wJoin
  by_cases c1 : (s.1 o).length = 0
  · rw [if_pos ((nI_eq0 (by omega)).mpr c1), if_pos c1, wOf_2]
  · rw [if_neg (fun q => c1 ((nI_eq0 (by omega)).mp q)), if_neg c1, B.cl, B.many ht, some_bind']
    by_cases c2 : (s.1 t).length = 0
    · rw [if_pos ((nI_le0 (by omega)).mpr c2), if_neg (show ¬ (0 < (s.1 t).length ∧ nth (s.1 o) 0 / 2 ≤ nth (s.1 t) ((s.1 t).length - 1) / 2) from fun q => by omega), fin, fin2]
    · rw [if_neg (fun q => c2 ((nI_le0 (by omega)).mp q)), B.cl, some_bind', show (1 : Int32) = nI 1 from rfl, nI_sub (by omega), B.cl, B.key ht (by omega), some_bind', show (0 : Int32) = nI 0 from rfl, B.key ho (by omega), some_bind']
      have b1 := S1.lt (show (s.1 t).length - 1 < (s.1 t).length by omega)
      have b2 := S2.lt (show 0 < (s.1 o).length by omega)
      by_cases c3 : nth (s.1 o) 0 / 2 ≤ nth (s.1 t) ((s.1 t).length - 1) / 2
      · rw [if_neg (nI_nlt c3 (by omega)), if_pos ⟨by omega, c3⟩, wOf_3]
      · rw [if_pos (nI_lt (by omega) (by omega)), if_neg (show ¬ (0 < (s.1 t).length ∧ nth (s.1 o) 0 / 2 ≤ nth (s.1 t) ((s.1 t).length - 1) / 2) from fun q => c3 q.2), fin]
        exact congrArg some fin2.symm
theorem wJoin_no (O : ∀ i, i < 8 → SOK (s.1 i)) {t o : Nat} (ht : t < 8) (h : wJoin s t o = 0) : ∀ z ∈ s.1 t, z / 2 < nth (s.1 o) 0 / 2 ∨ nth (s.1 o) (0 + (s.1 o).length - 1) / 2 < z / 2 := by
  intro z hz
  obtain ⟨h1, h2, h3⟩ := wJoin_0 h
  obtain ⟨q, hq, rfl⟩ := mem_nth hz
  refine Or.inl ?_
  rcases Nat.lt_or_ge q ((s.1 t).length - 1) with c | c
  · have := (O t ht).inc c (by omega)
    omega
  · rw [show q = (s.1 t).length - 1 by omega]; omega
theorem xJoin_rz (O : AOK s.1) {t o : Nat} (ht : t < 8) (ho : o < 8) (hto : t ≠ o) : RZ s (xJoin s t o) ∧ AOK (xJoin s t o).2.1 := by
  have l1 := (O.1 t ht).len
  have l2 := (O.1 o ho).len
  unfold xJoin
  by_cases c : wJoin s t o = 0
  · rw [if_pos c]
    obtain ⟨h1, h2, h3⟩ := wJoin_0 c
    refine ⟨fun q => absurd q (nI_pos (by omega)), ?_⟩
    exact give_aok O ho ht (Ne.symm hto) (by omega) (goI_giveA O.1 ho ht (Ne.symm hto) h1 (by omega) h3 (wJoin_no O.1 ht c)).2
  · rw [if_neg c]
    exact ⟨fun _ => ⟨rfl, by
      rcases wJoin_v s t o with h | h | h | h
      · exact absurd h c
      · exact Or.inr (Or.inl h)
      · exact Or.inr (Or.inr (Or.inl h))
      · exact Or.inr (Or.inr (Or.inr h))⟩, O⟩
theorem join_res (G : Good C F v ar s V n) (hfu : 20000 ≤ fu) (a c : Int32) : ∃ s' V', Res C F ar s' V' (f_X10_join fu (mW C F v ar) 0 a c) (fun w => f_X11_join fu w 123 a c) := by
  have e1 : f_X10_join fu (mW C F v ar) 0 a c = actOf (fun w p => f_X7_joinTo fu w p a c) fu (mW C F v ar) := rfl
  have e2 : (fun w => f_X11_join fu w 123 a c) = mactOf (fun w => f_X11_refusesJoin w 123 a c) (fun w => (cl w 11 123 (f_X11_many w 123 a)).bind fun q8 => (cl w 11 123 (f_X11_goOver fu w 123 c (0 : Int32) (9999 : Int32) a)).bind fun q11 => some ((q8 + q11.1), q11.2)) fu := rfl
  rw [e1, e2]
  have B := G.1.mb
  have O := G.1.2.2.2.1
  have hfu2 : 100 ≤ fu := by omega
  rcases two_cases a c with ⟨t, o, ht, ho, hto, rfl, rfl⟩ | hac
  · obtain ⟨z1, z2⟩ := xJoin_rz O ht ho hto
    have z3 : FOK s → FOK (xJoin s t o).2 := fun h => by
      unfold xJoin; split
      · exact h.give _ _ _ _
      · exact h
    have l1 := (O.1 t ht).len
    have l2 := (O.1 o ho).len
    refine ⟨_, _, act_res G hfu z2 z3 hpl_31 (fun u hu hz => ?_) z1 (fun C' hC' => ?_) (fun hx C' F' al hC' hF hM => ?_)⟩
    · obtain ⟨u', g1, g2, g3⟩ := cjoin_ok hu O hfu2 ht ho hto
      exact ⟨u', g1, g2, hz.hp g3, g3⟩
    · rw [mrJoin (B.F hC' rfl B.2.2.2.1 O.1) ht ho hto]
      show _ = some (wOf _)
      unfold xJoin
      by_cases c : wJoin s t o = 0
      · rw [if_pos c, c, wOf_n (by omega)]; rfl
      · rw [if_neg c]
    · unfold xJoin at hx ⊢
      by_cases c : wJoin s t o = 0
      · obtain ⟨h1, h2, h3⟩ := wJoin_0 c
        rw [if_pos c]
        have B1 : MB C' F' (ua ar 0 al) 0 s := B.F hC' (hF 9 (by omega)) (by rw [ua_eq]; exact hM) O.1
        obtain ⟨al2, g1, g2⟩ := give_do (v := v) B hfu2 ho ht (Ne.symm hto) (hmb_all (O.1 o ho)) (bel_zero (O.1 o ho)) h1 (by omega) h3 (wJoin_no O.1 ht c) hC' hF hM
        refine ⟨F', v, _, ?_, g2⟩
        rw [B1.cl, B1.many ht, some_bind', B1.cl, show (9999 : Int32) = nI 9999 from rfl, show (0 : Int32) = nI 0 from rfl, g1, some_bind', nI_add]
      · rw [if_neg c] at hx
        refine absurd ?_ hx
        rcases wJoin_v s t o with h | h | h | h
        · exact absurd h c
        · show wJoin s t o < 0; rw [h]; decide
        · show wJoin s t o < 0; rw [h]; decide
        · show wJoin s t o < 0; rw [h]; decide
  · refine ⟨_, _, act_bad G hfu (fun u hu => join_bad hu hac) (fun C' hC' => ?_)⟩
    rw [f_X11_refusesJoin, m_cl hC', mTwo_out hac, some_bind', if_pos rfl]
theorem mrMove {e : Nat} (B : MB C F ar e s) {fu : Nat} (hfu : 100 ≤ fu) {i j a b : Nat} (hi : i < 8) (hj : j < 8) (hij : i ≠ j) (ha : a < 10000) (hb : b < 10000) : f_X11_refusesMove fu (mW C F v ar) 123 (nI i) (nI a) (nI b) (nI j) = some (wOf (xMove s i a b j).1) := by
  have S := B.2.2.2.2 i hi
  have S2 := B.2.2.2.2 j hj
  have hl := S.len
  have hl2 := S2.len
  have n1 := bel_le (s.1 i) (nI a)
  have n2 := nab_le (s.1 i) (nI b)
  rw [f_X11_refusesMove, B.cl, mTwo_in hi hj hij, some_bind', mKey_in ha, mKey_in hb, if_neg (by decide), if_neg (by decide), if_neg (by decide), B.cl, B.counted hi hfu, some_bind', bnd_eq]
  unfold xMove
  have hg : hmb (s.1 i) (nI a) (nI b) ≤ 60 := by unfold hmb; omega
  by_cases c1 : hmb (s.1 i) (nI a) (nI b) = 0
  · rw [if_pos ((nI_eq0 (by omega)).mpr c1), if_pos c1, wOf_2]
  · have hr : bel (s.1 i) (nI a) + hmb (s.1 i) (nI a) (nI b) ≤ (s.1 i).length := by unfold hmb at c1 ⊢; omega
    have n3 := nab_le (s.1 j) (nI (nth (s.1 i) (bel (s.1 i) (nI a) + hmb (s.1 i) (nI a) (nI b) - 1) / 2))
    have hg2 : hmb (s.1 j) (nI (nth (s.1 i) (bel (s.1 i) (nI a)) / 2)) (nI (nth (s.1 i) (bel (s.1 i) (nI a) + hmb (s.1 i) (nI a) (nI b) - 1) / 2)) ≤ 60 := Nat.le_trans (Nat.sub_le _ _) (by omega)
    rw [if_neg (fun q => c1 ((nI_eq0 (by omega)).mp q)), if_neg c1, B.cl, B.below hi hfu, some_bind', bnd_eq, B.cl, B.key hi (by omega), some_bind', nI_add, show (1 : Int32) = nI 1 from rfl, nI_sub (by omega), B.cl, B.key hi (by omega), some_bind', B.cl, B.counted hj hfu, some_bind']
    by_cases c2 : 0 < hmb (s.1 j) (nI (nth (s.1 i) (bel (s.1 i) (nI a)) / 2)) (nI (nth (s.1 i) (bel (s.1 i) (nI a) + hmb (s.1 i) (nI a) (nI b) - 1) / 2))
    · rw [if_neg (fun q => by have := (nI_le0 (by omega)).mp q; omega), if_pos c2, wOf_3]
    · rw [if_pos ((nI_le0 (by omega)).mpr (by omega)), if_neg c2, B.cl, B.many hj, some_bind', nI_add, show (60 : Int32) = nI 60 from rfl]
      by_cases c3 : 60 < (s.1 j).length + hmb (s.1 i) (nI a) (nI b)
      · rw [if_neg (nI_ge c3 (by omega)), if_pos c3, wOf_4]
      · rw [if_pos (nI_le (by omega) (by omega)), if_neg c3, wOf_n (by omega)]
theorem xMove_do (O : ∀ i, i < 8 → SOK (s.1 i)) {i j a b : Nat} (hi : i < 8) (hj : j < 8) (hij : i ≠ j) (hx : ¬ (xMove s i a b j).1 < 0) : 1 ≤ hmb (s.1 i) (nI a) (nI b) ∧ bel (s.1 i) (nI a) + hmb (s.1 i) (nI a) (nI b) ≤ (s.1 i).length ∧ (s.1 j).length + hmb (s.1 i) (nI a) (nI b) ≤ 60 ∧ (∀ z ∈ s.1 j, z / 2 < nth (s.1 i) (bel (s.1 i) (nI a)) / 2 ∨ nth (s.1 i) (bel (s.1 i) (nI a) + hmb (s.1 i) (nI a) (nI b) - 1) / 2 < z / 2) ∧ xMove s i a b j = (nI (hmb (s.1 i) (nI a) (nI b)), giveA s i j (bel (s.1 i) (nI a)) (hmb (s.1 i) (nI a) (nI b))) := by
  have hl := (O i hi).len
  have n1 := bel_le (s.1 i) (nI a)
  have n2 := nab_le (s.1 i) (nI b)
  unfold xMove at hx ⊢
  by_cases c1 : hmb (s.1 i) (nI a) (nI b) = 0
  · rw [if_pos c1] at hx; exact absurd (show (-2 : Int32) < 0 by decide) hx
  · have hr : bel (s.1 i) (nI a) + hmb (s.1 i) (nI a) (nI b) ≤ (s.1 i).length := by unfold hmb at c1 ⊢; omega
    rw [if_neg c1] at hx ⊢
    by_cases c2 : 0 < hmb (s.1 j) (nI (nth (s.1 i) (bel (s.1 i) (nI a)) / 2)) (nI (nth (s.1 i) (bel (s.1 i) (nI a) + hmb (s.1 i) (nI a) (nI b) - 1) / 2))
    · rw [if_pos c2] at hx; exact absurd (show (-3 : Int32) < 0 by decide) hx
    · rw [if_neg c2] at hx ⊢
      by_cases c3 : 60 < (s.1 j).length + hmb (s.1 i) (nI a) (nI b)
      · rw [if_pos c3] at hx; exact absurd (show (-4 : Int32) < 0 by decide) hx
      · rw [if_neg c3]
        have b1 := (O i hi).lt (show bel (s.1 i) (nI a) < (s.1 i).length by omega)
        have b2 := (O i hi).lt (show bel (s.1 i) (nI a) + hmb (s.1 i) (nI a) (nI b) - 1 < (s.1 i).length by omega)
        exact ⟨by omega, hr, by omega, hmb_no (O j hj) (by omega) (by omega) (by omega), rfl⟩
theorem xMove_rz (O : AOK s.1) {i j a b : Nat} (hi : i < 8) (hj : j < 8) (hij : i ≠ j) : RZ s (xMove s i a b j) ∧ AOK (xMove s i a b j).2.1 := by
  have hl := (O.1 i hi).len
  by_cases hx : (xMove s i a b j).1 < 0
  · have n2 := nab_le (s.1 i) (nI b)
    have hg : hmb (s.1 i) (nI a) (nI b) ≤ 60 := by unfold hmb; omega
    unfold xMove at hx ⊢
    split
    · exact ⟨fun _ => ⟨rfl, by simp⟩, O⟩
    · split
      · exact ⟨fun _ => ⟨rfl, by simp⟩, O⟩
      · split
        · exact ⟨fun _ => ⟨rfl, by simp⟩, O⟩
        · rename_i c1 c2 c3
          rw [if_neg c1, if_neg c2, if_neg c3] at hx
          exact absurd hx (nI_pos (by omega))
  · obtain ⟨h1, h2, h3, h4, h5⟩ := xMove_do O.1 hi hj hij hx
    refine ⟨fun q => absurd q hx, ?_⟩
    rw [h5]
    exact give_aok O hi hj hij h2 (goI_giveA O.1 hi hj hij h1 h2 h3 h4).2
theorem move_res (G : Good C F v ar s V n) (hfu : 20000 ≤ fu) (a b d c : Int32) : ∃ s' V', Res C F ar s' V' (f_X10_move fu (mW C F v ar) 0 a b d c) (fun w => f_X11_move fu w 123 a b d c) := by
  have e1 : f_X10_move fu (mW C F v ar) 0 a b d c = actOf (fun w p => f_X7_moveStretch fu w p a b d c) fu (mW C F v ar) := rfl
  have e2 : (fun w => f_X11_move fu w 123 a b d c) = mactOf (fun w => f_X11_refusesMove fu w 123 a b d c) (fun w => (cl w 11 123 (f_X11_goOver fu w 123 a b d c)).bind fun q8 => some (q8.1, q8.2)) fu := rfl
  rw [e1, e2]
  have B := G.1.mb
  have O := G.1.2.2.2.1
  have hfu2 : 100 ≤ fu := by omega
  rcases two_cases a c with ⟨i, j, hi, hj, hij, rfl, rfl⟩ | hac
  · rcases key_cases b with ⟨k, hk, rfl⟩ | hb
    · rcases key_cases d with ⟨m, hm, rfl⟩ | hd
      · obtain ⟨z1, z2⟩ := xMove_rz (a := k) (b := m) O hi hj hij
        have z3 : FOK s → FOK (xMove s i k m j).2 := fun h => by
          unfold xMove; split
          · exact h
          · split
            · exact h
            · split
              · exact h
              · exact h.give _ _ _ _
        refine ⟨_, _, act_res G hfu z2 z3 hpl_31 (fun u hu hz => ?_) z1 (fun C' hC' => ?_) (fun hx C' F' al hC' hF hM => ?_)⟩
        · obtain ⟨u', g1, g2, g3⟩ := cmove_ok hu O hfu2 hi hj hij hk hm
          exact ⟨u', g1, g2, hz.hp g3, g3⟩
        · exact mrMove (B.F hC' rfl B.2.2.2.1 O.1) hfu2 hi hj hij hk hm
        · obtain ⟨h1, h2, h3, h4, h5⟩ := xMove_do O.1 hi hj hij hx
          obtain ⟨al2, g1, g2⟩ := give_do (v := v) B hfu2 hi hj hij (x := nI k) (y := nI m) rfl rfl h1 h2 h3 h4 hC' hF hM
          rw [h5]
          refine ⟨F', v, _, ?_, g2⟩
          rw [m_cl hC', g1, some_bind']
      · refine ⟨_, _, act_bad G hfu (fun u hu => move_bad hu (Or.inr (Or.inr hd))) (fun C' hC' => ?_)⟩
        rw [f_X11_refusesMove, m_cl hC', mTwo_in hi hj hij, some_bind', mKey_in hk, mKey_out hd, if_neg (by decide), if_neg (by decide), if_pos rfl]
    · refine ⟨_, _, act_bad G hfu (fun u hu => move_bad hu (Or.inr (Or.inl hb))) (fun C' hC' => ?_)⟩
      rw [f_X11_refusesMove, m_cl hC', mTwo_in hi hj hij, some_bind', mKey_out hb, if_neg (by decide), if_pos rfl]
  · refine ⟨_, _, act_bad G hfu (fun u hu => move_bad hu (Or.inl hac)) (fun C' hC' => ?_)⟩
    rw [f_X11_refusesMove, m_cl hC', mTwo_out hac, some_bind', if_pos rfl]
theorem undo_res (G : Good C F v ar s V n) (hfu : 20000 ≤ fu) : ∃ s' V', Res C F ar s' V' (f_X10_undo fu (mW C F v ar) 0) (fun w => f_X11_undo fu w 123) := by
  obtain ⟨⟨hC, T, h, O, P, M, U, h8, h9⟩, Z, FO, FV⟩ := id G
  obtain ⟨a, b, t0⟩ := id T
  have hV := U.1
  by_cases c : V.length = 0
  · refine ⟨s, V, -1, mW C F v ar, C, F, v, ar, n, ?_, ?_, m_cl hC _ _ _ _, G, fun _ _ => rfl, fun _ _ => rfl, fun _ _ _ => rfl, fun _ _ => rfl⟩
    · rw [f_X10_undo, gR_ob t0 rfl, some_bind', gI_ob P.2.2.1 rfl, some_bind', if_pos ((nI_eq0 (by omega)).mpr c)]
    · dsimp only
      rw [f_X11_undo, m_gI hC F v ar 8 rfl, some_bind', h8, if_pos ((nI_eq0 (by omega)).mpr c)]
  · obtain ⟨w', g1, g2, g3, g4⟩ := stepBack_ok (show 100 ≤ fu by omega) h P (by omega)
    obtain ⟨C', b1, b2, b3⟩ := mW_chg hC g4 (fun k hk => by
      rcases List.mem_cons.mp hk with rfl | hk
      · omega
      · have := hpl_31 k hk; omega)
    have hm0 : 0 ∉ 31 :: hpl := by decide
    have T1 := T.chg g4 hm0
    obtain ⟨a', b', t1⟩ := id T1
    have Z1 := Z.chg g4 (fun k hk => by
      rcases List.mem_cons.mp hk with rfl | hk
      · omega
      · have := hpl_sc k hk; omega)
    subst b2
    have hl : (V.take (V.length - 1)).length = V.length - 1 := by simp
    have hPV := P.2.2.2.2.2 (V.length - 1) (by omega)
    have hUV := U.2 (V.length - 1) (by omega)
    have hcp := mcopies_ok (C := C') (F := upd F 8 (nI (V.length - 1))) (v := v) (ar := ar) (fu := fu) (fr := 1952 + 976 * (V.length - 1)) (to := 0) (n := 976) b1 hfu (by omega) (by omega) (by omega) (by omega)
    refine ⟨V.getD (V.length - 1) as0, V.take (V.length - 1), nI (V.length - 1), mW C' F v ar, C', upd F 8 (nI (V.length - 1)), v, ua ar 0 (cpF (ar 0) (1952 + 976 * (V.length - 1)) 0 976 0), _, ?_, ?_, m_cl b1 _ _ _ _, ⟨⟨b1, T1.m b1 _ _ _, g2.m b1 _ _ _, hPV.2, g3.m b1 _ _ _, ?_, ?_, ?_, ?_⟩, Z1.m b1 _ _ _, ?_, fun W hW => FV W (List.mem_of_mem_take hW)⟩, fun k hk => b3 k (fun q => hk ?_), fun k hk => upd_ne _ _ (by omega), fun k h1 h2 => ua_ne _ _ (by omega), fun q hq => ?_⟩
    · rw [f_X10_undo, gR_ob t0 rfl, some_bind', gI_ob P.2.2.1 rfl, some_bind', if_neg (fun q => c ((nI_eq0 (by omega)).mp q)), some_bind', gR_ob t0 rfl, some_bind', P.cl, g1, some_bind', gR_ob t1 rfl, some_bind', gI_ob g3.2.2.1 rfl, some_bind', hl]
    · dsimp only
      rw [f_X11_undo, m_gI b1 F v ar 8 rfl, some_bind', h8, if_neg (fun q => c ((nI_eq0 (by omega)).mp q)), some_bind', show (1 : Int32) = nI 1 from rfl, nI_sub (by omega), m_p b1 F v _ 8 (by omega) (mF8 _), some_bind', m_gI b1 _ v ar 8 rfl, some_bind', upd_eq, show (976 : Int32) = nI 976 from rfl, nI_mul, show (1952 : Int32) = nI 1952 from rfl, nI_add, m_cl b1, show (0 : Int32) = nI 0 from rfl, hcp, some_bind', m_gI b1 _ v _ 8 rfl, some_bind', upd_eq]
    · rw [ua_eq]
      refine hUV.1.copy hUV.2 (fun q hq => ?_)
      unfold cpF
      rw [if_pos (by omega)]
      congr 1
      omega
    · rw [ua_eq]
      refine ⟨by omega, fun t ht => ?_⟩
      rw [hl] at ht
      rw [getD_t ht]
      have h1 := U.2 t (by omega)
      refine ⟨h1.1.copy h1.2 (fun q hq => ?_), h1.2⟩
      unfold cpF
      rw [if_neg (by omega)]
    · rw [upd_eq, hl]
    · rw [upd_ne _ _ (by omega)]; exact h9
    · refine FV _ ?_
      rw [List.getD_eq_getElem?_getD, List.getElem?_eq_getElem (by omega)]
      exact List.getElem_mem _
    · rw [actKs_iff]
      rcases List.mem_cons.mp q with rfl | hk
      · omega
      · have := hpl_31 k hk; omega
    · rw [ua_eq]
      unfold cpF
      rw [if_neg (by omega)]
end R
end
section
/-! SHIFT and MARK -/
theorem nI_ofInt (n : Nat) : nI n = Int32.ofInt n := (Int32.ofInt_eq_ofNat).symm
theorem nI_addI {a c : Nat} {x : Int32} (h : (a : Int) + x.toInt = c) : nI a + x = nI c := by
  have e : x = Int32.ofInt x.toInt := (Int32.ofInt_toInt x).symm
  rw [e, nI_ofInt, ← Int32.ofInt_add, h, nI_ofInt]
theorem nI_addI2 {a c : Nat} {x : Int32} (h : (a : Int) + x.toInt * 2 = c) : nI a + x * 2 = nI c := by
  have e : x * 2 = Int32.ofInt (x.toInt * 2) := by
    rw [Int32.ofInt_mul, Int32.ofInt_toInt]; rfl
  rw [e, nI_ofInt, ← Int32.ofInt_add, h, nI_ofInt]
theorem addI_nI {a c : Nat} {x : Int32} (ha : a < 100000) (hc : c < 100000) (h1 : -100000 < x.toInt) (h2 : x.toInt < 100000) (h : nI a + x = nI c) : (a : Int) + x.toInt = c := by
  have e := congrArg Int32.toInt h
  rw [Int32.toInt_add, nI_toInt (by omega), nI_toInt (by omega)] at e
  rw [Int.bmod_eq_of_le (by omega) (by omega)] at e
  exact e
/-- f has gone over the first r -/
def pm (f : Nat → Nat) (r : Nat) (L : List Nat) : List Nat := (L.take r).map f ++ L.drop r
theorem pm_0 (f : Nat → Nat) (L : List Nat) : pm f 0 L = L := by simp [pm]
theorem pm_all (f : Nat → Nat) (L : List Nat) : pm f L.length L = L.map f := by simp [pm]
theorem pm_len (f : Nat → Nat) (r : Nat) (L : List Nat) : (pm f r L).length = L.length := by simp [pm]; omega
theorem pm_s (f : Nat → Nat) {r : Nat} {L : List Nat} (h : r < L.length) : pm f (r + 1) L = (pm f r L).set r (f (nth L r)) := by
  unfold pm
  have hl : ((L.take r).map f).length = r := by simp; omega
  rw [List.set_append_right _ _ (by omega), hl, Nat.sub_self, drop_cons h, List.set_cons_zero, List.take_add_one, List.map_append, List.append_assoc, nth_get h, List.getElem?_eq_getElem h]
  rfl
theorem pm_nth (f : Nat → Nat) {r j : Nat} {L : List Nat} (h : j < L.length) : nth (pm f r L) j = if j < r then f (nth L j) else nth L j := by
  unfold pm
  by_cases c : j < r
  · rw [if_pos c]
    unfold nth
    rw [List.getD_eq_getElem?_getD, List.getElem?_append_left (by simp; omega), List.getElem?_map, List.getElem?_take_of_lt c, List.getElem?_eq_getElem h, List.getD_eq_getElem?_getD, List.getElem?_eq_getElem h]
    rfl
  · rw [if_neg c]
    unfold nth
    rw [List.getD_eq_getElem?_getD, List.getElem?_append_right (by simp; omega), List.getElem?_drop, List.getD_eq_getElem?_getD]
    congr 2
    simp
    omega
theorem set_same {L : List Nat} {r : Nat} (h : r < L.length) : L.set r (nth L r) = L := by
  rw [nth_get h]; exact List.set_getElem_self h
theorem SOK_map {L : List Nat} (S : SOK L) {f : Nat → Nat} (h1 : ∀ a b, a ∈ L → b ∈ L → a / 2 < b / 2 → f a / 2 < f b / 2) (h2 : ∀ a ∈ L, f a < 20000) : SOK (L.map f) := by
  refine ⟨?_, fun e he => ?_, by rw [List.length_map]; exact S.len⟩
  · rw [List.pairwise_map]
    exact List.Pairwise.imp_of_mem (fun {a b} ha hb q => h1 a b ha hb q) S.1
  · obtain ⟨a, ha, rfl⟩ := List.mem_map.mp he
    exact h2 a ha
/-- the class: an entry is another one -/
theorem HA_set {w : MW} {h e : Nat} {L : List Nat} {fg : Int32} (H : HA w h e L fg) (hl : L.length ≤ 60) {r x : Nat} (hr : r < L.length) : ∃ w', sI w .int e (nI r) (nI x) = some w' ∧ HA w' h e (L.set r x) fg ∧ Chg [e] w w' := by
  obtain ⟨hne, h1, xs, h2, h3⟩ := H
  refine ⟨_, sI_ar h2 (by omega) (by omega), ⟨hne, ?_, upd xs r (nI x), get_set_eq h2, fun j hj => ?_⟩, Chg.st _ _ (by simp)⟩
  · rw [get_set_ne (Ne.symm hne), List.length_set]; exact h1
  · rw [List.length_set] at hj
    rw [nth_set hr]
    by_cases c : j = r
    · subst c; rw [upd_eq, if_pos rfl]
    · rw [upd_ne _ _ c, if_neg c]; exact h3 j hj
theorem HA.ent {w : MW} {h e : Nat} {L : List Nat} {fg : Int32} (H : HA w h e L fg) (hl : L.length ≤ 60) {r : Nat} (hr : r < L.length) : aI w .int e (nI r) = some (nI (nth L r)) := by
  obtain ⟨hne, h1, xs, h2, h3⟩ := H
  rw [aI_ar h2 (by omega) (by omega), h3 r hr]
theorem MA_key {al : Nat → Int32} {o p x : Nat} {L : List Nat} {f : Int32} (M : MA al o L f) (hl : L.length ≤ 60) (hp : p < L.length) (hx : x % 2 = nth L p % 2) : MA (upd al (o + 2 + p) (nI (x / 2))) o (L.set p x) f := by
  refine ⟨?_, ?_, fun j hj => ?_⟩
  · rw [upd_ne _ _ (by omega), List.length_set]; exact M.1
  · rw [upd_ne _ _ (by omega)]; exact M.2.1
  · rw [List.length_set] at hj
    rw [nth_set hp, upd_ne _ _ (by omega : o + 62 + j ≠ o + 2 + p)]
    by_cases e : j = p
    · subst e
      rw [if_pos rfl, upd_eq, hx]
      exact ⟨rfl, (M.2.2 j hj).2⟩
    · rw [if_neg e, upd_ne _ _ (by omega)]
      exact M.2.2 j hj
/-- SHIFT of an entry, of a finger -/
def shE (x : Int32) (e : Nat) : Nat := ((e : Int) + x.toInt * 2).toNat
def shG (x fg : Int32) : Int32 := if fg = -1 then -1 else fg + x
theorem cshift_loop {x : Int32} {h e : Nat} {L : List Nat} {fg : Int32} (S : SOK L) (hL : ∀ a ∈ L, 0 ≤ (a : Int) + x.toInt * 2) (fu : Nat) : ∀ N r w, HA w h e (pm (shE x) r L) fg → r ≤ L.length → L.length - r < N → ∃ w', f_X0_shiftAll_2 fu N w h x (nI r) = some w' ∧ HA w' h e (L.map (shE x)) (shG x fg) ∧ Chg [h, e] w w' := by
  have hl := S.len
  intro N
  induction N with
  | zero => intro r w _ _ hN; omega
  | succ N ih =>
    intro r w H hr hN
    rw [f_X0_shiftAll_2, gI_ob H.2.1 rfl, some_bind', pm_len]
    by_cases c : L.length ≤ r
    · have er : r = L.length := by omega
      subst er
      rw [pm_all] at H
      rw [if_pos (nI_le c (by omega)), gI_ob H.2.1 rfl, some_bind']
      unfold shG
      by_cases c2 : fg = -1
      · rw [if_pos c2, if_pos c2]
        exact ⟨w, rfl, c2 ▸ H, Chg.rf _ _⟩
      · rw [if_neg c2, if_neg c2, some_bind', pV_ob H.2.1 (by simp), some_bind']
        obtain ⟨hne, h1, xs, h2, h3⟩ := H
        refine ⟨_, rfl, ⟨hne, get_set_eq h1, xs, by rw [get_set_ne hne]; exact h2, h3⟩, Chg.st _ _ (by simp)⟩
    · have hr' : r < L.length := by omega
      have he := pm_nth (shE x) (r := r) hr'
      rw [if_neg (by omega)] at he
      have hq : nI (nth L r) + x * 2 = nI (shE x (nth L r)) := nI_addI2 (by
        have := hL _ (nth_mem hr')
        unfold shE
        omega)
      obtain ⟨w1, g1, g2, g3⟩ := HA_set H (by rw [pm_len]; exact hl) (r := r) (x := shE x (nth L r)) (by rw [pm_len]; exact hr')
      rw [← pm_s _ hr'] at g2
      obtain ⟨w2, k1, k2, k3⟩ := ih (r + 1) w1 g2 hr' (by omega)
      rw [if_neg (nI_ge hr' (by omega)), gR_ob H.2.1 rfl, some_bind', H.ent (by rw [pm_len]; exact hl) (by rw [pm_len]; exact hr'), some_bind', he, hq, g1, some_bind', bnd_eq, nI_1, k1]
      exact ⟨w2, rfl, k2, (g3.mono (by simp)).tr k3⟩
theorem cshift_ok {x : Int32} {h e : Nat} {L : List Nat} {fg : Int32} (S : SOK L) (hL : ∀ a ∈ L, 0 ≤ (a : Int) + x.toInt * 2) {fu : Nat} (hfu : 100 ≤ fu) {w : MW} (H : HA w h e L fg) : ∃ w', f_X0_shiftAll fu w h x = some w' ∧ HA w' h e (L.map (shE x)) (shG x fg) ∧ Chg [h, e] w w' := by
  rw [f_X0_shiftAll, bnd_eq, show (0 : Int32) = nI 0 from rfl]
  exact cshift_loop S hL fu fu 0 w (by rw [pm_0]; exact H) (by omega) (by have := S.len; omega)
theorem mshift_loop {C : MW} (hC : C.length = 123) {F : Nat → Int32} {v : Int64} {b i : Nat} (hb : F 9 = nI b) (hb2 : b ≤ 976) (hi : i < 8) {x : Int32} {L : List Nat} {fg : Int32} (S : SOK L) (hL : ∀ a ∈ L, 0 ≤ (a : Int) + x.toInt * 2) (fu : Nat) : ∀ N r ar, MA (ar 0) (b + 122 * i) (pm (shE x) r L) fg → r ≤ L.length → L.length - r < N → ∃ al, f_X11_shifts_2 fu N (mW C F v ar) 123 (nI i) x (nI r) = some (mW C F v (ua ar 0 al)) ∧ MA al (b + 122 * i) (L.map (shE x)) (shG x fg) ∧ ∀ q, q < b + 122 * i ∨ b + 122 * i + 122 ≤ q → al q = ar 0 q := by
  have hl := S.len
  intro N
  induction N with
  | zero => intro r ar _ _ hN; omega
  | succ N ih =>
    intro r ar M hr hN
    rw [f_X11_shifts_2, m_cl hC, many_ok hC hb hb2 hi M, some_bind', pm_len]
    by_cases c : L.length ≤ r
    · have er : r = L.length := by omega
      subst er
      rw [pm_all] at M
      rw [if_pos (nI_le c (by omega)), m_cl hC, mfinger_ok hC hb hb2 hi M, some_bind']
      unfold shG
      by_cases c2 : fg = -1
      · rw [if_pos c2, if_pos c2]
        exact ⟨ar 0, by rw [ua_self], c2 ▸ M, fun _ _ => rfl⟩
      · rw [if_neg c2, if_neg c2, some_bind', m_cl hC, mpoints_ok hC hb hb2 hi, some_bind']
        refine ⟨_, rfl, ⟨?_, upd_eq _ _ _, fun j hj => ?_⟩, fun q hq => upd_ne _ _ (by omega)⟩
        · rw [upd_ne _ _ (by omega)]; exact M.1
        · rw [upd_ne _ _ (by omega), upd_ne _ _ (by omega)]; exact M.2.2 j hj
    · have hr' : r < L.length := by omega
      have he := pm_nth (shE x) (r := r) hr'
      rw [if_neg (by omega)] at he
      have h0 := hL _ (nth_mem hr')
      have hq : nI (nth L r / 2) + x = nI (shE x (nth L r) / 2) := nI_addI (by unfold shE; omega)
      have hM := MA_key M (by rw [pm_len]; exact hl) (p := r) (x := shE x (nth L r)) (by rw [pm_len]; exact hr') (by rw [he]; unfold shE; omega)
      rw [← pm_s _ hr', ← hq] at hM
      have hm := (M.2.2 r (by rw [pm_len]; exact hr')).1
      rw [he] at hm
      obtain ⟨al, k1, k2, k3⟩ := ih (r + 1) (ua ar 0 (upd (ar 0) (b + 122 * i + 2 + r) (nI (nth L r / 2) + x))) (by rw [ua_eq]; exact hM) hr' (by omega)
      rw [if_neg (nI_ge hr' (by omega)), m_gR hC F v ar 0 rfl, some_bind', m_gI hC F v ar 9 rfl, some_bind', hb, mo, show (2 : Int32) = nI 2 from rfl, nI_add, nI_add, m_a0 hC F v ar (by omega), some_bind', hm, m_s0 hC F v ar _ (by omega), some_bind', bnd_eq, nI_1, k1, ua_ua]
      exact ⟨al, rfl, k2, fun q hq => by rw [k3 q hq, ua_eq, upd_ne _ _ (by omega)]⟩
theorem mshift_ok {C : MW} (hC : C.length = 123) {F : Nat → Int32} {v : Int64} {b i : Nat} (hb : F 9 = nI b) (hb2 : b ≤ 976) (hi : i < 8) {x : Int32} {L : List Nat} {fg : Int32} (S : SOK L) (hL : ∀ a ∈ L, 0 ≤ (a : Int) + x.toInt * 2) {fu : Nat} (hfu : 100 ≤ fu) {ar : Nat → Nat → Int32} (M : MA (ar 0) (b + 122 * i) L fg) : ∃ al, f_X11_shifts fu (mW C F v ar) 123 (nI i) x = some (mW C F v (ua ar 0 al)) ∧ MA al (b + 122 * i) (L.map (shE x)) (shG x fg) ∧ ∀ q, q < b + 122 * i ∨ b + 122 * i + 122 ≤ q → al q = ar 0 q := by
  rw [f_X11_shifts, bnd_eq, show (0 : Int32) = nI 0 from rfl]
  exact mshift_loop hC hb hb2 hi S hL fu fu 0 ar (by rw [pm_0]; exact M) (by omega) (by have := S.len; omega)
end
section
theorem keyAt_0 {w : MW} {h e : Nat} {L : List Nat} {fg : Int32} (H : HA w h e L fg) (S : SOK L) (hj : 0 < L.length) : f_X0_keyAt w h 0 = some (nI (nth L 0 / 2)) := keyAt_in (j := 0) H S hj
theorem MB.key0 {C : MW} {F : Nat → Int32} {v : Int64} {ar : Nat → Nat → Int32} {b : Nat} {s : AS} (B : MB C F ar b s) {i : Nat} (hi : i < 8) (hj : 0 < (s.1 i).length) : f_X11_keyAt (mW C F v ar) 123 (nI i) 0 = some (nI (nth (s.1 i) 0 / 2)) := B.key (j := 0) hi hj
theorem isKey_same (y : Int32) : f_X11_isKey y = f_X10_isKey y := rfl
def xShift (s : AS) (i : Nat) (x : Int32) : Int32 × AS :=
  if x = 0 then (-2, s) else if (s.1 i).length = 0 then (-2, s)
  else if f_X10_isKey (nI (nth (s.1 i) 0 / 2) + x) = 0 then (-3, s)
  else if f_X10_isKey (nI (nth (s.1 i) ((s.1 i).length - 1) / 2) + x) = 0 then (-3, s)
  else (nI (s.1 i).length, (va_up s.1 i ((s.1 i).map (shE x)), va_up s.2 i (shG x (s.2 i))))
theorem shRange {x : Int32} (h1 : ¬ x < -9999) (h2 : x ≤ 9999) : -9999 ≤ x.toInt ∧ x.toInt ≤ 9999 := by
  rw [Int32.lt_iff_toInt_lt] at h1
  rw [Int32.le_iff_toInt_le] at h2
  have e1 : (-9999 : Int32).toInt = -9999 := by decide
  have e2 : (9999 : Int32).toInt = 9999 := by decide
  omega
theorem isKey_nI {y : Int32} (h : ¬ f_X10_isKey y = 0) : ∃ k, k < 10000 ∧ y = nI k := by
  rcases key_cases y with h1 | h1
  · exact h1
  · exact absurd (isKey_out h1) h
theorem xShift_do {s : AS} (O : ∀ i, i < 8 → SOK (s.1 i)) {i : Nat} (hi : i < 8) {x : Int32} (h1 : -9999 ≤ x.toInt) (h2 : x.toInt ≤ 9999) (hx : ¬ (xShift s i x).1 < 0) : (∀ a ∈ s.1 i, 0 ≤ (a : Int) + x.toInt * 2 ∧ (a : Int) + x.toInt * 2 < 20000) ∧ xShift s i x = (nI (s.1 i).length, (va_up s.1 i ((s.1 i).map (shE x)), va_up s.2 i (shG x (s.2 i)))) := by
  have S := O i hi
  unfold xShift at hx ⊢
  by_cases c1 : x = 0
  · rw [if_pos c1] at hx; exact absurd (show (-2 : Int32) < 0 by decide) hx
  · rw [if_neg c1] at hx ⊢
    by_cases c2 : (s.1 i).length = 0
    · rw [if_pos c2] at hx; exact absurd (show (-2 : Int32) < 0 by decide) hx
    · rw [if_neg c2] at hx ⊢
      by_cases c3 : f_X10_isKey (nI (nth (s.1 i) 0 / 2) + x) = 0
      · rw [if_pos c3] at hx; exact absurd (show (-3 : Int32) < 0 by decide) hx
      · rw [if_neg c3] at hx ⊢
        by_cases c4 : f_X10_isKey (nI (nth (s.1 i) ((s.1 i).length - 1) / 2) + x) = 0
        · rw [if_pos c4] at hx; exact absurd (show (-3 : Int32) < 0 by decide) hx
        · rw [if_neg c4]
          refine ⟨fun a ha => ?_, rfl⟩
          obtain ⟨k0, hk0, e0⟩ := isKey_nI c3
          obtain ⟨k1, hk1, e1⟩ := isKey_nI c4
          have b0 := S.lt (show 0 < (s.1 i).length by omega)
          have b1 := S.lt (show (s.1 i).length - 1 < (s.1 i).length by omega)
          have f0 := addI_nI (by omega) (by omega) (by omega) (by omega) e0
          have f1 := addI_nI (by omega) (by omega) (by omega) (by omega) e1
          obtain ⟨j, hj, rfl⟩ := mem_nth ha
          have g0 : nth (s.1 i) 0 / 2 ≤ nth (s.1 i) j / 2 := by
            rcases Nat.eq_zero_or_pos j with q | q
            · rw [q]; exact Nat.le_refl _
            · exact Nat.le_of_lt (S.inc q hj)
          have g1 : nth (s.1 i) j / 2 ≤ nth (s.1 i) ((s.1 i).length - 1) / 2 := by
            rcases Nat.lt_or_ge j ((s.1 i).length - 1) with q | q
            · exact Nat.le_of_lt (S.inc q (by omega))
            · rw [show j = (s.1 i).length - 1 by omega]; exact Nat.le_refl _
          omega
theorem SOK_sh {L : List Nat} (S : SOK L) {x : Int32} (h : ∀ a ∈ L, 0 ≤ (a : Int) + x.toInt * 2 ∧ (a : Int) + x.toInt * 2 < 20000) : SOK (L.map (shE x)) := by
  refine SOK_map S (fun a b ha hb q => ?_) (fun a ha => ?_)
  · have := h a ha
    have := h b hb
    unfold shE
    omega
  · have := h a ha
    unfold shE
    omega
theorem xShift_rz {s : AS} (O : AOK s.1) {i : Nat} (hi : i < 8) {x : Int32} (h1 : -9999 ≤ x.toInt) (h2 : x.toInt ≤ 9999) : RZ s (xShift s i x) ∧ AOK (xShift s i x).2.1 ∧ (FOK s → FOK (xShift s i x).2) := by
  have hl := (O.1 i hi).len
  by_cases hx : (xShift s i x).1 < 0
  · unfold xShift at hx ⊢
    split
    · exact ⟨fun _ => ⟨rfl, by simp⟩, O, id⟩
    · split
      · exact ⟨fun _ => ⟨rfl, by simp⟩, O, id⟩
      · split
        · exact ⟨fun _ => ⟨rfl, by simp⟩, O, id⟩
        · split
          · exact ⟨fun _ => ⟨rfl, by simp⟩, O, id⟩
          · rename_i c1 c2 c3 c4
            rw [if_neg c1, if_neg c2, if_neg c3, if_neg c4] at hx
            exact absurd hx (nI_pos (by omega))
  · obtain ⟨g1, g2⟩ := xShift_do O.1 hi h1 h2 hx
    refine ⟨fun q => absurd q hx, ?_, fun hF => ?_⟩
    · rw [g2]
      have ht := O.2
      exact AOK_up O hi (SOK_sh (O.1 i hi) g1) (by rw [List.length_map]; omega)
    · rw [g2]
      intro j hj
      by_cases c : j = i
      · subst c
        simp only [vu_eq]
        rcases hF j hj with q | ⟨e, he, q⟩
        · rw [q]; exact Or.inl rfl
        · refine Or.inr ⟨shE x e, List.mem_map_of_mem he, ?_⟩
          have hb := (O.1 j hj).2.1 e he
          have hg := g1 e he
          unfold shG
          rw [q, if_neg (m1_ne _ (by omega))]
          exact nI_addI (by unfold shE; omega)
      · simp only [vu_ne _ _ c]; exact hF j hj
section R
variable {C : MW} {F : Nat → Int32} {v : Int64} {ar : Nat → Nat → Int32} {s : AS} {V : List AS} {n : Nat} {fu : Nat}
theorem cshiftBy_ok {w : MW} (h : CS w s.1 s.2) (O : AOK s.1) (hfu : 100 ≤ fu) {i : Nat} (hi : i < 8) {x : Int32} (h1 : ¬ x < -9999) (h2 : x ≤ 9999) : ∃ w', f_X7_shiftBy fu w 1 (nI i) x = some ((xShift s i x).1, w') ∧ CS w' (xShift s i x).2.1 (xShift s i x).2.2 ∧ Chg hpl w w' := by
  have S := O.1 i hi
  have H := h.ha hi
  have hl := S.len
  obtain ⟨r1, r2⟩ := shRange h1 h2
  have hdo := xShift_do O.1 hi r1 r2
  rw [f_X7_shiftBy, h.cl, heapAt_in h hi, some_bind']
  dsimp only
  rw [if_neg h1, if_pos h2]
  unfold xShift at hdo ⊢
  by_cases c1 : x = 0
  · rw [if_pos c1, if_pos c1]; exact ⟨w, rfl, h, Chg.rf _ _⟩
  · rw [if_neg c1] at hdo ⊢
    rw [if_neg c1, gI_ob H.2.1 rfl, some_bind']
    by_cases c2 : (s.1 i).length = 0
    · rw [if_pos ((nI_eq0 (by omega)).mpr c2), if_pos c2]; exact ⟨w, rfl, h, Chg.rf _ _⟩
    · rw [if_neg c2] at hdo ⊢
      rw [if_neg (fun q => c2 ((nI_eq0 (by omega)).mp q)), H.cl, keyAt_0 H S (by omega), some_bind']
      by_cases c3 : f_X10_isKey (nI (nth (s.1 i) 0 / 2) + x) = 0
      · rw [if_pos c3, if_pos c3]; exact ⟨w, rfl, h, Chg.rf _ _⟩
      · rw [if_neg c3] at hdo ⊢
        rw [if_neg c3, some_bind', show (1 : Int32) = nI 1 from rfl, nI_sub (by omega), H.cl, keyAt_in H S (by omega), some_bind']
        by_cases c4 : f_X10_isKey (nI (nth (s.1 i) ((s.1 i).length - 1) / 2) + x) = 0
        · rw [if_pos c4, if_pos c4]; exact ⟨w, rfl, h, Chg.rf _ _⟩
        · rw [if_neg c4] at hdo ⊢
          obtain ⟨g1, -⟩ := hdo (nI_pos (by omega))
          obtain ⟨w', k1, k2, k3⟩ := cshift_ok (x := x) S (fun a ha => (g1 a ha).1) hfu H
          rw [if_neg c4, H.cl, k1, some_bind', gI_ob k2.2.1 rfl, some_bind', List.length_map]
          exact ⟨w', rfl, h.put hi k2 k3, k3.mono (hpl_in hi)⟩
theorem mrShift {b : Nat} (B : MB C F ar b s) {i : Nat} (hi : i < 8) {x : Int32} (h1 : ¬ x < -9999) (h2 : x ≤ 9999) : f_X11_refusesShift (mW C F v ar) 123 (nI i) x = some (wOf (xShift s i x).1) := by
  have hl := (B.2.2.2.2 i hi).len
  have e0 : f_X11_isIn x (-9999) 9999 = 1 := by
    rw [f_X11_isIn, if_neg h1, if_neg (Int32.not_lt.mpr h2)]
  rw [f_X11_refusesShift, mSet_in hi, if_neg (by decide), e0, if_neg (by decide)]
  unfold xShift
  by_cases c1 : x = 0
  · rw [if_pos c1, if_pos c1, wOf_2]
  · rw [if_neg c1, if_neg c1, B.cl, B.many hi, some_bind']
    by_cases c2 : (s.1 i).length = 0
    · rw [if_pos ((nI_eq0 (by omega)).mpr c2), if_pos c2, wOf_2]
    · rw [if_neg (fun q => c2 ((nI_eq0 (by omega)).mp q)), if_neg c2, B.cl, B.key0 hi (by omega), some_bind', isKey_same]
      by_cases c3 : f_X10_isKey (nI (nth (s.1 i) 0 / 2) + x) = 0
      · rw [if_pos c3, if_pos c3, wOf_3]
      · rw [if_neg c3, if_neg c3, some_bind', show (1 : Int32) = nI 1 from rfl, nI_sub (by omega), B.cl, B.key hi (by omega), some_bind', isKey_same]
        by_cases c4 : f_X10_isKey (nI (nth (s.1 i) ((s.1 i).length - 1) / 2) + x) = 0
        · rw [if_pos c4, if_pos c4, wOf_3]
        · rw [if_neg c4, if_neg c4, wOf_n (by omega)]
theorem mshift_do {b : Nat} (B : MB C F ar b s) (hfu : 100 ≤ fu) {i : Nat} (hi : i < 8) {x : Int32} (h1 : ¬ x < -9999) (h2 : x ≤ 9999) (hx : ¬ (xShift s i x).1 < 0) : ∃ al, f_X11_shifts fu (mW C F v ar) 123 (nI i) x = some (mW C F v (ua ar 0 al)) ∧ M8 al b (xShift s i x).2 ∧ ∀ q, q < b ∨ b + 976 ≤ q → al q = ar 0 q := by
  obtain ⟨r1, r2⟩ := shRange h1 h2
  obtain ⟨g1, g2⟩ := xShift_do B.2.2.2.2 hi r1 r2 hx
  obtain ⟨al, k1, k2, k3⟩ := mshift_ok (v := v) B.1 B.2.1 B.2.2.1 hi (x := x) (B.2.2.2.2 i hi) (fun a ha => (g1 a ha).1) hfu (B.2.2.2.1 i hi)
  refine ⟨al, k1, ?_, fun q hq => k3 q (by omega)⟩
  rw [g2]
  exact B.2.2.2.1.put B.2.2.2.2 hi k2 k3
theorem shift_res (G : Good C F v ar s V n) (hfu : 20000 ≤ fu) (a x : Int32) : ∃ s' V', Res C F ar s' V' (f_X10_shift fu (mW C F v ar) 0 a x) (fun w => f_X11_shift fu w 123 a x) := by
  have e1 : f_X10_shift fu (mW C F v ar) 0 a x = actOf (fun w p => f_X7_shiftBy fu w p a x) fu (mW C F v ar) := rfl
  have e2 : (fun w => f_X11_shift fu w 123 a x) = mactOf (fun w => f_X11_refusesShift w 123 a x) (fun w => (cl w 11 123 (f_X11_shifts fu w 123 a x)).bind fun q8 => (cl q8 11 123 (f_X11_many q8 123 a)).bind fun q11 => some (q11, q8)) fu := rfl
  rw [e1, e2]
  have B := G.1.mb
  have O := G.1.2.2.2.1
  have hfu2 : 100 ≤ fu := by omega
  rcases set_cases a with ⟨i, hi, rfl⟩ | ha
  · by_cases h1 : x < -9999
    · refine ⟨_, _, act_bad G hfu (fun u hu => ?_) (fun C' hC' => ?_)⟩
      · rw [f_X7_shiftBy, hu.cl, heapAt_in hu hi, some_bind']
        dsimp only
        rw [if_pos h1]
      · rw [f_X11_refusesShift, mSet_in hi, if_neg (by decide), f_X11_isIn, if_pos h1, if_pos rfl]
    · by_cases h2 : x ≤ 9999
      · obtain ⟨r1, r2⟩ := shRange h1 h2
        obtain ⟨z1, z2, z3⟩ := xShift_rz O hi r1 r2
        refine ⟨_, _, act_res G hfu z2 z3 hpl_31 (fun u hu hz => ?_) z1 (fun C' hC' => ?_) (fun hx C' F' al hC' hF hM => ?_)⟩
        · obtain ⟨u', g1, g2, g3⟩ := cshiftBy_ok hu O hfu2 hi h1 h2
          exact ⟨u', g1, g2, hz.hp g3, g3⟩
        · exact mrShift (B.F hC' rfl B.2.2.2.1 O.1) hi h1 h2
        · have B1 : MB C' F' (ua ar 0 al) 0 s := B.F hC' (hF 9 (by omega)) (by rw [ua_eq]; exact hM) O.1
          obtain ⟨al2, g1, g2, g4⟩ := mshift_do (v := v) B1 hfu2 hi h1 h2 hx
          have B2 := B1.F (ar' := ua (ua ar 0 al) 0 al2) hC' rfl (by rw [ua_eq]; exact g2) z2.1
          refine ⟨F', v, ua (ua ar 0 al) 0 al2, ?_, by rw [ua_eq]; exact g2, fun q hq => by rw [ua_eq, g4 q (by omega), ua_eq], fun _ _ => rfl, fun k h1 h2 => by rw [ua_ne _ _ (by omega), ua_ne _ _ (by omega)]⟩
          rw [B1.cl, g1, some_bind', B2.cl, B2.many hi, some_bind', (xShift_do O.1 hi r1 r2 hx).2]
          dsimp only
          rw [vu_eq, List.length_map]
      · refine ⟨_, _, act_bad G hfu (fun u hu => ?_) (fun C' hC' => ?_)⟩
        · rw [f_X7_shiftBy, hu.cl, heapAt_in hu hi, some_bind']
          dsimp only
          rw [if_neg h1, if_neg h2]
        · rw [f_X11_refusesShift, mSet_in hi, if_neg (by decide), f_X11_isIn, if_neg h1, if_pos (Int32.not_le.mp h2), if_pos rfl]
  · refine ⟨_, _, act_bad G hfu (fun u hu => ?_) (fun C' hC' => ?_)⟩
    · rw [f_X7_shiftBy, hu.cl, heapAt_out ha, some_bind']
    · rw [f_X11_refusesShift, mSet_out ha, if_pos rfl]
end R
end
section
/-! MARK -/
theorem nth_ext {L M : List Nat} (hl : L.length = M.length) (h : ∀ j, j < L.length → nth L j = nth M j) : L = M := by
  refine List.ext_getElem hl (fun j h1 h2 => ?_)
  have := h j h1
  rw [nth_get h1, nth_get h2] at this
  exact this
theorem nth_map {L : List Nat} {f : Nat → Nat} {j : Nat} (h : j < L.length) : nth (L.map f) j = f (nth L j) := by
  have h2 : j < (L.map f).length := by rw [List.length_map]; exact h
  rw [nth_get h, nth_get h2, List.getElem_map]
theorem smF_split (f : Nat → Nat) {i m : Nat} (h1 : i ≤ m) : ∀ e, m ≤ e → smF f i e = smF f i m + smF f m e := by
  intro e
  induction e with
  | zero => intro h; rw [show m = 0 by omega]; rw [smF_end f (Nat.le_refl 0)]; rfl
  | succ e ih =>
    intro h
    rcases Nat.lt_or_ge e m with q | q
    · rw [show m = e + 1 by omega, smF_end f (Nat.le_refl (e + 1))]; rfl
    · rw [smF_snoc f e i (by omega), smF_snoc f e m q, ih q]; omega
theorem smF_zero (f : Nat → Nat) {i : Nat} : ∀ {e : Nat}, (∀ j, i ≤ j → j < e → f j = 0) → smF f i e = 0
  | 0, _ => smF_end f (by omega)
  | e + 1, h => by
    rcases Nat.lt_or_ge e i with q | q
    · exact smF_end f (by omega)
    · rw [smF_snoc f e i q, smF_zero f (fun j h1 h2 => h j h1 (by omega)), h e q (by omega)]
theorem smF_le (f : Nat → Nat) (h : ∀ j, f j ≤ 1) : ∀ e i, i ≤ e → smF f i e ≤ e - i := by
  intro e
  induction e with
  | zero => intro i _; rw [smF_end f (by omega)]; omega
  | succ e ih =>
    intro i hi
    rcases Nat.lt_or_ge e i with q | q
    · rw [smF_end f (by omega)]; omega
    · rw [smF_snoc f e i q]
      have := ih i q
      have := h e
      omega
/-- marks of keys from x to y become m -/
def mkF (x y : Int32) (m e : Nat) : Nat := if x ≤ nI (e / 2) ∧ nI (e / 2) ≤ y then 2 * (e / 2) + m else e
def mkG (x y : Int32) (m : Nat) (L : List Nat) (j : Nat) : Nat := if (x ≤ nI (nth L j / 2) ∧ nI (nth L j / 2) ≤ y) ∧ nth L j % 2 ≠ m then 1 else 0
/-- how many change -/
def mkN (x y : Int32) (m : Nat) (L : List Nat) : Nat := smF (mkG x y m L) 0 L.length
theorem mkG_le (x y : Int32) (m : Nat) (L : List Nat) (j : Nat) : mkG x y m L j ≤ 1 := by
  unfold mkG; split <;> omega
theorem mkN_le (x y : Int32) (m : Nat) (L : List Nat) : mkN x y m L ≤ L.length := smF_le _ (mkG_le x y m L) _ _ (Nat.zero_le _)
theorem mkF_key (x y : Int32) {m : Nat} (hm : m ≤ 1) (e : Nat) : mkF x y m e / 2 = e / 2 := by
  unfold mkF; split <;> omega
theorem nI_xor {e : Nat} (h : e < 20000) : nI e ^^^ (1 : Int32) = nI (2 * (e / 2) + (1 - e % 2)) := by
  apply Int32.toBitVec_inj.mp
  apply BitVec.eq_of_toNat_eq
  show (BitVec.ofNat 32 e ^^^ 1#32).toNat = (BitVec.ofNat 32 (2 * (e / 2) + (1 - e % 2))).toNat
  rw [BitVec.toNat_xor, BitVec.toNat_ofNat, BitVec.toNat_ofNat, BitVec.toNat_ofNat, Nat.mod_eq_of_lt (show e < 2 ^ 32 by omega), Nat.mod_eq_of_lt (show 2 * (e / 2) + (1 - e % 2) < 2 ^ 32 by omega)]
  show e ^^^ 1 = 2 * (e / 2) + (1 - e % 2)
  apply Nat.eq_of_testBit_eq
  intro i
  rw [Nat.testBit_xor]
  cases i with
  | zero =>
    rw [Nat.testBit_zero, Nat.testBit_zero, Nat.testBit_zero]
    have h2 : e % 2 = 0 ∨ e % 2 = 1 := by omega
    rcases h2 with q | q
    · have q2 : (2 * (e / 2) + (1 - e % 2)) % 2 = 1 := by omega
      rw [q2, q]; rfl
    · have q2 : (2 * (e / 2) + (1 - e % 2)) % 2 = 0 := by omega
      rw [q2, q]; rfl
  | succ i =>
    rw [Nat.testBit_succ, Nat.testBit_succ, Nat.testBit_succ, show (2 * (e / 2) + (1 - e % 2)) / 2 = e / 2 by omega, show 1 / 2 = 0 by omega, Nat.zero_testBit, Bool.xor_false]
theorem in_range {L : List Nat} (S : SOK L) (x y : Int32) {j : Nat} (hj : j < L.length) : (x ≤ nI (nth L j / 2) ∧ nI (nth L j / 2) ≤ y) ↔ (bel L x ≤ j ∧ j < nab L y) := by
  have h1 := bel_iff x L S j hj
  have h2 := nab_iff y L S j hj
  rw [h2]
  refine and_congr_left' ?_
  rw [← Int32.not_lt, ← h1]
  omega
theorem cmark_loop {x y : Int32} {m : Nat} (hm : m ≤ 1) {h e : Nat} {L : List Nat} {fg : Int32} (S : SOK L) (fu : Nat) : ∀ N r acc w, HA w h e (pm (mkF x y m) r L) fg → bel L x ≤ r → r ≤ 60 → nab L y - r < N → ∃ w', f_X0_markBetween_17 fu N w h (nI m) (nI (nab L y)) (nI acc) (nI r) = some (nI (acc + smF (mkG x y m L) r (nab L y)), w') ∧ HA w' h e (pm (mkF x y m) (max r (nab L y)) L) fg ∧ Chg [e] w w' := by
  have hl := S.len
  have hn := nab_le L y
  intro N
  induction N with
  | zero => intro r acc w _ _ _ hN; omega
  | succ N ih =>
    intro r acc w H hr h60 hN
    rw [f_X0_markBetween_17]
    by_cases c : nab L y ≤ r
    · rw [if_pos (nI_le c (by omega)), smF_end _ c, Nat.max_eq_left c]
      exact ⟨w, rfl, H, Chg.rf _ _⟩
    · have hr' : r < L.length := by omega
      have he := pm_nth (mkF x y m) (r := r) hr'
      rw [if_neg (by omega)] at he
      have hlt := S.lt hr'
      have hin := (in_range S x y hr').mpr ⟨hr, by omega⟩
      have hf : mkF x y m (nth L r) = 2 * (nth L r / 2) + m := by unfold mkF; rw [if_pos hin]
      have hps := pm_s (mkF x y m) hr'
      rw [if_neg (nI_ge (by omega) (by omega)), gR_ob H.2.1 rfl, some_bind', H.ent (by rw [pm_len]; exact hl) (by rw [pm_len]; exact hr'), some_bind', he, nI_odd (by omega), smF_cons _ (by omega : r < nab L y)]
      by_cases c2 : nth L r % 2 = m
      · have hg : mkG x y m L r = 0 := by unfold mkG; rw [if_neg (fun q => q.2 c2)]
        have hs : pm (mkF x y m) (r + 1) L = pm (mkF x y m) r L := by
          rw [hps, hf, show 2 * (nth L r / 2) + m = nth (pm (mkF x y m) r L) r by rw [he]; omega]
          exact set_same (by rw [pm_len]; exact hr')
        obtain ⟨w2, k1, k2, k3⟩ := ih (r + 1) acc w (by rw [hs]; exact H) (by omega) (by omega) (by omega)
        rw [if_pos (by rw [c2]), f_X0_markBetween_51, bnd_eq, nI_1, k1, hg, Nat.zero_add]
        refine ⟨w2, rfl, ?_, k3⟩
        rw [show max r (nab L y) = max (r + 1) (nab L y) by omega]; exact k2
      · have hg : mkG x y m L r = 1 := by unfold mkG; rw [if_pos ⟨hin, c2⟩]
        have hx : nI (nth L r) ^^^ (1 : Int32) = nI (mkF x y m (nth L r)) := by
          rw [nI_xor hlt, hf]; congr 1; omega
        obtain ⟨w1, g1, g2, g3⟩ := HA_set H (by rw [pm_len]; exact hl) (r := r) (x := mkF x y m (nth L r)) (by rw [pm_len]; exact hr')
        rw [← hps] at g2
        obtain ⟨w2, k1, k2, k3⟩ := ih (r + 1) (acc + 1) w1 g2 (by omega) (by omega) (by omega)
        rw [if_neg (fun q => c2 ((nI_eq (by omega) (by omega)).mp q)), some_bind', H.ent (by rw [pm_len]; exact hl) (by rw [pm_len]; exact hr'), some_bind', he, hx, g1, some_bind', bnd_eq, nI_1, f_X0_markBetween_51, bnd_eq, nI_1, k1, hg]
        refine ⟨w2, by rw [Nat.add_assoc], ?_, g3.tr k3⟩
        rw [show max r (nab L y) = max (r + 1) (nab L y) by omega]; exact k2
theorem mkG_0 {x y : Int32} {m : Nat} {L : List Nat} (S : SOK L) {j : Nat} (hj : j < L.length) (h : ¬ (bel L x ≤ j ∧ j < nab L y)) : mkG x y m L j = 0 := by
  unfold mkG
  rw [if_neg (fun q => h ((in_range S x y hj).mp q.1))]
theorem mkF_0 {x y : Int32} {m : Nat} {L : List Nat} (S : SOK L) {j : Nat} (hj : j < L.length) (h : ¬ (bel L x ≤ j ∧ j < nab L y)) : mkF x y m (nth L j) = nth L j := by
  unfold mkF
  rw [if_neg (fun q => h ((in_range S x y hj).mp q))]
theorem mkN_eq {x y : Int32} {m : Nat} {L : List Nat} (S : SOK L) : smF (mkG x y m L) (bel L x) (nab L y) = mkN x y m L := by
  have h1 := bel_le L x
  have h2 := nab_le L y
  unfold mkN
  rcases Nat.lt_or_ge (nab L y) (bel L x) with c | c
  · rw [smF_end _ (by omega), smF_zero _ (fun j _ hj => mkG_0 S hj (by omega))]
  · rw [smF_split _ (Nat.zero_le (bel L x)) _ h1, smF_split _ c _ h2, smF_zero _ (i := 0) (fun j _ hj => mkG_0 S (by omega) (by omega)), smF_zero _ (i := nab L y) (fun j _ hj => mkG_0 S (by omega) (by omega))]
    omega
theorem pm_begin {f : Nat → Nat} {r : Nat} {L : List Nat} (h : ∀ j, j < r → j < L.length → f (nth L j) = nth L j) : pm f r L = L := by
  refine nth_ext (pm_len _ _ _) (fun j hj => ?_)
  rw [pm_len] at hj
  rw [pm_nth f hj]
  split
  · exact h j (by assumption) hj
  · rfl
theorem pm_end {f : Nat → Nat} {r : Nat} {L : List Nat} (h : ∀ j, r ≤ j → j < L.length → f (nth L j) = nth L j) : pm f r L = L.map f := by
  refine nth_ext (by rw [pm_len, List.length_map]) (fun j hj => ?_)
  rw [pm_len] at hj
  rw [pm_nth f hj, nth_map hj]
  split
  · rfl
  · exact (h j (by omega) hj).symm
theorem cmark_ok {x y : Int32} {m : Nat} (hm : m ≤ 1) {h e : Nat} {L : List Nat} {fg : Int32} (S : SOK L) {fu : Nat} (hfu : 100 ≤ fu) {w : MW} (H : HA w h e L fg) : ∃ w', f_X0_markBetween fu w h x y (nI m) = some (nI (mkN x y m L), w') ∧ HA w' h e (L.map (mkF x y m)) fg ∧ Chg [e] w w' := by
  have h1 := bel_le L x
  have h2 := nab_le L y
  have hl := S.len
  obtain ⟨w', g1, g2, g3⟩ := cmark_loop (x := x) (y := y) hm S fu fu (bel L x) 0 w (by rw [pm_begin (fun j hj hj2 => mkF_0 S hj2 (by omega))]; exact H) (Nat.le_refl _) (by omega) (by omega)
  rw [mkN_eq S, Nat.zero_add] at g1
  rw [pm_end (fun j hj hj2 => mkF_0 S hj2 (by omega))] at g2
  refine ⟨w', ?_, g2, g3⟩
  rw [f_X0_markBetween, H.cl, notAbove_ok H S hfu, some_bind', bnd_eq, bnd_eq, H.cl, below_ok H S hfu, some_bind', bnd_eq, show (0 : Int32) = nI 0 from rfl, g1]
section M
variable {C : MW} {F : Nat → Int32} {v : Int64} {ar : Nat → Nat → Int32} {b : Nat} {s : AS} {fu : Nat}
theorem mmark_loop0 (B : MB C F ar b s) {i : Nat} (hi : i < 8) {x y : Int32} {m : Nat} (hm : m ≤ 1) : ∀ N r acc, r ≤ (s.1 i).length → (s.1 i).length - r < N → f_X11_marked_6 fu N (mW C F v ar) 123 (nI i) x y (nI m) 0 (nI acc) (nI r) = some (nI (acc + smF (mkG x y m (s.1 i)) r (s.1 i).length), mW C F v ar) := by
  have S := B.2.2.2.2 i hi
  have hl := S.len
  intro N
  induction N with
  | zero => intro r acc _ hN; omega
  | succ N ih =>
    intro r acc hr hN
    rw [f_X11_marked_6, B.cl, B.many hi, some_bind']
    by_cases c : (s.1 i).length ≤ r
    · rw [if_pos (nI_le c (by omega)), smF_end _ c]; rfl
    · have hr' : r < (s.1 i).length := by omega
      rw [if_neg (nI_ge hr' (by omega)), B.cl, B.key hi hr', some_bind', smF_cons _ hr']
      by_cases c2 : x ≤ nI (nth (s.1 i) r / 2) ∧ nI (nth (s.1 i) r / 2) ≤ y
      · rw [if_neg (fun q => (isIn_0 _ _ _).mp q c2), B.cl, B.mark hi hr', some_bind']
        by_cases c3 : nth (s.1 i) r % 2 = m
        · have hg : mkG x y m (s.1 i) r = 0 := by unfold mkG; rw [if_neg (fun q => q.2 c3)]
          rw [if_pos (by rw [c3]), f_X11_marked_76, bnd_eq, nI_1, ih (r + 1) _ hr' (by omega), hg, Nat.zero_add]
        · have hg : mkG x y m (s.1 i) r = 1 := by unfold mkG; rw [if_pos ⟨c2, c3⟩]
          rw [if_neg (fun q => c3 ((nI_eq (by omega) (by omega)).mp q)), bnd_eq, nI_1, if_pos rfl, f_X11_marked_76, bnd_eq, nI_1, ih (r + 1) _ hr' (by omega), hg, Nat.add_assoc]
      · have hg : mkG x y m (s.1 i) r = 0 := by unfold mkG; rw [if_neg (fun q => c2 q.1)]
        rw [if_pos ((isIn_0 _ _ _).mpr c2), f_X11_marked_76, bnd_eq, nI_1, ih (r + 1) _ hr' (by omega), hg, Nat.zero_add]
theorem mmark_0 (B : MB C F ar b s) (hfu : 100 ≤ fu) {i : Nat} (hi : i < 8) {x y : Int32} {m : Nat} (hm : m ≤ 1) : f_X11_marked fu (mW C F v ar) 123 (nI i) x y (nI m) 0 = some (nI (mkN x y m (s.1 i)), mW C F v ar) := by
  rw [f_X11_marked, bnd_eq, bnd_eq]
  have := mmark_loop0 (v := v) (fu := fu) B hi (x := x) (y := y) hm fu 0 0 (by omega) (by have := (B.2.2.2.2 i hi).len; omega)
  rw [Nat.zero_add] at this
  exact this
theorem mmark_loop1 (hC : C.length = 123) (hb : F 9 = nI b) (hb2 : b ≤ 976) {i : Nat} (hi : i < 8) {L : List Nat} {fg : Int32} (S : SOK L) {x y : Int32} {m : Nat} (hm : m ≤ 1) : ∀ N r acc ar, MA (ar 0) (b + 122 * i) (pm (mkF x y m) r L) fg → SOK (pm (mkF x y m) r L) → r ≤ L.length → L.length - r < N → ∃ al, f_X11_marked_6 fu N (mW C F v ar) 123 (nI i) x y (nI m) 1 (nI acc) (nI r) = some (nI (acc + smF (mkG x y m L) r L.length), mW C F v (ua ar 0 al)) ∧ MA al (b + 122 * i) (L.map (mkF x y m)) fg ∧ ∀ q, q < b + 122 * i ∨ b + 122 * i + 122 ≤ q → al q = ar 0 q := by
  have hl := S.len
  intro N
  induction N with
  | zero => intro r acc ar _ _ _ hN; omega
  | succ N ih =>
    intro r acc ar M S1 hr hN
    rw [f_X11_marked_6, m_cl hC, many_ok hC hb hb2 hi M, some_bind', pm_len]
    by_cases c : L.length ≤ r
    · have er : r = L.length := by omega
      subst er
      rw [pm_all] at M
      rw [if_pos (nI_le c (by omega)), smF_end _ c]
      exact ⟨ar 0, by rw [ua_self]; rfl, M, fun _ _ => rfl⟩
    · have hr' : r < L.length := by omega
      have hr2 : r < (pm (mkF x y m) r L).length := by rw [pm_len]; exact hr'
      have he := pm_nth (mkF x y m) (r := r) hr'
      rw [if_neg (by omega)] at he
      have hlt := S.lt hr'
      have hps := pm_s (mkF x y m) hr'
      have hS2 : SOK (pm (mkF x y m) (r + 1) L) := by
        rw [hps]; exact SOK_set S1 hr2 (by rw [mkF_key _ _ hm, he])
      rw [if_neg (nI_ge hr' (by omega)), m_cl hC, mkeyAt_ok hC hb hb2 hi M S1 hr2, some_bind', he, smF_cons _ hr']
      by_cases c2 : x ≤ nI (nth L r / 2) ∧ nI (nth L r / 2) ≤ y
      · have hf : mkF x y m (nth L r) = 2 * (nth L r / 2) + m := by unfold mkF; rw [if_pos c2]
        rw [if_neg (fun q => (isIn_0 _ _ _).mp q c2), m_cl hC, mmarkAt_ok hC hb hb2 hi M S1 hr2, some_bind', he]
        by_cases c3 : nth L r % 2 = m
        · have hg : mkG x y m L r = 0 := by unfold mkG; rw [if_neg (fun q => q.2 c3)]
          have hs : pm (mkF x y m) (r + 1) L = pm (mkF x y m) r L := by
            rw [hps, hf, show 2 * (nth L r / 2) + m = nth (pm (mkF x y m) r L) r by rw [he]; omega]
            exact set_same hr2
          obtain ⟨al, k1, k2, k3⟩ := ih (r + 1) acc ar (by rw [hs]; exact M) hS2 hr' (by omega)
          rw [if_pos (by rw [c3]), f_X11_marked_76, bnd_eq, nI_1, k1, hg, Nat.zero_add]
          exact ⟨al, rfl, k2, k3⟩
        · have hg : mkG x y m L r = 1 := by unfold mkG; rw [if_pos ⟨c2, c3⟩]
          have hM := MA_mark M (by rw [pm_len]; exact hl) (p := r) (x := mkF x y m (nth L r)) hr2 (by rw [mkF_key _ _ hm, he])
          rw [← hps, hf, show (2 * (nth L r / 2) + m) % 2 = m by omega] at hM
          obtain ⟨al, k1, k2, k3⟩ := ih (r + 1) (acc + 1) (ua ar 0 (upd (ar 0) (b + 122 * i + 62 + r) (nI m))) (by rw [ua_eq]; exact hM) hS2 hr' (by omega)
          rw [if_neg (fun q => c3 ((nI_eq (by omega) (by omega)).mp q)), bnd_eq, nI_1, if_neg (by decide), m_gR hC F v ar 0 rfl, some_bind', m_gI hC F v ar 9 rfl, some_bind', hb, mo, show (62 : Int32) = nI 62 from rfl, nI_add, nI_add, m_s0 hC F v ar _ (by omega), some_bind', f_X11_marked_76, bnd_eq, nI_1, k1, hg, Nat.add_assoc, ua_ua]
          exact ⟨al, rfl, k2, fun q hq => by rw [k3 q hq, ua_eq, upd_ne _ _ (by omega)]⟩
      · have hf : mkF x y m (nth L r) = nth L r := by unfold mkF; rw [if_neg c2]
        have hg : mkG x y m L r = 0 := by unfold mkG; rw [if_neg (fun q => c2 q.1)]
        have hs : pm (mkF x y m) (r + 1) L = pm (mkF x y m) r L := by
          rw [hps, hf]
          have := set_same hr2
          rw [he] at this
          exact this
        obtain ⟨al, k1, k2, k3⟩ := ih (r + 1) acc ar (by rw [hs]; exact M) hS2 hr' (by omega)
        rw [if_pos ((isIn_0 _ _ _).mpr c2), f_X11_marked_76, bnd_eq, nI_1, k1, hg, Nat.zero_add]
        exact ⟨al, rfl, k2, k3⟩
def xMark (s : AS) (i a b m : Nat) : Int32 × AS := if mkN (nI a) (nI b) m (s.1 i) = 0 then (-2, s) else (nI (mkN (nI a) (nI b) m (s.1 i)), (va_up s.1 i ((s.1 i).map (mkF (nI a) (nI b) m)), s.2))
theorem SOK_mk {L : List Nat} (S : SOK L) {x y : Int32} {m : Nat} (hm : m ≤ 1) : SOK (L.map (mkF x y m)) := by
  refine SOK_map S (fun a b _ _ q => ?_) (fun a ha => ?_)
  · rw [mkF_key _ _ hm, mkF_key _ _ hm]; exact q
  · have h1 := mkF_key x y hm a
    have h2 := S.2.1 a ha
    omega
theorem xMark_rz (O : AOK s.1) {i a b m : Nat} (hi : i < 8) (hm : m ≤ 1) : RZ s (xMark s i a b m) ∧ AOK (xMark s i a b m).2.1 ∧ (FOK s → FOK (xMark s i a b m).2) := by
  have hl := (O.1 i hi).len
  have hn := mkN_le (nI a) (nI b) m (s.1 i)
  have ht := O.2
  unfold xMark
  split
  · exact ⟨fun _ => ⟨rfl, by simp⟩, O, id⟩
  · refine ⟨fun q => absurd q (nI_pos (by omega)), AOK_up O hi (SOK_mk (O.1 i hi) hm) (by rw [List.length_map]; omega), fun hF j hj => ?_⟩
    by_cases c : j = i
    · subst c
      simp only [vu_eq]
      rcases hF j hj with q | ⟨e, he, q⟩
      · exact Or.inl q
      · exact Or.inr ⟨mkF (nI a) (nI b) m e, List.mem_map_of_mem he, by rw [mkF_key _ _ hm]; exact q⟩
    · simp only [vu_ne _ _ c]; exact hF j hj
theorem cmarkS_ok {w : MW} (h : CS w s.1 s.2) (O : AOK s.1) (hfu : 100 ≤ fu) {i a c m : Nat} (hi : i < 8) (ha : a < 10000) (hc : c < 10000) (hm : m ≤ 1) : ∃ w', f_X7_markStretch fu w 1 (nI i) (nI a) (nI c) (nI m) = some ((xMark s i a c m).1, w') ∧ CS w' (xMark s i a c m).2.1 (xMark s i a c m).2.2 ∧ Chg hpl w w' := by
  have S := O.1 i hi
  have H := h.ha hi
  have hl := S.len
  have hn := mkN_le (nI a) (nI c) m (s.1 i)
  obtain ⟨w', g1, g2, g3⟩ := cmark_ok (x := nI a) (y := nI c) hm S hfu H
  have g3' : Chg [13 + 2 * i, 14 + 2 * i] w w' := g3.mono (by simp)
  have C1 : CS w' (va_up s.1 i ((s.1 i).map (mkF (nI a) (nI c) m))) s.2 := by
    have := h.put hi g2 g3'
    refine this.ext (fun t ht => ⟨rfl, ?_⟩)
    by_cases q : t = i
    · rw [q, vu_eq]
    · rw [vu_ne _ _ q]
  have key : f_X7_markStretch fu w 1 (nI i) (nI a) (nI c) (nI m) = f_X7_markStretch_42 fu w (13 + 2 * i) (nI a) (nI c) (nI m) := by
    rw [f_X7_markStretch, h.cl, heapAt_in h hi, some_bind']
    dsimp only
    rw [isKey_in ha, isKey_in hc, if_neg (by decide), if_neg (by decide)]
    have : m = 0 ∨ m = 1 := by omega
    rcases this with rfl | rfl
    · rw [if_pos (by decide)]; rfl
    · rw [if_neg (by decide)]; rfl
  rw [key, f_X7_markStretch_42, H.cl, g1, some_bind', bnd_eq]
  unfold xMark
  by_cases c0 : mkN (nI a) (nI c) m (s.1 i) = 0
  · rw [if_pos ((nI_eq0 (by omega)).mpr c0), if_pos c0]
    have e : (s.1 i).map (mkF (nI a) (nI c) m) = s.1 i := by
      rw [← pm_end (r := 0) (f := mkF (nI a) (nI c) m) (fun j _ hj => ?_), pm_0]
      unfold mkN at c0
      have h1 : mkG (nI a) (nI c) m (s.1 i) j = 0 := by
        rw [smF_split _ (Nat.zero_le j) _ (Nat.le_of_lt hj), smF_cons _ hj] at c0
        omega
      unfold mkG at h1
      unfold mkF
      split
      · rename_i q
        have : nth (s.1 i) j % 2 = m := by
          refine Decidable.byContradiction fun q2 => ?_
          rw [if_pos ⟨q, q2⟩] at h1
          omega
        omega
      · rfl
    rw [e] at C1
    refine ⟨w', rfl, C1.ext (fun t ht => ⟨?_, rfl⟩), g3'.mono (hpl_in hi)⟩
    by_cases q : t = i
    · rw [q, vu_eq]
    · rw [vu_ne _ _ q]
  · rw [if_neg (fun q => c0 ((nI_eq0 (by omega)).mp q)), if_neg c0]
    exact ⟨w', rfl, C1, g3'.mono (hpl_in hi)⟩
theorem mrMark (B : MB C F ar b s) (hfu : 100 ≤ fu) {i a c m : Nat} (hi : i < 8) (ha : a < 10000) (hc : c < 10000) (hm : m ≤ 1) : f_X11_refusesMark fu (mW C F v ar) 123 (nI i) (nI a) (nI c) (nI m) = some (wOf (xMark s i a c m).1, mW C F v ar) := by
  have hl := (B.2.2.2.2 i hi).len
  have hn := mkN_le (nI a) (nI c) m (s.1 i)
  rw [f_X11_refusesMark, mSet_in hi, mKey_in ha, mKey_in hc, if_neg (by decide), if_neg (by decide), if_neg (by decide), B.cl, mmark_0 B hfu hi hm, some_bind']
  unfold xMark
  by_cases c0 : mkN (nI a) (nI c) m (s.1 i) = 0
  · rw [if_pos ((nI_eq0 (by omega)).mpr c0), if_pos c0, wOf_2]
  · rw [if_neg (fun q => c0 ((nI_eq0 (by omega)).mp q)), if_neg c0, wOf_n (by omega)]
theorem mmark_do (B : MB C F ar b s) (hfu : 100 ≤ fu) {i a c m : Nat} (hi : i < 8) (hm : m ≤ 1) (hx : ¬ (xMark s i a c m).1 < 0) : ∃ al, f_X11_marked fu (mW C F v ar) 123 (nI i) (nI a) (nI c) (nI m) 1 = some ((xMark s i a c m).1, mW C F v (ua ar 0 al)) ∧ M8 al b (xMark s i a c m).2 ∧ ∀ q, q < b ∨ b + 976 ≤ q → al q = ar 0 q := by
  have S := B.2.2.2.2 i hi
  have hl := S.len
  unfold xMark at hx ⊢
  split at hx
  · exact absurd (show (-2 : Int32) < 0 by decide) hx
  · rename_i c0
    rw [if_neg c0]
    obtain ⟨al, k1, k2, k3⟩ := mmark_loop1 (v := v) (fu := fu) B.1 B.2.1 B.2.2.1 hi S (x := nI a) (y := nI c) hm fu 0 0 ar (by rw [pm_0]; exact B.2.2.2.1 i hi) (by rw [pm_0]; exact S) (by omega) (by omega)
    rw [Nat.zero_add] at k1
    refine ⟨al, ?_, ?_, fun q hq => k3 q (by omega)⟩
    · rw [f_X11_marked, bnd_eq, bnd_eq]; exact k1
    · have := B.2.2.2.1.put B.2.2.2.2 hi k2 k3
      have e : va_up s.2 i (s.2 i) = s.2 := by
        funext t; by_cases q : t = i
        · rw [q, vu_eq]
        · rw [vu_ne _ _ q]
      rw [e] at this
      exact this
end M
section R
variable {C : MW} {F : Nat → Int32} {v : Int64} {ar : Nat → Nat → Int32} {s : AS} {V : List AS} {n : Nat} {fu : Nat}
theorem mark_bad {u : MW} (hu : CS u s.1 s.2) {a b c d : Int32} (h : (a < 0 ∨ 8 ≤ a) ∨ (b < 0 ∨ 9999 < b) ∨ (c < 0 ∨ 9999 < c)) : f_X7_markStretch fu u 1 a b c d = some (-1, u) := by
  rw [f_X7_markStretch, hu.cl]
  rcases set_cases a with ⟨i, hi, rfl⟩ | ha
  · rw [heapAt_in hu hi, some_bind']
    dsimp only
    by_cases e2 : f_X10_isKey b = 0
    · rw [if_pos e2]
    · rw [if_neg e2, isKey_out, if_pos rfl]
      rcases h with h | h | h
      · exact absurd ⟨(in_set hi).1, (in_set hi).2, trivial⟩ (out_not (P := True) h)
      · exact absurd (isKey_out h) e2
      · exact h
  · rw [heapAt_out ha, some_bind']
theorem mmark_bad {w : MW} {a b c d : Int32} (h : (a < 0 ∨ 8 ≤ a) ∨ (b < 0 ∨ 9999 < b) ∨ (c < 0 ∨ 9999 < c)) : f_X11_refusesMark fu w 123 a b c d = some (1, w) := by
  rw [f_X11_refusesMark]
  by_cases e1 : f_X11_isSet a = 0
  · rw [if_pos e1]
  · rw [if_neg e1]
    by_cases e2 : f_X11_isKey b = 0
    · rw [if_pos e2]
    · rw [if_neg e2, if_pos]
      rcases h with h | h | h
      · exact absurd (mSet_out h) e1
      · exact absurd (mKey_out h) e2
      · exact mKey_out h
theorem mark_res (G : Good C F v ar s V n) (hfu : 20000 ≤ fu) (a b c d : Int32) : ∃ s' V', Res C F ar s' V' (f_X10_mark fu (mW C F v ar) 0 a b c d) (fun w => f_X11_mark fu w 123 a b c d) := by
  obtain ⟨m, hm, e1, e2⟩ : ∃ m, m ≤ 1 ∧ f_X10_mark fu (mW C F v ar) 0 a b c d = actOf (fun w p => f_X7_markStretch fu w p a b c (nI m)) fu (mW C F v ar) ∧ ∀ w, f_X11_mark fu w 123 a b c d = (cl w 11 123 (f_X11_refusesMark fu w 123 a b c (nI m))).bind fun q1 => (cl q1.2 11 123 (f_X11_begins fu q1.2 123 q1.1)).bind fun q4 => bnd q4.1 fun x7 => if x7 ≤ 0 then f_X11_mark_48 fu q4.2 123 a b c (nI m) else some ((-x7), q4.2) := by
    by_cases hd : d = 0
    · refine ⟨1, by omega, ?_, fun w => ?_⟩
      · unfold f_X10_mark
        simp only [if_pos hd]; rfl
      · unfold f_X11_mark f_X11_mark_15
        simp only [if_pos hd]; rfl
    · refine ⟨0, by omega, ?_, fun w => ?_⟩
      · unfold f_X10_mark
        simp only [if_neg hd]; rfl
      · unfold f_X11_mark f_X11_mark_15
        simp only [if_neg hd]; rfl
  rw [e1]
  have B := G.1.mb
  have O := G.1.2.2.2.1
  have hfu2 : 100 ≤ fu := by omega
  by_cases hbad : (a < 0 ∨ 8 ≤ a) ∨ (b < 0 ∨ 9999 < b) ∨ (c < 0 ∨ 9999 < c)
  · have hx0 : ¬ ¬ (-1 : Int32) < 0 := by decide
    have := act_resq (x := -1) (ks := []) (R := fun _ => some 1) (D := fun _ => none) (Q := fun w => f_X11_mark fu w 123 a b c d) G hfu O id (by simp) (f := fun w p => f_X7_markStretch fu w p a b c (nI m)) (fun u h1 h2 => ⟨u, mark_bad h1 hbad, h1, h2, Chg.rf _ _⟩) (fun _ => ⟨rfl, Or.inl rfl⟩) (fun C' hC' => by rw [if_pos (by decide)]; rfl) (fun c => absurd c hx0) (fun C' hC' => by
      simp only [e2, mactOf, m_cl hC', mmark_bad hbad, some_bind', mbegins_no hC' (show ¬ (1 : Int32) = 0 by decide), bnd_eq]
      rw [if_neg (by decide), if_neg (by decide)])
    exact ⟨_, _, this⟩
  · rcases set_cases a with ⟨i, hi, rfl⟩ | h
    · rcases key_cases b with ⟨k, hk, rfl⟩ | h
      · rcases key_cases c with ⟨l, hl, rfl⟩ | h
        · obtain ⟨z1, z2, z3⟩ := xMark_rz (a := k) (b := l) O hi hm
          refine ⟨_, _, act_resq (R := fun _ => some (wOf (xMark s i k l m).1)) (D := fun w => f_X11_mark_48 fu w 123 (nI i) (nI k) (nI l) (nI m)) G hfu z2 z3 hpl_31 (fun u hu hz => ?_) z1 (fun C' hC' => rfl) (fun hx C' F' al hC' hF hM => ?_) (fun C' hC' => ?_)⟩
          · obtain ⟨u', g1, g2, g3⟩ := cmarkS_ok hu O hfu2 hi hk hl hm
            exact ⟨u', g1, g2, hz.hp g3, g3⟩
          · have B1 : MB C' F' (ua ar 0 al) 0 s := B.F hC' (hF 9 (by omega)) (by rw [ua_eq]; exact hM) O.1
            obtain ⟨al2, g1, g2, g4⟩ := mmark_do (v := v) B1 hfu2 hi hm hx
            refine ⟨F', v, ua (ua ar 0 al) 0 al2, ?_, by rw [ua_eq]; exact g2, fun q hq => by rw [ua_eq, g4 q (by omega), ua_eq], fun _ _ => rfl, fun k h1 h2 => by rw [ua_ne _ _ (by omega), ua_ne _ _ (by omega)]⟩
            rw [f_X11_mark_48, B1.cl, g1, some_bind']
          · have B1 : MB C' F ar 0 s := B.F hC' rfl B.2.2.2.1 O.1
            simp only [e2, mactOf, m_cl hC', mrMark B1 hfu2 hi hk hl hm, some_bind']
        · exact absurd (Or.inr (Or.inr h)) hbad
      · exact absurd (Or.inr (Or.inl h)) hbad
    · exact absurd (Or.inl h) hbad
end R
end
section
/-! RUNS of two sets: what comes next: 0 of the first alone, 1 of both, 2 of the second alone -/
def evs : List Nat → List Nat → List Nat
  | [], [] => []
  | _ :: L, [] => 0 :: evs L []
  | [], _ :: M => 2 :: evs [] M
  | a :: L, b :: M => if a / 2 < b / 2 then 0 :: evs L (b :: M) else if a / 2 = b / 2 then 1 :: evs L M else 2 :: evs (a :: L) M
termination_by L M => L.length + M.length
def hasK (L : List Nat) (k : Nat) : Bool := L.any (fun a => a / 2 == k)
def twN (L M : List Nat) : Nat := M.countP (fun b => hasK L (b / 2))
theorem hasK_iff {L : List Nat} {k : Nat} : hasK L k = true ↔ ∃ a ∈ L, a / 2 = k := by
  unfold hasK
  rw [List.any_eq_true]
  simp
theorem hasK_cons {a : Nat} {L : List Nat} {k : Nat} (h : a / 2 ≠ k) : hasK (a :: L) k = hasK L k := by
  unfold hasK
  rw [List.any_cons]
  simp [h]
abbrev PW (L : List Nat) : Prop := L.Pairwise (fun a b => a / 2 < b / 2)
theorem twN_nil (M : List Nat) : twN [] M = 0 := by
  unfold twN
  rw [List.countP_eq_zero]
  intro b _
  simp [hasK]
theorem twN_skip {a : Nat} {L M : List Nat} (h : ∀ b ∈ M, a / 2 < b / 2) : twN (a :: L) M = twN L M := by
  unfold twN
  apply List.countP_congr
  intro b hb
  rw [hasK_cons (by have := h b hb; omega)]
theorem evs_n : ∀ n L M, L.length + M.length ≤ n → PW L → PW M → (evs L M).count 1 = twN L M ∧ (evs L M).length + twN L M = L.length + M.length
  | n, [], [], _, _, _ => by rw [evs, twN_nil]; simp
  | 0, a :: L, M, h, _, _ => by simp at h
  | 0, [], b :: M, h, _, _ => by simp at h
  | n + 1, a :: L, [], h, P, Q => by
    have ih := evs_n n L [] (by simp at h ⊢; omega) (List.pairwise_cons.mp P).2 Q
    rw [evs]
    have e : twN L [] = 0 := rfl
    have e2 : twN (a :: L) [] = 0 := rfl
    rw [e] at ih
    rw [e2, List.count_cons, ih.1]
    simp at ih ⊢
    omega
  | n + 1, [], b :: M, h, P, Q => by
    have ih := evs_n n [] M (by simp at h ⊢; omega) P (List.pairwise_cons.mp Q).2
    rw [evs, twN_nil]
    rw [twN_nil] at ih
    rw [List.count_cons, ih.1]
    simp at ih ⊢
    omega
  | n + 1, a :: L, b :: M, h, P, Q => by
    obtain ⟨P1, P2⟩ := List.pairwise_cons.mp P
    obtain ⟨Q1, Q2⟩ := List.pairwise_cons.mp Q
    rw [evs]
    simp only [List.length_cons] at h
    by_cases c1 : a / 2 < b / 2
    · have ih := evs_n n L (b :: M) (by simp; omega) P2 Q
      rw [if_pos c1]
      have e : twN (a :: L) (b :: M) = twN L (b :: M) := twN_skip (fun x hx => by
        rcases List.mem_cons.mp hx with rfl | hx
        · exact c1
        · have := Q1 x hx; omega)
      rw [e, List.count_cons, ih.1]
      have := ih.2
      simp at this ⊢
      omega
    · rw [if_neg c1]
      by_cases c2 : a / 2 = b / 2
      · have ih := evs_n n L M (by omega) P2 Q2
        rw [if_pos c2]
        have e : twN (a :: L) (b :: M) = twN L M + 1 := by
          have e1 : twN (a :: L) M = twN L M := twN_skip (fun x hx => by have := Q1 x hx; omega)
          rw [← e1]
          unfold twN
          rw [List.countP_cons, if_pos]
          rw [hasK_iff]
          exact ⟨a, List.mem_cons_self, c2⟩
        rw [e, List.count_cons, ih.1]
        have := ih.2
        simp at this ⊢
        omega
      · have ih := evs_n n (a :: L) M (by simp; omega) P Q2
        rw [if_neg c2]
        have e : twN (a :: L) (b :: M) = twN (a :: L) M := by
          unfold twN
          rw [List.countP_cons, if_neg]
          · rfl
          · rw [hasK_iff]
            rintro ⟨x, hx, hx2⟩
            rcases List.mem_cons.mp hx with rfl | hx
            · omega
            · have := P1 x hx; omega
        rw [e, List.count_cons, ih.1]
        have := ih.2
        simp at this ⊢
        omega
theorem evs_len {L M : List Nat} (S : SOK L) (S2 : SOK M) : (evs L M).count 1 = twN L M ∧ (evs L M).length + twN L M = L.length + M.length := evs_n _ L M (Nat.le_refl _) S.1 S2.1
theorem twN_le (L M : List Nat) : twN L M ≤ M.length := List.countP_le_length
theorem hasK_plc {L : List Nat} (S : SOK L) {k : Nat} (hk : k < 2 ^ 31) : hasK L k = true ↔ ¬ plc L (nI k) = -1 := by
  rw [plc_iff S hk, hasK_iff]
  constructor
  · rintro ⟨a, ha, h⟩ q; exact q a ha h
  · intro h
    refine Decidable.byContradiction fun q => h (fun e he h2 => q ⟨e, he, h2⟩)
theorem cNew_twN {L M : List Nat} (S : SOK L) (S2 : SOK M) : cNew L M + twN L M = M.length := by
  unfold cNew twN
  rw [List.length_eq_countP_add_countP (fun b => hasK L (b / 2)) (l := M), Nat.add_comm]
  congr 1
  apply List.countP_congr
  intro b hb
  have hb2 := S2.2.1 b hb
  have := hasK_plc S (k := b / 2) (by omega)
  rw [decide_eq_true_eq]
  by_cases c : plc L (nI (b / 2)) = -1
  · simp only [c, true_iff]
    cases hq : hasK L (b / 2)
    · rfl
    · exact absurd c (this.mp hq)
  · simp only [c, false_iff]
    rw [this.mpr c]; simp
/-- runs, cost, longest, the run, of whom -/
abbrev RS : Type := Nat × Nat × Nat × Nat × Nat
def rEnd (R : RS) : RS := if R.2.2.2.1 = 0 then R else (R.1 + 1, R.2.1 + 1 + Nat.log2 R.2.2.2.1, max R.2.2.1 R.2.2.2.1, R.2.2.2.1, R.2.2.2.2)
def rGo (o : Nat) (R : RS) : RS := if o = R.2.2.2.2 then (R.1, R.2.1, R.2.2.1, R.2.2.2.1 + 1, o) else ((rEnd R).1, (rEnd R).2.1, (rEnd R).2.2.1, 1, o)
def rAll : List Nat → RS → RS
  | [], R => rEnd R
  | t :: es, R => rAll es (rGo (if t ≤ 1 then 0 else 1) R)
theorem rEnd_run (R : RS) : (rEnd R).2.2.2 = R.2.2.2 := by
  unfold rEnd; split <;> rfl
theorem rGo_of (o : Nat) (R : RS) : (rGo o R).2.2.2.2 = o := by
  unfold rGo; split <;> rfl
theorem rGo_run (o : Nat) (R : RS) : 1 ≤ (rGo o R).2.2.2.1 ∧ (rGo o R).2.2.2.1 ≤ R.2.2.2.1 + 1 := by
  unfold rGo; split
  · exact ⟨Nat.le_add_left _ _, Nat.le_refl _⟩
  · exact ⟨Nat.le_refl _, Nat.le_add_left _ _⟩
/-- small enough for a machine's numbers -/
def RB (R : RS) (n : Nat) : Prop := R.2.2.1 ≤ 1000 ∧ R.2.2.2.1 + n ≤ 1000
theorem RB.go {R : RS} {n : Nat} (h : RB R (n + 1)) (o : Nat) : RB (rGo o R) n := by
  obtain ⟨h1, h2⟩ := h
  unfold rGo rEnd
  split
  · exact ⟨h1, by show R.2.2.2.1 + 1 + n ≤ 1000; omega⟩
  · split
    · exact ⟨h1, by show 1 + n ≤ 1000; omega⟩
    · exact ⟨by show max R.2.2.1 R.2.2.2.1 ≤ 1000; omega, by show 1 + n ≤ 1000; omega⟩
theorem imax_n {a b : Nat} (ha : a < 2 ^ 31) (hb : b < 2 ^ 31) : imax (nI a) (nI b) = nI (max a b) := by
  unfold imax
  by_cases h : a < b
  · rw [if_pos (nI_lt h hb), Nat.max_eq_right (by omega)]
  · rw [if_neg (nI_nlt (by omega) ha), Nat.max_eq_left (by omega)]
theorem log2_s {n : Nat} (h : 2 ≤ n) : Nat.log2 n = Nat.log2 (n / 2) + 1 := by
  rw [Nat.log2_def, if_pos h]
theorem log2_1 {n : Nat} (h : n < 2) : Nat.log2 n = 0 := by
  rw [Nat.log2_def, if_neg (by omega)]
end
section
/-! the class's WEAVE -/
def WC (w : MW) (tw ks : Nat) (R : RS) : Prop := w[11]? = some (.inr (9, [.int (nI R.1), .int (nI tw), .int (nI R.2.1), .int (nI R.2.2.1), .int (nI ks)]))
theorem endRun_loop (fu : Nat) {a t l k : Int32} : ∀ N n c w, n < 2 ^ 31 → n < N → w[11]? = some (.inr (9, [.int a, .int t, .int (nI c), .int l, .int k])) → ∃ w', f_X9_endRun_40 fu N w 11 (nI n) = some w' ∧ w'[11]? = some (.inr (9, [.int a, .int t, .int (nI (c + Nat.log2 n)), .int l, .int k])) ∧ Chg [11] w w' := by
  intro N
  induction N with
  | zero => intro n c w _ h _; omega
  | succ N ih =>
    intro n c w hn h hw
    rw [f_X9_endRun_40]
    by_cases c1 : n ≤ 1
    · rw [if_pos (show nI n ≤ (1 : Int32) from nI_le (b := 1) c1 (by omega)), log2_1 (by omega)]
      exact ⟨w, rfl, hw, Chg.rf _ _⟩
    · have c2 := Chg.st (ks := [11]) w (a := 11) (.inr (9, [.int a, .int t, .int (nI (c + 1)), .int l, .int k])) (by simp)
      obtain ⟨w', g1, g2, g3⟩ := ih (n / 2) (c + 1) (w.set 11 (.inr (9, [.int a, .int t, .int (nI (c + 1)), .int l, .int k]))) (by omega) (by omega) (get_set_eq hw)
      rw [if_neg (show ¬ nI n ≤ (1 : Int32) from nI_ge (a := 1) (by omega) hn), gI_ob hw rfl, some_bind', nI_1, pV_ob hw (by simp), some_bind', bnd_eq, nI_half hn]
      refine ⟨w', g1, ?_, c2.tr g3⟩
      rw [g2, log2_s (n := n) (by omega), show c + 1 + (n / 2).log2 = c + ((n / 2).log2 + 1) by omega]
theorem endRun_ok {fu : Nat} (hfu : 2000 ≤ fu) {w : MW} {tw ks : Nat} {R : RS} (h : WC w tw ks R) (hb : RB R 0) : ∃ w', f_X9_endRun fu w 11 (nI R.2.2.2.1) = some w' ∧ WC w' tw ks (rEnd R) ∧ Chg [11] w w' := by
  obtain ⟨b1, b2⟩ := hb
  unfold WC at h
  rw [f_X9_endRun]
  unfold rEnd
  by_cases c : R.2.2.2.1 = 0
  · rw [if_pos c, c, if_neg (by decide)]
    exact ⟨w, rfl, h, Chg.rf _ _⟩
  · rw [if_neg c, if_pos (show (1 : Int32) ≤ nI R.2.2.2.1 from nI_le (a := 1) (by omega) (by omega)), gI_ob h rfl, some_bind', nI_1, pV_ob h (by simp), some_bind']
    have h1 : (w.set 11 (.inr (9, [.int (nI (R.1 + 1)), .int (nI tw), .int (nI R.2.1), .int (nI R.2.2.1), .int (nI ks)])))[11]? = _ := get_set_eq h
    have e1 : [Value.int (nI R.1), .int (nI tw), .int (nI R.2.1), .int (nI R.2.2.1), .int (nI ks)].set 0 (.int (nI (R.1 + 1))) = [.int (nI (R.1 + 1)), .int (nI tw), .int (nI R.2.1), .int (nI R.2.2.1), .int (nI ks)] := rfl
    rw [e1, gI_ob h1 rfl, some_bind', imax_n (by omega) (by omega), pV_ob h1 (by simp), some_bind']
    have e2 : [Value.int (nI (R.1 + 1)), .int (nI tw), .int (nI R.2.1), .int (nI R.2.2.1), .int (nI ks)].set 3 (.int (nI (max R.2.2.1 R.2.2.2.1))) = [.int (nI (R.1 + 1)), .int (nI tw), .int (nI R.2.1), .int (nI (max R.2.2.1 R.2.2.2.1)), .int (nI ks)] := rfl
    rw [e2]
    have h2 : ((w.set 11 (.inr (9, [.int (nI (R.1 + 1)), .int (nI tw), .int (nI R.2.1), .int (nI R.2.2.1), .int (nI ks)]))).set 11 (.inr (9, [.int (nI (R.1 + 1)), .int (nI tw), .int (nI R.2.1), .int (nI (max R.2.2.1 R.2.2.2.1)), .int (nI ks)])))[11]? = _ := get_set_eq h1
    rw [gI_ob h2 rfl, some_bind', nI_1, pV_ob h2 (by simp), some_bind', bnd_eq]
    have h3 := get_set_eq (x := .inr (9, [.int (nI (R.1 + 1)), .int (nI tw), .int (nI (R.2.1 + 1)), .int (nI (max R.2.2.1 R.2.2.2.1)), .int (nI ks)])) h2
    obtain ⟨w', g1, g2, g3⟩ := endRun_loop fu fu R.2.2.2.1 (R.2.1 + 1) _ (by omega) (by omega) h3
    refine ⟨w', g1, g2, ?_⟩
    exact (((Chg.st _ _ (by simp)).tr (Chg.st _ _ (by simp))).tr (Chg.st _ _ (by simp))).tr g3
def cmpV (t : Nat) : Int32 := if t = 0 then -1 else if t = 1 then 0 else 1
theorem cmp_lt {a b : Nat} (h : a < b) (hb : b < 2 ^ 31) : f_J6_compare_7cf53 (nI a) (nI b) = cmpV 0 := by
  rw [f_J6_compare_7cf53, if_neg (nI_ge h hb)]; rfl
theorem cmp_eq {a : Nat} : f_J6_compare_7cf53 (nI a) (nI a) = cmpV 1 := by
  rw [f_J6_compare_7cf53, if_pos (Int32.le_refl _), if_pos rfl]; rfl
theorem cmp_gt {a b : Nat} (h : b < a) (hb : a < 2 ^ 31) : f_J6_compare_7cf53 (nI a) (nI b) = cmpV 2 := by
  rw [f_J6_compare_7cf53, if_pos (nI_le (by omega) hb), if_neg (fun q => by have := (nI_eq hb (by omega)).mp q; omega)]; rfl
section W
variable {fu : Nat} {lr : MW → Nat → Nat → Nat → Int32 → Int32 → Int32 → Int32 → Int32 → Option MW} {w : MW} {tw ks : Nat} {R : RS} {h1 h2 i j lf : Nat}
theorem weave_129 (h : WC w tw ks R) {run : Nat} {v6 v8 : Int32} {a1 a2 a3 a4 : Nat} (e1 : (if v8 = 0 then (1 : Int32) else 0) = nI a1) (e2 : (if 0 < v8 then (0 : Int32) else 1) = nI a2) (e3 : (if v8 < 0 then (0 : Int32) else 1) = nI a3) (e4 : (if v8 = 0 then (2 : Int32) else 1) = nI a4) (hl : a4 ≤ lf) : ∃ w', f_X9_weave_129 fu lr w 11 h1 h2 (nI i) (nI j) (nI run) v6 (nI lf) v8 = lr w' 11 h1 h2 (nI (i + a2)) (nI (j + a3)) (nI (run + 1)) v6 (nI (lf - a4)) ∧ WC w' (tw + a1) (ks + 1) R ∧ Chg [11] w w' := by
  unfold WC at h
  have g1 := get_set_eq (x := .inr (9, [.int (nI R.1), .int (nI tw), .int (nI R.2.1), .int (nI R.2.2.1), .int (nI (ks + 1))])) h
  have g2 := get_set_eq (x := .inr (9, [.int (nI R.1), .int (nI (tw + a1)), .int (nI R.2.1), .int (nI R.2.2.1), .int (nI (ks + 1))])) g1
  refine ⟨_, ?_, g2, (Chg.st _ _ (by simp)).tr (Chg.st _ _ (by simp))⟩
  have k4 : ∀ w x y z v5, f_X9_weave_186 fu lr w 11 h1 h2 x v5 v6 (nI lf) v8 y z = lr w 11 h1 h2 x (y + z) v5 v6 (nI (lf - a4)) := by
    intro w x y z v5
    rw [f_X9_weave_186, bnd_eq]
    have : nI lf - nI a4 = nI (lf - a4) := nI_sub hl
    by_cases q : v8 = 0
    · rw [if_pos q] at e4; rw [if_pos q, f_X9_weave_201, bnd_eq, ← this, ← e4]
    · rw [if_neg q] at e4; rw [if_neg q, f_X9_weave_201, bnd_eq, ← this, ← e4]
  have k3 : ∀ w x y v5, f_X9_weave_172 fu lr w 11 h1 h2 (nI j) v5 v6 (nI lf) v8 x y = lr w 11 h1 h2 (x + y) (nI (j + a3)) v5 v6 (nI (lf - a4)) := by
    intro w x y v5
    rw [f_X9_weave_172, bnd_eq, ← nI_add j a3]
    by_cases q : v8 < 0
    · rw [if_pos q] at e3; rw [if_pos q, k4, ← e3]
    · rw [if_neg q] at e3; rw [if_neg q, k4, ← e3]
  have k2 : ∀ x y v5 w w1, pV w 9 11 1 (.int (x + y)) = some w1 → f_X9_weave_157 fu lr w 11 h1 h2 (nI i) (nI j) v5 v6 (nI lf) v8 11 x y = lr w1 11 h1 h2 (nI (i + a2)) (nI (j + a3)) v5 v6 (nI (lf - a4)) := by
    intro x y v5 w w1 hw
    rw [f_X9_weave_157, hw, some_bind', ← nI_add i a2]
    by_cases q : 0 < v8
    · rw [if_pos q] at e2; rw [if_pos q, k3, ← e2]
    · rw [if_neg q] at e2; rw [if_neg q, k3, ← e2]
  rw [f_X9_weave_129, bnd_eq, gI_ob h rfl, some_bind', nI_1, nI_1, pV_ob h (by simp), some_bind']
  have ee : [Value.int (nI R.1), .int (nI tw), .int (nI R.2.1), .int (nI R.2.2.1), .int (nI ks)].set 4 (.int (nI (ks + 1))) = [.int (nI R.1), .int (nI tw), .int (nI R.2.1), .int (nI R.2.2.1), .int (nI (ks + 1))] := rfl
  rw [ee, gI_ob g1 rfl, some_bind']
  have k1 : pV (w.set 11 (.inr (9, [.int (nI R.1), .int (nI tw), .int (nI R.2.1), .int (nI R.2.2.1), .int (nI (ks + 1))]))) 9 11 1 (.int (nI tw + nI a1)) = some ((w.set 11 (.inr (9, [.int (nI R.1), .int (nI tw), .int (nI R.2.1), .int (nI R.2.2.1), .int (nI (ks + 1))]))).set 11 (.inr (9, [.int (nI R.1), .int (nI (tw + a1)), .int (nI R.2.1), .int (nI R.2.2.1), .int (nI (ks + 1))]))) := by
    rw [nI_add, pV_ob g1 (by simp)]; rfl
  by_cases q : v8 = 0
  · rw [if_pos q] at e1; rw [← e1] at k1; rw [if_pos q, k2 _ _ _ _ _ k1]
  · rw [if_neg q] at e1; rw [← e1] at k1; rw [if_neg q, k2 _ _ _ _ _ k1]
def ofE (t : Nat) : Nat := if t ≤ 1 then 0 else 1
theorem weave_91 (hfu : 2000 ≤ fu) (h : WC w tw ks R) (hB : RB R 1) (hof : R.2.2.2.2 ≤ 1) {t : Nat} (ht : t < 3) (hl : 2 ≤ lf ∨ (1 ≤ lf ∧ t ≠ 1)) : ∃ w', f_X9_weave_91 fu lr w 11 h1 h2 (nI i) (nI j) (nI R.2.2.2.1) (nI (1 - R.2.2.2.2)) (nI lf) (cmpV t) = lr w' 11 h1 h2 (nI (i + if t ≤ 1 then 1 else 0)) (nI (j + if 1 ≤ t then 1 else 0)) (nI (rGo (ofE t) R).2.2.2.1) (nI (1 - ofE t)) (nI (lf - if t = 1 then 2 else 1)) ∧ WC w' (tw + if t = 1 then 1 else 0) (ks + 1) (rGo (ofE t) R) ∧ Chg [11] w w' := by
  have e1 : (if cmpV t = 0 then (1 : Int32) else 0) = nI (if t = 1 then 1 else 0) ∧ (if 0 < cmpV t then (0 : Int32) else 1) = nI (if t ≤ 1 then 1 else 0) ∧ (if cmpV t < 0 then (0 : Int32) else 1) = nI (if 1 ≤ t then 1 else 0) ∧ (if cmpV t = 0 then (2 : Int32) else 1) = nI (if t = 1 then 2 else 1) ∧ (if 0 < cmpV t then (0 : Int32) else 1) = nI (1 - ofE t) := by
    have : t = 0 ∨ t = 1 ∨ t = 2 := by omega
    rcases this with rfl | rfl | rfl <;> decide
  obtain ⟨e1, e2, e3, e4, e5⟩ := e1
  have hl2 : (if t = 1 then 2 else 1) ≤ lf := by split <;> omega
  have ho : ofE t ≤ 1 := by unfold ofE; split <;> omega
  have k0 : f_X9_weave_91 fu lr w 11 h1 h2 (nI i) (nI j) (nI R.2.2.2.1) (nI (1 - R.2.2.2.2)) (nI lf) (cmpV t) = f_X9_weave_105 fu lr w 11 h1 h2 (nI i) (nI j) (nI R.2.2.2.1) (nI (1 - R.2.2.2.2)) (nI lf) (cmpV t) (nI (1 - R.2.2.2.2)) (nI (1 - ofE t)) := by
    rw [f_X9_weave_91, bnd_eq]
    by_cases q : 0 < cmpV t
    · rw [if_pos q] at e5; rw [if_pos q, ← e5]
    · rw [if_neg q] at e5; rw [if_neg q, ← e5]
  rw [k0, f_X9_weave_105]
  by_cases c : R.2.2.2.2 = ofE t
  · obtain ⟨w', g1, g2, g3⟩ := weave_129 (fu := fu) (lr := lr) (h1 := h1) (h2 := h2) (i := i) (j := j) (lf := lf) h (run := R.2.2.2.1) (v6 := nI (1 - R.2.2.2.2)) e1 e2 e3 e4 hl2
    have er : rGo (ofE t) R = (R.1, R.2.1, R.2.2.1, R.2.2.2.1 + 1, ofE t) := by unfold rGo; rw [if_pos c.symm]
    rw [if_pos (by rw [c]), g1, er, c]
    exact ⟨w', rfl, g2, g3⟩
  · obtain ⟨w1, k1, k2, k3⟩ := endRun_ok hfu h ⟨hB.1, by have := hB.2; omega⟩
    obtain ⟨w', g1, g2, g3⟩ := weave_129 (fu := fu) (lr := lr) (h1 := h1) (h2 := h2) (i := i) (j := j) (lf := lf) k2 (run := 0) (v6 := nI (1 - ofE t)) e1 e2 e3 e4 hl2
    have er : rGo (ofE t) R = ((rEnd R).1, (rEnd R).2.1, (rEnd R).2.2.1, 1, ofE t) := by unfold rGo; rw [if_neg (Ne.symm c)]
    rw [if_neg (fun q => by have := (nI_eq (by omega) (by omega)).mp q; omega), cl_ob h, k1, some_bind', bnd_eq, er]
    refine ⟨w', ?_, g2, k3.tr g3⟩
    by_cases q : 0 < cmpV t
    · rw [if_pos q] at e5; rw [← e5] at g1; rw [if_pos q, bnd_eq, ← e5]; exact g1
    · rw [if_neg q] at e5; rw [← e5] at g1; rw [if_neg q, bnd_eq, ← e5]; exact g1
end W
theorem drop_len {L : List Nat} {i : Nat} (h : L.length ≤ i) : L.drop i = [] := List.drop_eq_nil_of_le h
theorem evs_c1 {L M : List Nat} {i j : Nat} (hi : L.length ≤ i) (hj : j < M.length) : evs (L.drop i) (M.drop j) = 2 :: evs (L.drop i) (M.drop (j + 1)) := by
  rw [drop_len hi, drop_cons hj, evs]
theorem evs_c2 {L M : List Nat} {i j : Nat} (hi : i < L.length) (hj : M.length ≤ j) : evs (L.drop i) (M.drop j) = 0 :: evs (L.drop (i + 1)) (M.drop j) := by
  rw [drop_len hj, drop_cons hi, evs]
theorem evs_c3 {L M : List Nat} {i j : Nat} (hi : i < L.length) (hj : j < M.length) : evs (L.drop i) (M.drop j) = if nth L i / 2 < nth M j / 2 then 0 :: evs (L.drop (i + 1)) (M.drop j) else if nth L i / 2 = nth M j / 2 then 1 :: evs (L.drop (i + 1)) (M.drop (j + 1)) else 2 :: evs (L.drop i) (M.drop (j + 1)) := by
  rw [drop_cons hi, drop_cons hj, evs]
theorem weave_loop {fu h1 e1 h2 e2 : Nat} (hfu : 2000 ≤ fu) (d1 : 11 < h1) (d2 : 11 < e1) (d3 : 11 < h2) (d4 : 11 < e2) {L M : List Nat} {fg fg2 : Int32} (S : SOK L) (S2 : SOK M) : ∀ N i j tw ks R w, HA w h1 e1 L fg → HA w h2 e2 M fg2 → WC w tw ks R → RB R ((L.length - i) + (M.length - j)) → R.2.2.2.2 ≤ 1 → i ≤ L.length → j ≤ M.length → (L.length - i) + (M.length - j) < N → ∃ w', f_X9_weave_47 fu N w 11 h1 h2 (nI i) (nI j) (nI R.2.2.2.1) (nI (1 - R.2.2.2.2)) (nI ((L.length - i) + (M.length - j))) = some w' ∧ WC w' (tw + (evs (L.drop i) (M.drop j)).count 1) (ks + (evs (L.drop i) (M.drop j)).length) (rAll (evs (L.drop i) (M.drop j)) R) ∧ Chg [11] w w' := by
  have l1 := S.len
  have l2 := S2.len
  intro N
  induction N with
  | zero => intro i j tw ks R w _ _ _ _ _ _ _ hN; omega
  | succ N ih =>
    intro i j tw ks R w H1 H2 h hB hof hi hj hN
    rw [f_X9_weave_47]
    by_cases c0 : (L.length - i) + (M.length - j) = 0
    · obtain ⟨w', g1, g2, g3⟩ := endRun_ok hfu h ⟨hB.1, by have := hB.2; omega⟩
      rw [c0, if_pos (by decide), cl_ob h, g1, some_bind', drop_len (by omega), drop_len (by omega), evs]
      exact ⟨w', rfl, g2, g3⟩
    · rw [if_neg (fun q => by have := (nI_le0 (by omega)).mp q; omega), gI_ob H1.2.1 rfl, some_bind']
      have step : ∀ t, t < 3 → (2 ≤ (L.length - i) + (M.length - j) ∨ t ≠ 1) → (i + if t ≤ 1 then 1 else 0) ≤ L.length → (j + if 1 ≤ t then 1 else 0) ≤ M.length → evs (L.drop i) (M.drop j) = t :: evs (L.drop (i + if t ≤ 1 then 1 else 0)) (M.drop (j + if 1 ≤ t then 1 else 0)) → ∃ w', f_X9_weave_91 fu (f_X9_weave_47 fu N) w 11 h1 h2 (nI i) (nI j) (nI R.2.2.2.1) (nI (1 - R.2.2.2.2)) (nI ((L.length - i) + (M.length - j))) (cmpV t) = some w' ∧ WC w' (tw + (evs (L.drop i) (M.drop j)).count 1) (ks + (evs (L.drop i) (M.drop j)).length) (rAll (evs (L.drop i) (M.drop j)) R) ∧ Chg [11] w w' := by
        intro t ht hl hi2 hj2 he
        obtain ⟨w1, g1, g2, g3⟩ := weave_91 (fu := fu) (lr := f_X9_weave_47 fu N) (h1 := h1) (h2 := h2) (i := i) (j := j) (lf := (L.length - i) + (M.length - j)) hfu h ⟨hB.1, by have := hB.2; omega⟩ hof ht (by omega)
        have hrem : (L.length - i) + (M.length - j) - (if t = 1 then 2 else 1) = (L.length - (i + if t ≤ 1 then 1 else 0)) + (M.length - (j + if 1 ≤ t then 1 else 0)) := by
          have : t = 0 ∨ t = 1 ∨ t = 2 := by omega
          rcases this with rfl | rfl | rfl <;> simp at hi2 hj2 ⊢ <;> omega
        have hlt : (L.length - (i + if t ≤ 1 then 1 else 0)) + (M.length - (j + if 1 ≤ t then 1 else 0)) < N := by
          rw [← hrem]; split <;> omega
        have hB2 : RB (rGo (ofE t) R) ((L.length - (i + if t ≤ 1 then 1 else 0)) + (M.length - (j + if 1 ≤ t then 1 else 0))) := by
          refine RB.go ⟨hB.1, ?_⟩ _
          have := hB.2
          rw [← hrem]
          split <;> omega
        have hof2 : (rGo (ofE t) R).2.2.2.2 ≤ 1 := by rw [rGo_of]; unfold ofE; split <;> omega
        obtain ⟨w2, k1, k2, k3⟩ := ih _ _ _ _ (rGo (ofE t) R) w1 (H1.chg g3 (by simp; omega) (by simp; omega)) (H2.chg g3 (by simp; omega) (by simp; omega)) g2 hB2 hof2 hi2 hj2 hlt
        rw [rGo_of] at k1
        rw [g1, hrem, k1]
        refine ⟨w2, rfl, ?_, g3.tr k3⟩
        rw [he, List.count_cons, List.length_cons]
        have e9 : rAll (t :: evs (L.drop (i + if t ≤ 1 then 1 else 0)) (M.drop (j + if 1 ≤ t then 1 else 0))) R = rAll (evs (L.drop (i + if t ≤ 1 then 1 else 0)) (M.drop (j + if 1 ≤ t then 1 else 0))) (rGo (ofE t) R) := rfl
        rw [e9]
        have ea : tw + (List.count 1 (evs (L.drop (i + if t ≤ 1 then 1 else 0)) (M.drop (j + if 1 ≤ t then 1 else 0))) + if (t == 1) = true then 1 else 0) = tw + (if t = 1 then 1 else 0) + List.count 1 (evs (L.drop (i + if t ≤ 1 then 1 else 0)) (M.drop (j + if 1 ≤ t then 1 else 0))) := by
          by_cases q : t = 1
          · simp [q]; omega
          · simp [q]
        rw [ea, show ks + ((evs (L.drop (i + if t ≤ 1 then 1 else 0)) (M.drop (j + if 1 ≤ t then 1 else 0))).length + 1) = ks + 1 + (evs (L.drop (i + if t ≤ 1 then 1 else 0)) (M.drop (j + if 1 ≤ t then 1 else 0))).length by omega]
        exact k2
      by_cases ci : L.length ≤ i
      · rw [if_neg (nI_nlt ci (by omega))]
        exact step 2 (by omega) (by omega) (by simp; omega) (by simp; omega) (evs_c1 ci (by omega))
      · rw [if_pos (nI_lt (by omega) (by omega)), gI_ob H2.2.1 rfl, some_bind']
        by_cases cj : M.length ≤ j
        · rw [if_neg (nI_nlt cj (by omega))]
          exact step 0 (by omega) (by omega) (by simp; omega) (by simp; omega) (evs_c2 (by omega) cj)
        · have b1 := S.lt (show i < L.length by omega)
          have b2 := S2.lt (show j < M.length by omega)
          have ec := evs_c3 (show i < L.length by omega) (show j < M.length by omega)
          rw [if_pos (nI_lt (by omega) (by omega)), H1.cl, keyAt_in H1 S (by omega), some_bind', H2.cl, keyAt_in H2 S2 (by omega), some_bind']
          by_cases q1 : nth L i / 2 < nth M j / 2
          · rw [if_pos q1] at ec
            rw [cmp_lt q1 (by omega)]
            exact step 0 (by omega) (by omega) (by simp; omega) (by simp; omega) ec
          · rw [if_neg q1] at ec
            by_cases q2 : nth L i / 2 = nth M j / 2
            · rw [if_pos q2] at ec
              rw [q2, cmp_eq]
              exact step 1 (by omega) (by omega) (by simp; omega) (by simp; omega) ec
            · rw [if_neg q2] at ec
              rw [cmp_gt (by omega) (by omega)]
              exact step 2 (by omega) (by omega) (by simp; omega) (by simp; omega) ec
/-- what the runs of two sets are -/
def rsOf (L M : List Nat) : RS := rAll (evs L M) (0, 0, 0, 0, 0)
theorem weave_ok {fu h1 e1 h2 e2 : Nat} (hfu : 2000 ≤ fu) (d1 : 11 < h1) (d2 : 11 < e1) (d3 : 11 < h2) (d4 : 11 < e2) {L M : List Nat} {fg fg2 : Int32} (S : SOK L) (S2 : SOK M) {w : MW} (H1 : HA w h1 e1 L fg) (H2 : HA w h2 e2 M fg2) (h : ∃ a b c d e, w[11]? = some (.inr (9, [.int a, .int b, .int c, .int d, .int e]))) : ∃ w', f_X9_weave fu w 11 h1 h2 = some w' ∧ WC w' (twN L M) (evs L M).length (rsOf L M) ∧ Chg [11] w w' := by
  have l1 := S.len
  have l2 := S2.len
  obtain ⟨a, b, c, d, e, h⟩ := h
  have g1 := get_set_eq (x := .inr (9, [.int 0, .int b, .int c, .int d, .int e])) h
  have g2 := get_set_eq (x := .inr (9, [.int 0, .int 0, .int c, .int d, .int e])) g1
  have g3 := get_set_eq (x := .inr (9, [.int 0, .int 0, .int 0, .int d, .int e])) g2
  have g4 := get_set_eq (x := .inr (9, [.int 0, .int 0, .int 0, .int 0, .int e])) g3
  have g5 := get_set_eq (x := .inr (9, [.int 0, .int 0, .int 0, .int 0, .int 0])) g4
  have ch : Chg [11] w _ := ((((Chg.st w (a := 11) (.inr (9, [.int 0, .int b, .int c, .int d, .int e])) (by simp)).tr (Chg.st _ (a := 11) (.inr (9, [.int 0, .int 0, .int c, .int d, .int e])) (by simp))).tr (Chg.st _ (a := 11) (.inr (9, [.int 0, .int 0, .int 0, .int d, .int e])) (by simp))).tr (Chg.st _ (a := 11) (.inr (9, [.int 0, .int 0, .int 0, .int 0, .int e])) (by simp))).tr (Chg.st _ (a := 11) (.inr (9, [.int 0, .int 0, .int 0, .int 0, .int 0])) (by simp))
  have H1' := H1.chg ch (by simp; omega) (by simp; omega)
  have H2' := H2.chg ch (by simp; omega) (by simp; omega)
  obtain ⟨w', k1, k2, k3⟩ := weave_loop hfu d1 d2 d3 d4 S S2 fu 0 0 0 0 (0, 0, 0, 0, 0) _ H1' H2' g5 ⟨by decide, by show 0 + _ ≤ 1000; omega⟩ (by decide) (by omega) (by omega) (by omega)
  refine ⟨w', ?_, ?_, ch.tr k3⟩
  · rw [f_X9_weave, pV_ob h (by simp), some_bind']
    dsimp only [List.set]
    rw [pV_ob g1 (by simp), some_bind']
    dsimp only [List.set]
    rw [pV_ob g2 (by simp), some_bind']
    dsimp only [List.set]
    rw [pV_ob g3 (by simp), some_bind']
    dsimp only [List.set]
    rw [pV_ob g4 (by simp), some_bind']
    dsimp only [List.set]
    rw [bnd_eq, bnd_eq, bnd_eq, bnd_eq, gI_ob H1'.2.1 rfl, some_bind', gI_ob H2'.2.1 rfl, some_bind', bnd_eq, nI_add]
    exact k1
  · rw [Nat.zero_add, Nat.zero_add] at k2
    have := (evs_len S S2).1
    rw [← this]
    exact k2
end
section
/-! the model's runs -/
section M
variable {C : MW} {v : Int64} {ar : Nat → Nat → Int32} {fu : Nat}
theorem mFk {F : Nat → Int32} {v : Int64} {x : Int32} : (mF F v).set 16 (.int x) = mF (upd F 16 x) v ∧ (mF F v).set 17 (.int x) = mF (upd F 17 x) v ∧ (mF F v).set 18 (.int x) = mF (upd F 18 x) v ∧ (mF F v).set 19 (.int x) = mF (upd F 19 x) v ∧ (mF F v).set 20 (.int x) = mF (upd F 20 x) v := ⟨rfl, rfl, rfl, rfl, rfl⟩
/-- the fields of the runs alone may differ -/
def FS (F F' : Nat → Int32) : Prop := ∀ k, k < 16 ∨ 20 < k → F' k = F k
theorem FS.tr {F F1 F2 : Nat → Int32} (h : FS F F1) (g : FS F1 F2) : FS F F2 := fun k hk => (g k hk).trans (h k hk)
theorem FS.up {F F1 : Nat → Int32} (h : FS F F1) {k : Nat} (hk : 16 ≤ k ∧ k ≤ 20) (x : Int32) : FS F (upd F1 k x) := fun j hj => (upd_ne _ _ (by omega)).trans (h j hj)
/-- the fields hold the runs -/
def RF (F : Nat → Int32) (R : RS) : Prop := F 16 = nI R.1 ∧ F 17 = nI R.2.1 ∧ F 18 = nI R.2.2.1 ∧ F 19 = nI R.2.2.2.1 ∧ (R.2.2.2.1 = 0 ∨ F 20 = nI R.2.2.2.2)
theorem endsRun_loop (hC : C.length = 123) : ∀ N n c F, n < 2 ^ 31 → n < N → F 17 = nI c → ∃ F', f_X11_endsRun_59 fu N (mW C F v ar) 123 (nI n) = some (mW C F' v ar) ∧ F' 17 = nI (c + Nat.log2 n) ∧ ∀ k, k ≠ 17 → F' k = F k := by
  intro N
  induction N with
  | zero => intro n c F _ h _; omega
  | succ N ih =>
    intro n c F hn h hF
    rw [f_X11_endsRun_59]
    by_cases c1 : n ≤ 1
    · rw [if_pos (show nI n ≤ (1 : Int32) from nI_le (b := 1) c1 (by omega)), log2_1 (by omega)]
      exact ⟨F, rfl, hF, fun _ _ => rfl⟩
    · obtain ⟨F', g1, g2, g3⟩ := ih (n / 2) (c + 1) (upd F 17 (nI (c + 1))) (by omega) (by omega) (upd_eq _ _ _)
      rw [if_neg (show ¬ nI n ≤ (1 : Int32) from nI_ge (a := 1) (by omega) hn), m_gI hC F v ar 17 rfl, some_bind', hF, nI_1, m_p hC F v ar 17 (by omega) mFk.2.1, some_bind', bnd_eq, show (2 : Int32) = nI 2 from rfl, pk_div hn (by omega) (by omega), g1]
      refine ⟨F', rfl, ?_, fun k hk => by rw [g3 k hk, upd_ne _ _ hk]⟩
      rw [g2, log2_s (n := n) (by omega), show c + 1 + (n / 2).log2 = c + ((n / 2).log2 + 1) by omega]
theorem endsRun_ok (hC : C.length = 123) (hfu : 2000 ≤ fu) {F : Nat → Int32} {R : RS} (h : RF F R) (hB : RB R 0) : ∃ F', f_X11_endsRun fu (mW C F v ar) 123 = some (mW C F' v ar) ∧ RF F' (rEnd R) ∧ FS F F' := by
  obtain ⟨b1, b2⟩ := hB
  obtain ⟨f1, f2, f3, f4, f5⟩ := h
  rw [f_X11_endsRun, m_gI hC F v ar 19 rfl, some_bind', f4]
  unfold rEnd
  by_cases c : R.2.2.2.1 = 0
  · rw [if_pos c, c, if_pos (by decide)]
    exact ⟨F, rfl, ⟨f1, f2, f3, f4, f5⟩, fun _ _ => rfl⟩
  · rw [if_neg c, if_neg (fun q => c ((nI_eq0 (by omega)).mp q)), m_gI hC F v ar 16 rfl, some_bind', f1, nI_1, m_p hC F v ar 16 (by omega) mFk.1, some_bind']
    have key : ∃ F', f_X11_endsRun_41 fu (mW C (upd F 16 (nI (R.1 + 1))) v ar) 123 123 (nI (max R.2.2.1 R.2.2.2.1)) = some (mW C F' v ar) ∧ RF F' (R.1 + 1, R.2.1 + 1 + Nat.log2 R.2.2.2.1, max R.2.2.1 R.2.2.2.1, R.2.2.2.1, R.2.2.2.2) ∧ FS F F' := by
      obtain ⟨F', g1, g2, g3⟩ := endsRun_loop (v := v) (ar := ar) (fu := fu) hC fu R.2.2.2.1 (R.2.1 + 1) (upd (upd (upd F 16 (nI (R.1 + 1))) 18 (nI (max R.2.2.1 R.2.2.2.1))) 17 (nI (R.2.1 + 1))) (by omega) (by omega) (upd_eq _ _ _)
      rw [f_X11_endsRun_41, m_p hC _ v ar 18 (by omega) mFk.2.2.1, some_bind', m_gI hC _ v ar 17 rfl, some_bind', upd_ne _ _ (by omega : 17 ≠ 18), upd_ne _ _ (by omega : 17 ≠ 16), f2, nI_1, m_p hC _ v ar 17 (by omega) mFk.2.1, some_bind', m_gI hC _ v ar 19 rfl, some_bind', upd_ne _ _ (by omega : 19 ≠ 17), upd_ne _ _ (by omega : 19 ≠ 18), upd_ne _ _ (by omega : 19 ≠ 16), f4, bnd_eq, g1]
      refine ⟨F', rfl, ⟨?_, g2, ?_, ?_, ?_⟩, fun k hk => ?_⟩
      · rw [g3 16 (by omega), upd_ne _ _ (by omega), upd_ne _ _ (by omega), upd_eq]
      · rw [g3 18 (by omega), upd_ne _ _ (by omega), upd_eq]
      · rw [g3 19 (by omega), upd_ne _ _ (by omega), upd_ne _ _ (by omega), upd_ne _ _ (by omega)]; exact f4
      · rw [g3 20 (by omega), upd_ne _ _ (by omega), upd_ne _ _ (by omega), upd_ne _ _ (by omega)]; exact f5
      · rw [g3 k (by omega), upd_ne _ _ (by omega), upd_ne _ _ (by omega), upd_ne _ _ (by omega)]
    rw [m_gI hC _ v ar 19 rfl, some_bind', upd_ne _ _ (by omega : 19 ≠ 16), f4, m_gI hC _ v ar 18 rfl, some_bind', upd_ne _ _ (by omega : 18 ≠ 16), f3]
    by_cases q : R.2.2.2.1 ≤ R.2.2.1
    · rw [if_pos (nI_le q (by omega)), some_bind']
      rw [Nat.max_eq_left q] at key ⊢
      exact key
    · rw [if_neg (nI_ge (by omega) (by omega)), some_bind']
      rw [Nat.max_eq_right (by omega)] at key ⊢
      exact key
theorem goes_ok (hC : C.length = 123) (hfu : 2000 ≤ fu) {F : Nat → Int32} {R : RS} (h : RF F R) (h20 : F 20 = -1 ∨ F 20 = nI R.2.2.2.2) (hB : RB R 1) (hof : R.2.2.2.2 ≤ 1) {o : Nat} (ho : o ≤ 1) : ∃ F', f_X11_goes fu (mW C F v ar) 123 (nI o) = some (mW C F' v ar) ∧ RF F' (rGo o R) ∧ F' 20 = nI o ∧ FS F F' := by
  obtain ⟨b1, b2⟩ := hB
  rw [f_X11_goes, m_gI hC F v ar 20 rfl, some_bind']
  by_cases c : nI o = F 20
  · have hx : F 20 = nI R.2.2.2.2 := by
      rcases h20 with q | q
      · rw [q] at c; exact absurd c (m1_ne o (by omega))
      · exact q
    have ho2 : o = R.2.2.2.2 := by rw [hx] at c; exact (nI_eq (by omega) (by omega)).mp c
    obtain ⟨f1, f2, f3, f4, f5⟩ := h
    rw [if_pos c, f_X11_goes_22, m_gI hC F v ar 19 rfl, some_bind', f4, nI_1, m_p hC F v ar 19 (by omega) mFk.2.2.2.1, some_bind']
    have er : rGo o R = (R.1, R.2.1, R.2.2.1, R.2.2.2.1 + 1, o) := by unfold rGo; rw [if_pos ho2]
    rw [er]
    refine ⟨_, rfl, ⟨?_, ?_, ?_, upd_eq _ _ _, Or.inr ?_⟩, ?_, fun k hk => upd_ne _ _ (by omega)⟩
    · rw [upd_ne _ _ (by omega)]; exact f1
    · rw [upd_ne _ _ (by omega)]; exact f2
    · rw [upd_ne _ _ (by omega)]; exact f3
    · rw [upd_ne _ _ (by omega)]; exact c.symm
    · rw [upd_ne _ _ (by omega)]; exact c.symm
  · have er : rGo o R = ((rEnd R).1, (rEnd R).2.1, (rEnd R).2.2.1, 1, o) := by
      unfold rGo
      by_cases q : o = R.2.2.2.2
      · have hr : R.2.2.2.1 = 0 := by
          rcases h.2.2.2.2 with q2 | q2
          · exact q2
          · rw [q2, q] at c; exact absurd rfl c
        rw [if_pos q]
        unfold rEnd
        rw [if_pos hr, hr]
      · rw [if_neg q]
    obtain ⟨F1, g1, g2, g3⟩ := endsRun_ok (v := v) (ar := ar) hC hfu h ⟨b1, by omega⟩
    obtain ⟨f1, f2, f3, f4, f5⟩ := g2
    rw [if_neg c, m_cl hC, g1, some_bind', m_p hC _ v ar 19 (by omega) mFk.2.2.2.1, some_bind', m_p hC _ v ar 20 (by omega) mFk.2.2.2.2, some_bind', f_X11_goes_22, m_gI hC _ v ar 19 rfl, some_bind', upd_ne _ _ (by omega : 19 ≠ 20), upd_eq, show (0 : Int32) + 1 = nI 1 from rfl, m_p hC _ v ar 19 (by omega) mFk.2.2.2.1, some_bind', er]
    refine ⟨_, rfl, ⟨?_, ?_, ?_, upd_eq _ _ _, Or.inr ?_⟩, ?_, fun k hk => ?_⟩
    · rw [upd_ne _ _ (by omega), upd_ne _ _ (by omega), upd_ne _ _ (by omega)]; exact f1
    · rw [upd_ne _ _ (by omega), upd_ne _ _ (by omega), upd_ne _ _ (by omega)]; exact f2
    · rw [upd_ne _ _ (by omega), upd_ne _ _ (by omega), upd_ne _ _ (by omega)]; exact f3
    · rw [upd_ne _ _ (by omega), upd_eq]
    · rw [upd_ne _ _ (by omega), upd_eq]
    · rw [upd_ne _ _ (by omega), upd_ne _ _ (by omega), upd_ne _ _ (by omega)]; exact g3 k hk
theorem lays_loop {b : Nat} {s : AS} (hfu : 2000 ≤ fu) {p q : Nat} (hp : p < 8) (hq : q < 8) : ∀ N i j R F, MB C F ar b s → RF F R → (F 20 = -1 ∨ F 20 = nI R.2.2.2.2) → RB R (((s.1 p).length - i) + ((s.1 q).length - j)) → R.2.2.2.2 ≤ 1 → i ≤ (s.1 p).length → j ≤ (s.1 q).length → ((s.1 p).length - i) + ((s.1 q).length - j) < N → ∃ F', f_X11_laysRuns_30 fu N (mW C F v ar) 123 (nI p) (nI q) (nI i) (nI j) = some (mW C F' v ar) ∧ RF F' (rAll (evs ((s.1 p).drop i) ((s.1 q).drop j)) R) ∧ FS F F' := by
  intro N
  induction N with
  | zero => intro i j R F _ _ _ _ _ _ _ hN; omega
  | succ N ih =>
    intro i j R F B h h20 hB hof hi hj hN
    have S := B.2.2.2.2 p hp
    have S2 := B.2.2.2.2 q hq
    have l1 := S.len
    have l2 := S2.len
    have hC := B.1
    rw [f_X11_laysRuns_30, B.cl, B.many hp, some_bind']
    have step : ∀ t, t < 3 → (i + if t ≤ 1 then 1 else 0) ≤ (s.1 p).length → (j + if 1 ≤ t then 1 else 0) ≤ (s.1 q).length → evs ((s.1 p).drop i) ((s.1 q).drop j) = t :: evs ((s.1 p).drop (i + if t ≤ 1 then 1 else 0)) ((s.1 q).drop (j + if 1 ≤ t then 1 else 0)) → ∀ a c : Nat, a < 2 ^ 31 → c < 2 ^ 31 → ((t = 0 ∧ a < c) ∨ (t = 1 ∧ a = c) ∨ (t = 2 ∧ c < a)) → ∃ F', f_X11_laysRuns_95 fu (f_X11_laysRuns_30 fu N) (mW C F v ar) 123 (nI p) (nI q) (nI i) (nI j) (nI a) (nI c) = some (mW C F' v ar) ∧ RF F' (rAll (evs ((s.1 p).drop i) ((s.1 q).drop j)) R) ∧ FS F F' := by
      intro t ht hi2 hj2 he a c ha hc hac
      have hB1 : RB R 1 := ⟨hB.1, by
        have := hB.2
        have : t = 0 ∨ t = 1 ∨ t = 2 := by omega
        rcases this with rfl | rfl | rfl <;> simp at hi2 hj2 <;> omega⟩
      have ho : ofE t ≤ 1 := by unfold ofE; split <;> omega
      obtain ⟨F1, g1, g2, g3, g4⟩ := goes_ok (v := v) (ar := ar) hC hfu h h20 hB1 hof ho
      have B1 : MB C F1 ar b s := B.F hC (g4 9 (by omega)) B.2.2.2.1 B.2.2.2.2
      have hB2 : RB (rGo (ofE t) R) (((s.1 p).length - (i + if t ≤ 1 then 1 else 0)) + ((s.1 q).length - (j + if 1 ≤ t then 1 else 0))) := by
        refine RB.go ⟨hB.1, ?_⟩ _
        have := hB.2
        have : t = 0 ∨ t = 1 ∨ t = 2 := by omega
        rcases this with rfl | rfl | rfl <;> simp at hi2 hj2 ⊢ <;> omega
      have hlt : ((s.1 p).length - (i + if t ≤ 1 then 1 else 0)) + ((s.1 q).length - (j + if 1 ≤ t then 1 else 0)) < N := by
        have : t = 0 ∨ t = 1 ∨ t = 2 := by omega
        rcases this with rfl | rfl | rfl <;> simp at hi2 hj2 ⊢ <;> omega
      obtain ⟨F2, k1, k2, k3⟩ := ih _ _ (rGo (ofE t) R) F1 B1 g2 (Or.inr (by rw [rGo_of]; exact g3)) hB2 (by rw [rGo_of]; exact ho) hi2 hj2 hlt
      refine ⟨F2, ?_, by rw [he]; exact k2, g4.tr k3⟩
      rw [f_X11_laysRuns_95, bnd_eq]
      rcases hac with ⟨rfl, q⟩ | ⟨rfl, q⟩ | ⟨rfl, q⟩
      · rw [if_neg (nI_nlt (by omega) hc), m_cl hC, show (0 : Int32) = nI (ofE 0) from rfl, g1, some_bind', f_X11_laysRuns_117, if_neg (nI_nlt (by omega) hc), f_X11_laysRuns_130, bnd_eq, if_pos (nI_lt q hc), f_X11_laysRuns_146, bnd_eq, nI_1, show (0 : Int32) = nI 0 from rfl, nI_add]
        exact k1
      · rw [if_neg (nI_nlt (by omega) hc), m_cl hC, show (0 : Int32) = nI (ofE 1) from rfl, g1, some_bind', f_X11_laysRuns_117, if_neg (nI_nlt (by omega) hc), f_X11_laysRuns_130, bnd_eq, if_neg (nI_nlt (by omega) ha), f_X11_laysRuns_146, bnd_eq, nI_1, nI_1]
        exact k1
      · rw [if_pos (nI_lt q ha), m_cl hC, show (1 : Int32) = nI (ofE 2) from rfl, g1, some_bind', f_X11_laysRuns_117, if_pos (nI_lt q ha), f_X11_laysRuns_130, bnd_eq, if_neg (nI_nlt (by omega) ha), f_X11_laysRuns_146, bnd_eq, show (0 : Int32) = nI 0 from rfl, nI_add, nI_1]
        exact k1
    have k49 : i < (s.1 p).length ∨ j < (s.1 q).length → ∃ F', f_X11_laysRuns_49 fu (f_X11_laysRuns_30 fu N) (mW C F v ar) 123 (nI p) (nI q) (nI i) (nI j) = some (mW C F' v ar) ∧ RF F' (rAll (evs ((s.1 p).drop i) ((s.1 q).drop j)) R) ∧ FS F F' := by
      intro hor
      rw [f_X11_laysRuns_49, B.cl, B.many hp, some_bind']
      by_cases ci : (s.1 p).length ≤ i
      · have b2 := S2.lt (show j < (s.1 q).length by omega)
        rw [if_pos (nI_le ci (by omega)), f_X11_laysRuns_70, bnd_eq, B.cl, B.many hq, some_bind', if_neg (nI_ge (by omega) (by omega)), B.cl, B.key hq (by omega), some_bind', show (10000 : Int32) = nI 10000 from rfl]
        exact step 2 (by omega) (by simp; omega) (by simp; omega) (evs_c1 ci (by omega)) _ _ (by omega) (by omega) (by omega)
      · have b1 := S.lt (show i < (s.1 p).length by omega)
        rw [if_neg (nI_ge (by omega) (by omega)), B.cl, B.key hp (by omega), some_bind', f_X11_laysRuns_70, bnd_eq, B.cl, B.many hq, some_bind']
        by_cases cj : (s.1 q).length ≤ j
        · rw [if_pos (nI_le cj (by omega)), show (10000 : Int32) = nI 10000 from rfl]
          exact step 0 (by omega) (by simp; omega) (by simp; omega) (evs_c2 (by omega) cj) _ _ (by omega) (by omega) (by omega)
        · have b2 := S2.lt (show j < (s.1 q).length by omega)
          have ec := evs_c3 (show i < (s.1 p).length by omega) (show j < (s.1 q).length by omega)
          rw [if_neg (nI_ge (by omega) (by omega)), B.cl, B.key hq (by omega), some_bind']
          by_cases q1 : nth (s.1 p) i / 2 < nth (s.1 q) j / 2
          · rw [if_pos q1] at ec
            exact step 0 (by omega) (by simp; omega) (by simp; omega) ec _ _ (by omega) (by omega) (by omega)
          · rw [if_neg q1] at ec
            by_cases q2 : nth (s.1 p) i / 2 = nth (s.1 q) j / 2
            · rw [if_pos q2] at ec
              exact step 1 (by omega) (by simp; omega) (by simp; omega) ec _ _ (by omega) (by omega) (by omega)
            · rw [if_neg q2] at ec
              exact step 2 (by omega) (by simp; omega) (by simp; omega) ec _ _ (by omega) (by omega) (by omega)
    by_cases ci : i < (s.1 p).length
    · rw [if_pos (nI_lt ci (by omega))]
      exact k49 (Or.inl ci)
    · rw [if_neg (nI_nlt (by omega) (by omega)), B.cl, B.many hq, some_bind']
      by_cases cj : j < (s.1 q).length
      · rw [if_neg (nI_ge cj (by omega))]
        exact k49 (Or.inr cj)
      · obtain ⟨F', g1, g2, g3⟩ := endsRun_ok (v := v) (ar := ar) hC hfu h ⟨hB.1, by have := hB.2; omega⟩
        rw [if_pos (nI_le (by omega) (by omega)), B.cl, g1, some_bind', drop_len (by omega), drop_len (by omega), evs]
        exact ⟨F', rfl, g2, g3⟩
theorem lays_ok {b : Nat} {s : AS} (hfu : 2000 ≤ fu) {p q : Nat} (hp : p < 8) (hq : q < 8) {F : Nat → Int32} (B : MB C F ar b s) : ∃ F', f_X11_laysRuns fu (mW C F v ar) 123 (nI p) (nI q) = some (mW C F' v ar) ∧ RF F' (rsOf (s.1 p) (s.1 q)) ∧ FS F F' := by
  have hC := B.1
  have l1 := (B.2.2.2.2 p hp).len
  have l2 := (B.2.2.2.2 q hq).len
  have f5 : FS F (upd (upd (upd (upd (upd F 16 0) 17 0) 18 0) 19 0) 20 (-1)) := ((((FS.up (F := F) (fun _ _ => rfl) (by omega) 0).up (by omega) 0).up (by omega) 0).up (by omega) 0).up (by omega) (-1)
  obtain ⟨F', g1, g2, g3⟩ := lays_loop (v := v) (fu := fu) hfu hp hq fu 0 0 (0, 0, 0, 0, 0) (upd (upd (upd (upd (upd F 16 0) 17 0) 18 0) 19 0) 20 (-1)) (B.F hC (f5 9 (by omega)) B.2.2.2.1 B.2.2.2.2) ⟨rfl, rfl, rfl, rfl, Or.inl rfl⟩ (Or.inl rfl) ⟨by decide, by show 0 + _ ≤ 1000; omega⟩ (by decide) (by omega) (by omega) (by omega)
  refine ⟨F', ?_, g2, f5.tr g3⟩
  rw [f_X11_laysRuns, m_p hC _ v ar 16 (by omega) mFk.1, some_bind', m_p hC _ v ar 17 (by omega) mFk.2.1, some_bind', m_p hC _ v ar 18 (by omega) mFk.2.2.1, some_bind', m_p hC _ v ar 19 (by omega) mFk.2.2.2.1, some_bind', m_p hC _ v ar 20 (by omega) mFk.2.2.2.2, some_bind', bnd_eq, bnd_eq]
  exact g1
theorem twins_loop {b : Nat} {s : AS} (hfu : 100 ≤ fu) {p q : Nat} (hp : p < 8) (hq : q < 8) {F : Nat → Int32} (B : MB C F ar b s) : ∀ N k acc, k ≤ (s.1 q).length → (s.1 q).length - k < N → f_X11_twins_5 fu (mW C F v ar) N 123 (nI p) (nI q) (nI acc) (nI k) = some (nI (acc + twN (s.1 p) ((s.1 q).drop k))) := by
  have S := B.2.2.2.2 p hp
  have S2 := B.2.2.2.2 q hq
  have l2 := S2.len
  intro N
  induction N with
  | zero => intro k acc _ hN; omega
  | succ N ih =>
    intro k acc hk hN
    rw [f_X11_twins_5, B.cl, B.many hq, some_bind']
    by_cases c : (s.1 q).length ≤ k
    · rw [if_pos (nI_le c (by omega)), drop_len c]; rfl
    · have hk' : k < (s.1 q).length := by omega
      have hb := S2.lt hk'
      rw [if_neg (nI_ge hk' (by omega)), B.cl, B.key hq hk', some_bind', B.cl, B.place hp hfu, some_bind', drop_cons hk']
      have e1 : ∀ x, twN (s.1 p) (x :: (s.1 q).drop (k + 1)) = twN (s.1 p) ((s.1 q).drop (k + 1)) + if hasK (s.1 p) (x / 2) = true then 1 else 0 := fun x => List.countP_cons
      rw [e1]
      have h1 := hasK_plc S (k := nth (s.1 q) k / 2) (by omega)
      by_cases c2 : plc (s.1 p) (nI (nth (s.1 q) k / 2)) = -1
      · rw [if_pos c2, f_X11_twins_37, bnd_eq, bnd_eq, nI_1, show (0 : Int32) = nI 0 from rfl, nI_add, ih (k + 1) _ hk' (by omega), if_neg (fun q => h1.mp q c2)]
        rfl
      · rw [if_neg c2, f_X11_twins_37, bnd_eq, bnd_eq, nI_1, nI_1, ih (k + 1) _ hk' (by omega), if_pos (h1.mpr c2)]
        congr 2
        omega
theorem twins_ok {b : Nat} {s : AS} (hfu : 100 ≤ fu) {p q : Nat} (hp : p < 8) (hq : q < 8) {F : Nat → Int32} (B : MB C F ar b s) : f_X11_twins fu (mW C F v ar) 123 (nI p) (nI q) = some (nI (twN (s.1 p) (s.1 q))) := by
  have := twins_loop (v := v) (fu := fu) hfu hp hq B fu 0 0 (by omega) (by have := (B.2.2.2.2 q hq).len; omega)
  rw [Nat.zero_add] at this
  rw [f_X11_twins, bnd_eq, bnd_eq]
  exact this
end M
end
section
/-! MELT of two sets: by keys -/
def mk (L : List Nat) (k : Nat) : Option Nat := L.find? (fun e => e / 2 == k)
theorem mk_some {L : List Nat} (P : PW L) {k e : Nat} : mk L k = some e ↔ e ∈ L ∧ e / 2 = k := by
  unfold mk
  constructor
  · intro h
    exact ⟨List.mem_of_find?_eq_some h, by have := List.find?_some h; simpa using this⟩
  · rintro ⟨h1, h2⟩
    induction L with
    | nil => simp at h1
    | cons a L ih =>
      obtain ⟨P1, P2⟩ := List.pairwise_cons.mp P
      rw [List.find?_cons]
      rcases List.mem_cons.mp h1 with rfl | h1
      · simp [h2]
      · have := P1 e h1
        have hne : (a / 2 == k) = false := by rw [beq_eq_false_iff_ne]; omega
        rw [hne]
        exact ih P2 h1
theorem mk_none {L : List Nat} {k : Nat} : mk L k = none ↔ ∀ e ∈ L, e / 2 ≠ k := by
  unfold mk
  rw [List.find?_eq_none]
  simp
/-- sets with the same entries are the same -/
theorem PW_ext : ∀ {L M : List Nat}, PW L → PW M → (∀ e, e ∈ L ↔ e ∈ M) → L = M
  | [], [], _, _, _ => rfl
  | [], b :: M, _, _, h => absurd ((h b).mpr List.mem_cons_self) (by simp)
  | a :: L, [], _, _, h => absurd ((h a).mp List.mem_cons_self) (by simp)
  | a :: L, b :: M, P, Q, h => by
    obtain ⟨P1, P2⟩ := List.pairwise_cons.mp P
    obtain ⟨Q1, Q2⟩ := List.pairwise_cons.mp Q
    have hab : a = b := by
      rcases List.mem_cons.mp ((h a).mp List.mem_cons_self) with q | q
      · exact q
      · rcases List.mem_cons.mp ((h b).mpr List.mem_cons_self) with q2 | q2
        · exact q2.symm
        · have := P1 b q2
          have := Q1 a q
          omega
    subst hab
    rw [PW_ext P2 Q2 (fun e => ?_)]
    constructor
    · intro he
      rcases List.mem_cons.mp ((h e).mp (List.mem_cons_of_mem _ he)) with q | q
      · have := P1 e he; rw [q] at this; omega
      · exact q
    · intro he
      rcases List.mem_cons.mp ((h e).mpr (List.mem_cons_of_mem _ he)) with q | q
      · have := Q1 e he; rw [q] at this; omega
      · exact q
theorem mk_ext {L M : List Nat} (P : PW L) (Q : PW M) (h : ∀ k, mk L k = mk M k) : L = M := by
  refine PW_ext P Q (fun e => ?_)
  have h1 := mk_some P (k := e / 2) (e := e)
  have h2 := mk_some Q (k := e / 2) (e := e)
  rw [h] at h1
  constructor
  · intro q; exact (h2.mp (h1.mpr ⟨q, rfl⟩)).1
  · intro q; exact (h1.mp (h2.mpr ⟨q, rfl⟩)).1
/-- an entry of both: marked if one is -/
def orE (a b : Nat) : Nat := if b % 2 = 1 then 2 * (b / 2) + 1 else a
def orO (x y : Option Nat) : Option Nat := match x, y with
  | none, y => y
  | some a, none => some a
  | some a, some b => some (orE a b)
theorem orO_none (x : Option Nat) : orO x none = x := by cases x <;> rfl
theorem orE_key {a b : Nat} (h : a / 2 = b / 2) : orE a b / 2 = a / 2 := by
  unfold orE; split <;> omega
/-- one step of the model: entry e comes to L -/
theorem mk_step {s : AS} {i j : Nat} (O : ∀ i, i < 8 → SOK (s.1 i)) (hi : i < 8) (hj : j < 8) (hr : 0 < (s.1 i).length) (hl : plc (s.1 j) (nI (nth (s.1 i) 0 / 2)) = -1 → (s.1 j).length < 60) (k : Nat) : mk ((goStep s i j 0).1 j) k = if nth (s.1 i) 0 / 2 = k then orO (mk (s.1 j) k) (some (nth (s.1 i) 0)) else mk (s.1 j) k := by
  have Sj := O j hj
  have Sg := (goStep_j O hi hj hr hl).1
  have he := (O i hi).lt hr
  unfold goStep at Sg ⊢
  by_cases c : plc (s.1 j) (nI (nth (s.1 i) 0 / 2)) = -1
  · have hno := (plc_iff Sj (by omega)).mp c
    rw [if_pos c] at Sg ⊢
    simp only [vu_eq] at Sg ⊢
    by_cases q : nth (s.1 i) 0 / 2 = k
    · rw [if_pos q]
      have h0 : mk (s.1 j) k = none := mk_none.mpr (fun e h => by rw [← q]; exact hno e h)
      rw [h0]
      exact (mk_some Sg.1).mpr ⟨mem_ins.mpr (Or.inl rfl), q⟩
    · rw [if_neg q]
      cases h0 : mk (s.1 j) k with
      | none =>
        rw [mk_none] at h0 ⊢
        intro e h
        rcases mem_ins.mp h with rfl | h
        · exact q
        · exact h0 e h
      | some e =>
        obtain ⟨h1, h2⟩ := (mk_some Sj.1).mp h0
        exact (mk_some Sg.1).mpr ⟨mem_ins.mpr (Or.inr h1), h2⟩
  · obtain ⟨hb, hpe⟩ := plc_ne c
    have hk := key_eq Sj c
    have hlt := Sj.lt hb
    have hk2 : nth (s.1 j) (bel (s.1 j) (nI (nth (s.1 i) 0 / 2))) / 2 = nth (s.1 i) 0 / 2 := (nI_eq (by omega) (by omega)).mp hk
    have h0 : ∀ k, nth (s.1 i) 0 / 2 = k → mk (s.1 j) k = some (nth (s.1 j) (bel (s.1 j) (nI (nth (s.1 i) 0 / 2)))) := fun k q => (mk_some Sj.1).mpr ⟨nth_mem hb, by omega⟩
    rw [if_neg c] at Sg ⊢
    by_cases c2 : nth (s.1 i) 0 % 2 = 1
    · rw [if_pos c2] at Sg ⊢
      simp only [vu_eq] at Sg ⊢
      by_cases q : nth (s.1 i) 0 / 2 = k
      · rw [if_pos q, h0 k q]
        show _ = some (orE _ _)
        unfold orE
        rw [if_pos c2]
        refine (mk_some Sg.1).mpr ⟨List.mem_iff_getElem.mpr ⟨bel (s.1 j) (nI (nth (s.1 i) 0 / 2)), by rw [List.length_set]; exact hb, by rw [List.getElem_set_self]⟩, by omega⟩
      · rw [if_neg q]
        have hmem : ∀ e, e / 2 = k → (e ∈ (s.1 j).set (bel (s.1 j) (nI (nth (s.1 i) 0 / 2))) (2 * (nth (s.1 i) 0 / 2) + 1) ↔ e ∈ s.1 j) := by
          intro e hek
          constructor
          · intro h
            obtain ⟨z, hz, rfl⟩ := mem_nth h
            rw [List.length_set] at hz
            rw [nth_set hb] at hek ⊢
            by_cases y : z = bel (s.1 j) (nI (nth (s.1 i) 0 / 2))
            · rw [if_pos y] at hek; omega
            · rw [if_neg y]; exact nth_mem hz
          · intro h
            obtain ⟨z, hz, rfl⟩ := mem_nth h
            have y : z ≠ bel (s.1 j) (nI (nth (s.1 i) 0 / 2)) := fun y => by rw [y] at hek; omega
            have := nth_mem (L := (s.1 j).set (bel (s.1 j) (nI (nth (s.1 i) 0 / 2))) (2 * (nth (s.1 i) 0 / 2) + 1)) (j := z) (by rw [List.length_set]; exact hz)
            rw [nth_set hb, if_neg y] at this
            exact this
        refine Option.ext (fun e => ?_)
        rw [mk_some Sg.1, mk_some Sj.1]
        constructor
        · rintro ⟨h1, h2⟩; exact ⟨(hmem e h2).mp h1, h2⟩
        · rintro ⟨h1, h2⟩; exact ⟨(hmem e h2).mpr h1, h2⟩
    · rw [if_neg c2]
      simp only [vu_eq]
      by_cases q : nth (s.1 i) 0 / 2 = k
      · rw [if_pos q, h0 k q]
        show _ = some (orE _ _)
        unfold orE
        rw [if_neg c2]
      · rw [if_neg q]
theorem mk_cons (a : Nat) (L : List Nat) (k : Nat) : mk (a :: L) k = if a / 2 = k then some a else mk L k := by
  unfold mk
  rw [List.find?_cons]
  by_cases q : a / 2 = k
  · simp [q]
  · rw [if_neg q]
    have : (a / 2 == k) = false := by rw [beq_eq_false_iff_ne]; exact q
    rw [this]
/-- all of i go over to j, by the model -/
theorem goI_melt {i j : Nat} (hi : i < 8) (hj : j < 8) (hij : i ≠ j) : ∀ n (s : AS), (∀ q, q < 8 → SOK (s.1 q)) → (s.1 i).length = n → (s.1 j).length + cNew (s.1 j) (s.1 i) ≤ 60 → (goI i j 0 n s).1 i = [] ∧ (∀ k, mk ((goI i j 0 n s).1 j) k = orO (mk (s.1 j) k) (mk (s.1 i) k)) ∧ (∀ q, q ≠ i → q ≠ j → (goI i j 0 n s).1 q = s.1 q ∧ (goI i j 0 n s).2 q = s.2 q) ∧ (goI i j 0 n s).2 j = (if cNew (s.1 j) (s.1 i) = 0 then s.2 j else -1) ∧ (0 < n → (goI i j 0 n s).2 i = -1) ∧ ((goI i j 0 n s).1 j).length = (s.1 j).length + cNew (s.1 j) (s.1 i) ∧ (∀ q, q < 8 → SOK ((goI i j 0 n s).1 q))
  | 0, s, O, hn, _ => by
    have e : s.1 i = [] := List.length_eq_zero_iff.mp hn
    rw [e]
    have ec : cNew (s.1 j) [] = 0 := rfl
    rw [ec, if_pos rfl]
    refine ⟨e, fun k => ?_, fun _ _ _ => ⟨rfl, rfl⟩, rfl, fun h => by omega, rfl, O⟩
    show mk (s.1 j) k = orO (mk (s.1 j) k) none
    rw [orO_none]
  | n + 1, s, O, hn, hl => by
    have hr : 0 < (s.1 i).length := by omega
    have hcs : plc (s.1 j) (nI (nth (s.1 i) 0 / 2)) = -1 → (s.1 j).length < 60 := by
      intro hp
      have e1 : s.1 i = nth (s.1 i) 0 :: (s.1 i).drop 1 := by
        have := drop_cons (i := 0) hr
        rw [List.drop_zero] at this
        exact this
      rw [e1] at hl
      unfold cNew at hl
      rw [List.countP_cons, if_pos (by simpa using hp)] at hl
      omega
    have hstep := cNew_step (m := (s.1 i).length) O hi hj hij hr hr hcs
    have hJ := goStep_j O hi hj hr hcs
    have hO := goStep_ok O hi hj hij hr hcs
    obtain ⟨hI1, hI2⟩ := goStep_i (s := s) (r := 0) hij
    have hlen : ((goStep s i j 0).1 i).length = n := by rw [hI1, List.length_eraseIdx_of_lt hr]; omega
    rw [List.drop_zero, List.take_length] at hstep
    have ht : (((goStep s i j 0).1 i).drop 0).take ((s.1 i).length - 1) = (goStep s i j 0).1 i := by
      rw [List.drop_zero, List.take_of_length_le (by omega)]
    rw [ht] at hstep
    obtain ⟨g1, g2, g3, g4, g5, g6, g7⟩ := goI_melt hi hj hij n (goStep s i j 0) hO hlen (by rw [hJ.2.1]; omega)
    have e1 : s.1 i = nth (s.1 i) 0 :: (goStep s i j 0).1 i := by
      rw [hI1]
      have := drop_cons (i := 0) hr
      rw [List.drop_zero] at this
      rw [List.eraseIdx_zero, ← List.drop_one]
      exact this
    have key2 : (goStep s i j 0).2 j = if plc (s.1 j) (nI (nth (s.1 i) 0 / 2)) = -1 then -1 else s.2 j := by
      unfold goStep
      by_cases c : plc (s.1 j) (nI (nth (s.1 i) 0 / 2)) = -1
      · rw [if_pos c, if_pos c]; simp only [vu_eq]
      · rw [if_neg c, if_neg c]
        split <;> simp only [vu_eq]
    refine ⟨g1, fun k => ?_, fun q h1 h2 => ?_, ?_, fun _ => ?_, ?_, g7⟩
    · show mk ((goI i j 0 n (goStep s i j 0)).1 j) k = _
      rw [g2 k, mk_step O hi hj hr hcs k]
      have e2 : mk (s.1 i) k = if nth (s.1 i) 0 / 2 = k then some (nth (s.1 i) 0) else mk ((goStep s i j 0).1 i) k := by
        conv => lhs; rw [e1]
        rw [mk_cons]
      rw [e2]
      by_cases q : nth (s.1 i) 0 / 2 = k
      · have h0 : mk ((goStep s i j 0).1 i) k = none := mk_none.mpr (fun e h => by
          have P := (O i hi).1
          rw [e1] at P
          have := (List.pairwise_cons.mp P).1 e h
          omega)
        rw [if_pos q, if_pos q, h0, orO_none]
      · rw [if_neg q, if_neg q]
    · have h3 := goStep_o (s := s) (r := 0) h1 h2
      exact ⟨(g3 q h1 h2).1.trans h3.1, (g3 q h1 h2).2.trans h3.2⟩
    · show (goI i j 0 n (goStep s i j 0)).2 j = _
      rw [g4, key2, hstep]
      by_cases c : plc (s.1 j) (nI (nth (s.1 i) 0 / 2)) = -1
      · rw [if_pos c, if_pos c, if_neg (show ¬ cNew ((goStep s i j 0).1 j) ((goStep s i j 0).1 i) + 1 = 0 by omega)]
        split <;> rfl
      · rw [if_neg c, if_neg c, Nat.add_zero]
    · show (goI i j 0 n (goStep s i j 0)).2 i = -1
      rcases Nat.eq_zero_or_pos n with q | q
      · subst q; exact hI2
      · exact g5 q
    · show ((goI i j 0 n (goStep s i j 0)).1 j).length = _
      rw [g6, hJ.2.1, hstep]; omega
end
section
/-! the class's way: from the greatest down -/
def mT (L M : List Nat) : Nat → Nat → List Nat
  | 0, 0 => []
  | p + 1, 0 => mT L M p 0 ++ [nth L p]
  | 0, q + 1 => mT L M 0 q ++ [nth M q]
  | p + 1, q + 1 => if nth M q / 2 < nth L p / 2 then mT L M p (q + 1) ++ [nth L p] else if nth L p / 2 = nth M q / 2 then mT L M p q ++ [orE (nth L p) (nth M q)] else mT L M (p + 1) q ++ [nth M q]
termination_by p q => p + q
def app1 (x : Option Nat) (a k : Nat) : Option Nat := match x with
  | some y => some y
  | none => if a / 2 = k then some a else none
theorem mk_app (A : List Nat) (a k : Nat) : mk (A ++ [a]) k = app1 (mk A k) a k := by
  unfold mk app1
  rw [List.find?_append]
  cases h : A.find? (fun e => e / 2 == k) with
  | some y => rfl
  | none =>
    rw [List.find?_cons]
    by_cases q : a / 2 = k
    · simp [q]
    · have : (a / 2 == k) = false := by rw [beq_eq_false_iff_ne]; exact q
      rw [this, if_neg q]; rfl
theorem take_s {L : List Nat} {p : Nat} (h : p < L.length) : L.take (p + 1) = L.take p ++ [nth L p] := by
  rw [List.take_add_one, List.getElem?_eq_getElem h, nth_get h]; rfl
theorem mk_take_none {L : List Nat} (S : SOK L) {p k : Nat} (hp : p ≤ L.length) (h : ∀ i, i < p → nth L i / 2 < k) : mk (L.take p) k = none := by
  rw [mk_none]
  intro e he
  obtain ⟨j, hj, rfl⟩ := mem_nth he
  rw [List.length_take] at hj
  have e1 : nth (L.take p) j = nth L j := by
    unfold nth
    rw [List.getD_eq_getElem?_getD, List.getElem?_take_of_lt (by omega), List.getD_eq_getElem?_getD]
  rw [e1]
  have := h j (by omega)
  omega
theorem app1_ne {x : Option Nat} {a k : Nat} (h : a / 2 ≠ k) : app1 x a k = x := by
  unfold app1
  cases x with
  | some y => rfl
  | none => rw [if_neg h]
/-- what mT is -/
def MTok (L M : List Nat) (p q : Nat) : Prop := PW (mT L M p q) ∧ (∀ e ∈ mT L M p q, (∃ i, i < p ∧ nth L i / 2 = e / 2) ∨ (∃ j, j < q ∧ nth M j / 2 = e / 2)) ∧ (∀ k, mk (mT L M p q) k = orO (mk (L.take p) k) (mk (M.take q) k)) ∧ p ≤ (mT L M p q).length ∧ (∀ e ∈ mT L M p q, e < 20000)
theorem MTok_snoc {L M : List Nat} {p q p' q' x : Nat} (h : MTok L M p q) (hx : x < 20000) (hlt : ∀ i, i < p → nth L i / 2 < x / 2) (hlt2 : ∀ j, j < q → nth M j / 2 < x / 2) (hp : p ≤ p') (hq : q ≤ q') (hin : (∃ i, i < p' ∧ nth L i / 2 = x / 2) ∨ (∃ j, j < q' ∧ nth M j / 2 = x / 2)) (he : mT L M p' q' = mT L M p q ++ [x]) (hpl : p' ≤ p + 1) (hk : ∀ k, app1 (orO (mk (L.take p) k) (mk (M.take q) k)) x k = orO (mk (L.take p') k) (mk (M.take q') k)) : MTok L M p' q' := by
  obtain ⟨h1, h2, h3, h4, h5⟩ := h
  unfold MTok
  rw [he]
  refine ⟨?_, fun e hm => ?_, fun k => ?_, by simp; omega, fun e hm => ?_⟩
  · refine List.pairwise_append.mpr ⟨h1, List.pairwise_singleton _ _, fun a ha b hb => ?_⟩
    rw [List.mem_singleton.mp hb]
    rcases h2 a ha with ⟨i, hi, e⟩ | ⟨j, hj, e⟩
    · have := hlt i hi; omega
    · have := hlt2 j hj; omega
  · rcases List.mem_append.mp hm with hm | hm
    · rcases h2 e hm with ⟨i, hi, e⟩ | ⟨j, hj, e⟩
      · exact Or.inl ⟨i, by omega, e⟩
      · exact Or.inr ⟨j, by omega, e⟩
    · rw [List.mem_singleton.mp hm]; exact hin
  · rw [mk_app, h3 k, hk k]
  · rcases List.mem_append.mp hm with hm | hm
    · exact h5 e hm
    · rw [List.mem_singleton.mp hm]; exact hx
theorem mT_ok {L M : List Nat} (S : SOK L) (S2 : SOK M) : ∀ n p q, p + q ≤ n → p ≤ L.length → q ≤ M.length → MTok L M p q
  | n, 0, 0, _, _, _ => by
    unfold MTok
    rw [mT]
    exact ⟨List.Pairwise.nil, fun e he => by simp at he, fun k => rfl, Nat.le_refl _, fun e he => by simp at he⟩
  | 0, p + 1, q, h, _, _ => by omega
  | 0, 0, q + 1, h, _, _ => by omega
  | n + 1, p + 1, 0, h, hp, hq => by
    have hlt : ∀ i, i < p → nth L i / 2 < nth L p / 2 := fun i hi => S.inc hi hp
    refine MTok_snoc (mT_ok S S2 n p 0 (by omega) (by omega) hq) (S.lt hp) hlt (fun j hj => by omega) (by omega) (by omega) (Or.inl ⟨p, by omega, rfl⟩) (by rw [mT]) (by omega) (fun k => ?_)
    have e0 : mk (M.take 0) k = none := rfl
    rw [e0, orO_none, orO_none, take_s hp, mk_app]
  | n + 1, 0, q + 1, h, hp, hq => by
    have hlt : ∀ i, i < q → nth M i / 2 < nth M q / 2 := fun i hi => S2.inc hi hq
    refine MTok_snoc (mT_ok S S2 n 0 q (by omega) hp (by omega)) (S2.lt hq) (fun j hj => by omega) hlt (by omega) (by omega) (Or.inr ⟨q, by omega, rfl⟩) (by rw [mT]) (by omega) (fun k => ?_)
    have e0 : mk (L.take 0) k = none := rfl
    rw [e0, take_s hq, mk_app]
    rfl
  | n + 1, p + 1, q + 1, h, hp, hq => by
    have hlt : ∀ i, i < p → nth L i / 2 < nth L p / 2 := fun i hi => S.inc hi hp
    have hlt2 : ∀ i, i < q → nth M i / 2 < nth M q / 2 := fun i hi => S2.inc hi hq
    by_cases c1 : nth M q / 2 < nth L p / 2
    · have hq1 : ∀ j, j < q + 1 → nth M j / 2 < nth L p / 2 := fun j hj => by
        rcases Nat.lt_or_ge j q with z | z
        · have := hlt2 j z; omega
        · rw [show j = q by omega]; exact c1
      refine MTok_snoc (mT_ok S S2 n p (q + 1) (by omega) (by omega) hq) (S.lt hp) hlt hq1 (by omega) (by omega) (Or.inl ⟨p, by omega, rfl⟩) (by rw [mT, if_pos c1]) (by omega) (fun k => ?_)
      rw [take_s hp, mk_app]
      by_cases ck : nth L p / 2 = k
      · rw [mk_take_none S (by omega) (fun i hi => by have := hlt i hi; omega), mk_take_none S2 (by omega) (fun i hi => by have := hq1 i hi; omega)]
        show app1 none _ _ = orO (app1 none _ _) none
        rw [orO_none]
      · rw [app1_ne ck, app1_ne ck]
    · by_cases c2 : nth L p / 2 = nth M q / 2
      · have hx : orE (nth L p) (nth M q) / 2 = nth L p / 2 := orE_key c2
        have b1 := S.lt hp
        have b2 := S2.lt hq
        refine MTok_snoc (mT_ok S S2 n p q (by omega) (by omega) (by omega)) (x := orE (nth L p) (nth M q)) (by omega) (fun i hi => by rw [hx]; exact hlt i hi) (fun i hi => by rw [hx, c2]; exact hlt2 i hi) (by omega) (by omega) (Or.inl ⟨p, by omega, hx.symm⟩) (by rw [mT, if_neg c1, if_pos c2]) (by omega) (fun k => ?_)
        rw [take_s hp, mk_app, take_s hq, mk_app]
        by_cases ck : nth L p / 2 = k
        · rw [mk_take_none S (by omega) (fun i hi => by have := hlt i hi; omega), mk_take_none S2 (by omega) (fun i hi => by have := hlt2 i hi; omega)]
          show app1 none _ _ = orO (app1 none _ _) (app1 none _ _)
          unfold app1
          rw [if_pos (by omega), if_pos ck, if_pos (by omega)]
          rfl
        · rw [app1_ne (by omega), app1_ne ck, app1_ne (by omega)]
      · have hp1 : ∀ j, j < p + 1 → nth L j / 2 < nth M q / 2 := fun j hj => by
          rcases Nat.lt_or_ge j p with z | z
          · have := hlt j z; omega
          · rw [show j = p by omega]; omega
        refine MTok_snoc (mT_ok S S2 n (p + 1) q (by omega) hp (by omega)) (S2.lt hq) hp1 hlt2 (by omega) (by omega) (Or.inr ⟨q, by omega, rfl⟩) (by rw [mT, if_neg c1, if_neg c2]) (by omega) (fun k => ?_)
        rw [take_s hq, mk_app]
        by_cases ck : nth M q / 2 = k
        · rw [mk_take_none S (by omega) (fun i hi => by have := hp1 i hi; omega), mk_take_none S2 (by omega) (fun i hi => by have := hlt2 i hi; omega)]
          rfl
        · rw [app1_ne ck, app1_ne ck]
theorem nI_or {a b : Nat} (ha : a < 20000) (hb : b < 20000) (h : a / 2 = b / 2) : nI a ||| nI b = nI (orE a b) := by
  have hx : orE a b < 20000 := by unfold orE; split <;> omega
  apply Int32.toBitVec_inj.mp
  apply BitVec.eq_of_toNat_eq
  show (BitVec.ofNat 32 a ||| BitVec.ofNat 32 b).toNat = (BitVec.ofNat 32 (orE a b)).toNat
  rw [BitVec.toNat_or, BitVec.toNat_ofNat, BitVec.toNat_ofNat, BitVec.toNat_ofNat, Nat.mod_eq_of_lt (show a < 2 ^ 32 by omega), Nat.mod_eq_of_lt (show b < 2 ^ 32 by omega), Nat.mod_eq_of_lt (show orE a b < 2 ^ 32 by omega)]
  have hor := orE_key h
  apply Nat.eq_of_testBit_eq
  intro i
  rw [Nat.testBit_or]
  cases i with
  | zero =>
    rw [Nat.testBit_zero, Nat.testBit_zero, Nat.testBit_zero]
    unfold orE
    by_cases q : b % 2 = 1
    · rw [if_pos q, q, show (2 * (b / 2) + 1) % 2 = 1 by omega]; simp
    · rw [if_neg q]; simp [q]
  | succ i =>
    rw [Nat.testBit_succ, Nat.testBit_succ, Nat.testBit_succ, hor, h, Bool.or_self]
theorem nI_or0 (x : Int32) : (0 : Int32) ||| x = x := by
  apply Int32.toBitVec_inj.mp
  show 0#32 ||| x.toBitVec = x.toBitVec
  simp
/-- an index that may be -1 -/
def mI (p : Nat) : Int32 := nI p + -1
theorem mI_0 : mI 0 = -1 := by decide
theorem mI_s (p : Nat) : mI (p + 1) = nI p := by
  unfold mI
  rw [nI_m1 (by omega)]; rfl
theorem mI_sub (p : Nat) : nI p - 1 = mI p := by unfold mI; rw [Int32.sub_eq_add_neg]
end
section
theorem cmp_m1 {a : Nat} (h : a < 2 ^ 31) : f_J6_compare_7cf53 (nI a) (-1) = cmpV 2 ∧ f_J6_compare_7cf53 (-1) (nI a) = cmpV 0 := by
  constructor
  · rw [f_J6_compare_7cf53, if_pos (Int32.le_of_lt (m1_lt a h)), if_neg (m1_ne a h)]; rfl
  · rw [f_J6_compare_7cf53, if_neg (Int32.not_le.mpr (m1_lt a h))]; rfl
theorem absorb_loop {fu h e h2 e2 K : Nat} {L M R : List Nat} {fg fg2 : Int32} (d1 : h ≠ e) (d2 : h ≠ h2) (d3 : h ≠ e2) (d4 : e ≠ h2) (d5 : e ≠ e2) (S : SOK L) (S2 : SOK M) (hR : R.length = K) (hK : K ≤ 60) : ∀ N p q k w xs, p + q < N → w[h]? = some (.inr (0, [.ref e, .int (nI L.length), .int fg])) → w[e]? = some (.inl (.int, 60, .inl xs)) → (∀ j, j < p → xs j = nI (nth L j)) → (∀ j, k ≤ j → j < K → xs j = nI (nth R j)) → HA w h2 e2 M fg2 → R.take k = mT L M p q → k = (mT L M p q).length → k ≤ K → p ≤ L.length → q ≤ M.length → ∃ w', f_X0_absorb_25 fu N w h h2 (nI K) (mI p) (mI q) (mI k) = some w' ∧ HA w' h e R (if K = L.length then fg else -1) ∧ HA w' h2 e2 [] (-1) ∧ Chg [h, e, h2] w w' := by
  have l1 := S.len
  have l2 := S2.len
  intro N
  induction N with
  | zero => intro p q k w xs hN; omega
  | succ N ih =>
    intro p q k w xs hN hw he hxs hys H2 hT hkl hkK hp hq
    obtain ⟨-, -, -, hpl, -⟩ := mT_ok S S2 _ p q (Nat.le_refl _) hp hq
    rw [f_X0_absorb_25]
    rcases Nat.eq_zero_or_pos k with hk0 | hk0
    · subst hk0
      rw [mI_0, if_pos (by decide), gI_ob hw rfl, some_bind']
      have fin : ∀ u g, u[h]? = some (.inr (0, [.ref e, .int (nI L.length), .int g])) → u[e]? = some (.inl (.int, 60, .inl xs)) → HA u h2 e2 M fg2 → ∃ w', f_X0_absorb_122 fu u h h2 (nI K) = some w' ∧ HA w' h e R g ∧ HA w' h2 e2 [] (-1) ∧ Chg [h, e, h2] u w' := by
        intro u g hu hue HU
        have c1 := Chg.st (ks := [h]) u (a := h) (.inr (0, [.ref e, .int (nI K), .int g])) (by simp)
        obtain ⟨w', g1, g2, g3⟩ := empty_ok (HU.chg c1 (by simp; omega) (by simp; omega))
        rw [f_X0_absorb_122, show (60 : Int32) = nI 60 from rfl, imin_l hK (by omega), pV_ob hu (by simp), some_bind']
        dsimp only [List.set]
        rw [(HU.chg c1 (by simp; omega) (by simp; omega)).cl, g1, some_bind']
        refine ⟨w', rfl, ⟨d1, ?_, xs, ?_, fun j hj => hys j (by omega) (by omega)⟩, g2, (c1.mono (by simp)).tr (g3.mono (by simp))⟩
        · rw [hR]; exact g3.at (by simp; omega) (get_set_eq hu)
        · exact g3.at (by simp; omega) (by rw [get_set_ne (by omega)]; exact hue)
      by_cases c : K = L.length
      · rw [if_pos (by rw [c]), if_pos c]
        exact fin w fg hw he H2
      · have c1 := Chg.st (ks := [h]) w (a := h) (.inr (0, [.ref e, .int (nI L.length), .int (-1)])) (by simp)
        obtain ⟨w', g1, g2, g3, g4⟩ := fin _ (-1) (get_set_eq hw) (by rw [get_set_ne (by omega)]; exact he) (H2.chg c1 (by simp; omega) (by simp; omega))
        rw [if_neg (fun z => c ((nI_eq (by omega) (by omega)).mp z)), if_neg c, pV_ob hw (by simp), some_bind']
        exact ⟨w', g1, g2, g3, (c1.mono (by simp)).tr g4⟩
    · obtain ⟨k', rfl⟩ : ∃ k', k = k' + 1 := ⟨k - 1, by omega⟩
      rw [mI_s, if_neg (nI_pos (by omega))]
      have wr : ∀ p1 q1 x, mT L M p q = mT L M p1 q1 ++ [x] → p1 ≤ p → q1 ≤ q → p1 + q1 < p + q → ∃ w', f_X0_absorb_94 fu (f_X0_absorb_25 fu N) w h h2 (nI K) (mI p1) (mI q1) (nI k') (nI x) = some w' ∧ HA w' h e R (if K = L.length then fg else -1) ∧ HA w' h2 e2 [] (-1) ∧ Chg [h, e, h2] w w' := by
        intro p1 q1 x hm hp1 hq1 hlt
        obtain ⟨-, -, -, hpl1, -⟩ := mT_ok S S2 _ p1 q1 (Nat.le_refl _) (by omega) (by omega)
        have hk1 : (mT L M p1 q1).length = k' := by
          rw [hm] at hkl; simp at hkl; omega
        have hT1 : R.take k' = mT L M p1 q1 := by
          have : (R.take (k' + 1)).take k' = mT L M p1 q1 := by rw [hT, hm, ← hk1, List.take_left]
          rw [List.take_take, Nat.min_eq_left (by omega)] at this
          exact this
        have hx : nth R k' = x := by
          have e1 : R.take (k' + 1) = R.take k' ++ [nth R k'] := take_s (by omega)
          rw [hT, hm, hT1] at e1
          have := List.append_cancel_left e1
          simpa using this.symm
        have c1 := Chg.st (ks := [e]) w (a := e) (.inl (.int, 60, .inl (upd xs k' (nI x)))) (by simp)
        obtain ⟨w', g1, g2, g3, g4⟩ := ih p1 q1 k' (w.set e (.inl (.int, 60, .inl (upd xs k' (nI x))))) (upd xs k' (nI x)) (by omega) (by rw [get_set_ne (Ne.symm d1)]; exact hw) (get_set_eq he) (fun j hj => by rw [upd_ne _ _ (by omega)]; exact hxs j (by omega)) (fun j h1 h2 => by
          by_cases z : j = k'
          · subst z; rw [upd_eq, hx]
          · rw [upd_ne _ _ z]; exact hys j (by omega) h2) (H2.chg c1 (by simp; omega) (by simp; omega)) hT1 hk1.symm (by omega) (by omega) (by omega)
        rw [f_X0_absorb_94, gR_ob hw rfl, some_bind', sI_ar he (by omega) (by omega), some_bind', bnd_eq]
        exact ⟨w', g1, g2, g3, (c1.mono (by simp)).tr g4⟩
      have kA : ∀ p', p = p' + 1 → f_X0_keyAt w h (mI p) = some (nI (nth L p' / 2)) ∧ aI w .int e (nI p') = some (nI (nth L p')) := by
        intro p' hp'
        have hb := S.lt (show p' < L.length by omega)
        have hx := hxs p' (by omega)
        rw [hp', mI_s]
        refine ⟨?_, by rw [aI_ar he (by omega) (by omega), hx]⟩
        rw [f_X0_keyAt, if_neg (nI_pos (by omega)), gI_ob hw rfl, some_bind', if_neg (nI_ge (by omega) (by omega)), gR_ob hw rfl, some_bind', aI_ar he (by omega) (by omega), some_bind', hx, nI_half (by omega)]
      rw [cl_ob hw, H2.cl]
      rcases Nat.eq_zero_or_pos p with hp0 | hp0
      · subst hp0
        rcases Nat.eq_zero_or_pos q with hq0 | hq0
        · subst hq0
          rw [mT] at hkl
          simp at hkl
        · obtain ⟨q', rfl⟩ : ∃ q', q = q' + 1 := ⟨q - 1, by omega⟩
          have hb := S2.lt (show q' < M.length by omega)
          rw [mI_0, keyAt_m1, some_bind', mI_s, keyAt_in H2 S2 (by omega), some_bind', bnd_eq, bnd_eq, (cmp_m1 (by omega)).2, if_pos (by decide), f_X0_absorb_69, if_neg (by decide), if_neg (nI_pos (by omega)), gR_ob H2.2.1 rfl, some_bind', H2.ent l2 (by omega), some_bind', bnd_eq, bnd_eq, nI_or0]
          have := wr 0 q' (nth M q') (by rw [mT]) (by omega) (by omega) (by omega)
          rw [mI_0] at this
          exact this
      · obtain ⟨p', rfl⟩ : ∃ p', p = p' + 1 := ⟨p - 1, by omega⟩
        have hb := S.lt (show p' < L.length by omega)
        obtain ⟨k1, k2⟩ := kA p' rfl
        rw [k1, some_bind']
        rcases Nat.eq_zero_or_pos q with hq0 | hq0
        · subst hq0
          rw [mI_0, keyAt_m1, some_bind', bnd_eq, bnd_eq, (cmp_m1 (by omega)).1, if_neg (by decide), mI_s, if_neg (nI_pos (by omega)), gR_ob hw rfl, some_bind', k2, some_bind', bnd_eq, bnd_eq, f_X0_absorb_69, if_pos (by decide)]
          have := wr p' 0 (nth L p') (by rw [mT]) (by omega) (by omega) (by omega)
          rw [mI_0] at this
          exact this
        · obtain ⟨q', rfl⟩ : ∃ q', q = q' + 1 := ⟨q - 1, by omega⟩
          have hb2 := S2.lt (show q' < M.length by omega)
          rw [mI_s, mI_s, keyAt_in H2 S2 (by omega), some_bind', bnd_eq, bnd_eq]
          have hm : mT L M (p' + 1) (q' + 1) = _ := mT.eq_4 L M p' q'
          by_cases c1 : nth M q' / 2 < nth L p' / 2
          · rw [if_pos c1] at hm
            rw [cmp_gt c1 (by omega), if_neg (by decide), if_neg (nI_pos (by omega)), gR_ob hw rfl, some_bind', k2, some_bind', bnd_eq, bnd_eq, f_X0_absorb_69, if_pos (by decide)]
            have := wr p' (q' + 1) (nth L p') hm (by omega) (by omega) (by omega)
            rw [mI_s] at this
            exact this
          · rw [if_neg c1] at hm
            by_cases c2 : nth L p' / 2 = nth M q' / 2
            · rw [if_pos c2] at hm
              rw [c2, cmp_eq, if_neg (by decide), if_neg (nI_pos (by omega)), gR_ob hw rfl, some_bind', k2, some_bind', bnd_eq, bnd_eq, f_X0_absorb_69, if_neg (by decide), if_neg (nI_pos (by omega)), gR_ob H2.2.1 rfl, some_bind', H2.ent l2 (by omega), some_bind', bnd_eq, bnd_eq, nI_or hb hb2 c2]
              exact wr p' q' _ hm (by omega) (by omega) (by omega)
            · rw [if_neg c2] at hm
              rw [cmp_lt (by omega) (by omega), if_pos (by decide), f_X0_absorb_69, if_neg (by decide), if_neg (nI_pos (by omega)), gR_ob H2.2.1 rfl, some_bind', H2.ent l2 (by omega), some_bind', bnd_eq, bnd_eq, nI_or0]
              have := wr (p' + 1) q' _ hm (by omega) (by omega) (by omega)
              rw [mI_s] at this
              exact this
theorem absorb_ok {fu h e h2 e2 K : Nat} (hfu : 200 ≤ fu) {L M : List Nat} {fg fg2 : Int32} (d2 : h ≠ h2) (d3 : h ≠ e2) (d4 : e ≠ h2) (d5 : e ≠ e2) (S : SOK L) (S2 : SOK M) {w : MW} (H : HA w h e L fg) (H2 : HA w h2 e2 M fg2) (hK : K = (mT L M L.length M.length).length) (hK2 : K ≤ 60) : ∃ w', f_X0_absorb fu w h h2 (nI K) = some w' ∧ HA w' h e (mT L M L.length M.length) (if K = L.length then fg else -1) ∧ HA w' h2 e2 [] (-1) ∧ Chg [h, e, h2] w w' := by
  have l1 := S.len
  have l2 := S2.len
  obtain ⟨d1, hw, xs, he, hxs⟩ := id H
  rw [f_X0_absorb, gI_ob hw rfl, some_bind', bnd_eq, gI_ob H2.2.1 rfl, some_bind', bnd_eq, bnd_eq, mI_sub, mI_sub, show (60 : Int32) = nI 60 from rfl, imin_l hK2 (by omega), mI_sub]
  exact absorb_loop d1 d2 d3 d4 d5 S S2 hK.symm hK2 fu L.length M.length K w xs (by omega) hw he hxs (fun j h1 h2 => by omega) H2 (by rw [hK, List.take_length]) hK (Nat.le_refl _) (Nat.le_refl _) (Nat.le_refl _)
/-- MELT, of the sets -/
def xMelt (s : AS) (t o : Nat) : Int32 × AS :=
  if (s.1 o).length = 0 then (-2, s)
  else if 60 < (evs (s.1 t) (s.1 o)).length then (-4, s)
  else (nI (rsOf (s.1 t) (s.1 o)).2.1, (va_up (va_up s.1 t (mT (s.1 t) (s.1 o) (s.1 t).length (s.1 o).length)) o [], va_up (va_up s.2 t (if (evs (s.1 t) (s.1 o)).length = (s.1 t).length then s.2 t else -1)) o (-1)))
theorem evs_cNew {L M : List Nat} (S : SOK L) (S2 : SOK M) : (evs L M).length = L.length + cNew L M := by
  have h1 := (evs_len S S2).2
  have h2 := cNew_twN S S2
  omega
theorem goI_mT {s : AS} {o t : Nat} (O : ∀ q, q < 8 → SOK (s.1 q)) (ho : o < 8) (ht : t < 8) (hto : o ≠ t) (hK : (evs (s.1 t) (s.1 o)).length ≤ 60) : (goI o t 0 (s.1 o).length s).1 t = mT (s.1 t) (s.1 o) (s.1 t).length (s.1 o).length ∧ (mT (s.1 t) (s.1 o) (s.1 t).length (s.1 o).length).length = (evs (s.1 t) (s.1 o)).length ∧ SOK (mT (s.1 t) (s.1 o) (s.1 t).length (s.1 o).length) := by
  have hc := evs_cNew (O t ht) (O o ho)
  obtain ⟨g1, g2, g3, g4, g5, g6, g7⟩ := goI_melt ho ht hto (s.1 o).length s O rfl (by omega)
  obtain ⟨m1, m2, m3, m4, m5⟩ := mT_ok (O t ht) (O o ho) _ (s.1 t).length (s.1 o).length (Nat.le_refl _) (Nat.le_refl _) (Nat.le_refl _)
  have e : (goI o t 0 (s.1 o).length s).1 t = mT (s.1 t) (s.1 o) (s.1 t).length (s.1 o).length := by
    refine mk_ext (g7 t ht).1 m1 (fun k => ?_)
    rw [g2 k, m3 k, List.take_length, List.take_length]
  refine ⟨e, by rw [← e, g6, hc], ?_⟩
  rw [← e]; exact g7 t ht
theorem xMelt_do {s : AS} (O : ∀ q, q < 8 → SOK (s.1 q)) {o t : Nat} (ho : o < 8) (ht : t < 8) (hto : t ≠ o) (hx : ¬ (xMelt s t o).1 < 0) : 1 ≤ (s.1 o).length ∧ (evs (s.1 t) (s.1 o)).length ≤ 60 ∧ (xMelt s t o).1 = nI (rsOf (s.1 t) (s.1 o)).2.1 ∧ (xMelt s t o).2 = goI o t 0 (s.1 o).length s := by
  unfold xMelt at hx ⊢
  by_cases c1 : (s.1 o).length = 0
  · rw [if_pos c1] at hx; exact absurd (show (-2 : Int32) < 0 by decide) hx
  · rw [if_neg c1] at hx ⊢
    by_cases c2 : 60 < (evs (s.1 t) (s.1 o)).length
    · rw [if_pos c2] at hx; exact absurd (show (-4 : Int32) < 0 by decide) hx
    · rw [if_neg c2]
      refine ⟨by omega, by omega, rfl, ?_⟩
      have hc := evs_cNew (O t ht) (O o ho)
      obtain ⟨g1, g2, g3, g4, g5, g6, g7⟩ := goI_melt ho ht (Ne.symm hto) (s.1 o).length s O rfl (by omega)
      obtain ⟨e, -, -⟩ := goI_mT O ho ht (Ne.symm hto) (by omega)
      refine Prod.ext (funext fun q => ?_) (funext fun q => ?_)
      · by_cases q1 : q = o
        · subst q1; simp only [vu_eq]; exact g1.symm
        · by_cases q2 : q = t
          · subst q2; simp only [vu_ne _ _ q1, vu_eq]; exact e.symm
          · simp only [vu_ne _ _ q1, vu_ne _ _ q2]; exact (g3 q q1 q2).1.symm
      · by_cases q1 : q = o
        · subst q1; simp only [vu_eq]; exact (g5 (by omega)).symm
        · by_cases q2 : q = t
          · subst q2
            simp only [vu_ne _ _ q1, vu_eq]
            rw [g4]
            by_cases z : cNew (s.1 q) (s.1 o) = 0
            · rw [if_pos z, if_pos (by omega)]
            · rw [if_neg z, if_neg (by omega)]
          · simp only [vu_ne _ _ q1, vu_ne _ _ q2]; exact (g3 q q1 q2).2.symm
end
section
theorem rEnd_cost (R : RS) (n : Nat) (h : RB R n) : (rEnd R).2.1 ≤ R.2.1 + 1001 := by
  obtain ⟨h1, h2⟩ := h
  unfold rEnd
  split
  · omega
  · show R.2.1 + 1 + Nat.log2 R.2.2.2.1 ≤ _
    have := Nat.log2_le_self R.2.2.2.1
    omega
theorem rGo_cost (R : RS) (n o : Nat) (h : RB R n) : (rGo o R).2.1 ≤ R.2.1 + 1001 := by
  have := rEnd_cost R n h
  unfold rGo
  split
  · show R.2.1 ≤ _; omega
  · exact this
theorem rAll_cost : ∀ (es : List Nat) (R : RS), RB R es.length → (rAll es R).2.1 ≤ R.2.1 + (es.length + 1) * 1001
  | [], R, h => by
    have := rEnd_cost R 0 h
    show (rEnd R).2.1 ≤ _
    simp; omega
  | t :: es, R, h => by
    have h1 := rGo_cost R _ (if t ≤ 1 then 0 else 1) h
    have h2 := rAll_cost es (rGo (if t ≤ 1 then 0 else 1) R) (RB.go h _)
    show (rAll es (rGo (if t ≤ 1 then 0 else 1) R)).2.1 ≤ _
    simp only [List.length_cons] at *
    omega
theorem rs_cost {L M : List Nat} (S : SOK L) (S2 : SOK M) : (rsOf L M).2.1 < 200000 := by
  have l1 := S.len
  have l2 := S2.len
  have h := (evs_len S S2).2
  have := rAll_cost (evs L M) (0, 0, 0, 0, 0) ⟨by decide, by show 0 + _ ≤ 1000; omega⟩
  unfold rsOf
  simp only at this
  omega
section R
variable {C : MW} {F : Nat → Int32} {v : Int64} {ar : Nat → Nat → Int32} {s : AS} {V : List AS} {n : Nat} {fu : Nat}
theorem xMelt_rz (O : AOK s.1) {t o : Nat} (ht : t < 8) (ho : o < 8) (hto : t ≠ o) : RZ s (xMelt s t o) ∧ AOK (xMelt s t o).2.1 ∧ (FOK s → FOK (xMelt s t o).2) := by
  have S := O.1 t ht
  have S2 := O.1 o ho
  have hc := rs_cost S S2
  unfold xMelt
  by_cases c1 : (s.1 o).length = 0
  · rw [if_pos c1]; exact ⟨fun _ => ⟨rfl, by simp⟩, O, id⟩
  · rw [if_neg c1]
    by_cases c2 : 60 < (evs (s.1 t) (s.1 o)).length
    · rw [if_pos c2]; exact ⟨fun _ => ⟨rfl, by simp⟩, O, id⟩
    · rw [if_neg c2]
      obtain ⟨-, m2, m3⟩ := goI_mT O.1 ho ht (Ne.symm hto) (by omega)
      have hl := (evs_len S S2).2
      refine ⟨fun q => absurd q (nI_pos (by omega)), AOK_up2 O ht ho hto m3 ⟨List.Pairwise.nil, by simp, by simp⟩ (by rw [m2]; simp; omega), fun hF j hj => ?_⟩
      by_cases q1 : j = o
      · subst q1; exact Or.inl (by simp only [vu_eq])
      · by_cases q2 : j = t
        · subst q2
          simp only [vu_ne _ _ q1, vu_eq]
          by_cases z : (evs (s.1 j) (s.1 o)).length = (s.1 j).length
          · rw [if_pos z]
            rcases hF j hj with q | ⟨e, he, q⟩
            · exact Or.inl q
            · refine Or.inr ?_
              obtain ⟨-, -, k3, -, -⟩ := mT_ok S S2 _ (s.1 j).length (s.1 o).length (Nat.le_refl _) (Nat.le_refl _) (Nat.le_refl _)
              have h1 := k3 (e / 2)
              rw [List.take_length, List.take_length, (mk_some S.1).mpr ⟨he, rfl⟩] at h1
              cases h2 : mk (s.1 o) (e / 2) with
              | none =>
                rw [h2] at h1
                have h3 := (mk_some m3.1).mp h1
                exact ⟨e, h3.1, q⟩
              | some b =>
                rw [h2] at h1
                have h3 := (mk_some m3.1).mp h1
                exact ⟨_, h3.1, by rw [q, h3.2]⟩
          · rw [if_neg z]; exact Or.inl rfl
        · simp only [vu_ne _ _ q1, vu_ne _ _ q2]; exact hF j hj
theorem WC.sh {w : MW} {tw ks : Nat} {R : RS} (h : WC w tw ks R) : ∃ a b c d e, w[11]? = some (.inr (9, [.int a, .int b, .int c, .int d, .int e])) := ⟨_, _, _, _, _, h⟩
theorem Sc.wv {w w' : MW} (h : Sc w) (C : Chg [11] w w') (h2 : ∃ a b c d e, w'[11]? = some (.inr (9, [.int a, .int b, .int c, .int d, .int e]))) : Sc w' := by
  obtain ⟨z1, z2, ⟨f, z3⟩, z4, ⟨g, z5⟩⟩ := h
  exact ⟨z1.chg C (fun k hk => by simp at hk; omega), h2, ⟨f, C.at (by simp) z3⟩, C.at (by simp) z4, ⟨g, C.at (by simp) z5⟩⟩
theorem CS.wv {w : MW} {hs : Nat → List Nat} {fg : Nat → Int32} (h : CS w hs fg) : gR w 7 1 2 = some 11 := by
  obtain ⟨a, b, c, h1⟩ := h.1
  exact gR_ob h1 rfl
theorem cweave {w : MW} (h : CS w s.1 s.2) (Z : Sc w) (O : ∀ q, q < 8 → SOK (s.1 q)) (hfu : 2000 ≤ fu) {t o : Nat} (ht : t < 8) (ho : o < 8) : ∃ w', f_X9_weave fu w 11 (13 + 2 * t) (13 + 2 * o) = some w' ∧ WC w' (twN (s.1 t) (s.1 o)) (evs (s.1 t) (s.1 o)).length (rsOf (s.1 t) (s.1 o)) ∧ CS w' s.1 s.2 ∧ Sc w' ∧ Chg [11] w w' := by
  obtain ⟨w', g1, g2, g3⟩ := weave_ok hfu (by omega) (by omega) (by omega) (by omega) (O t ht) (O o ho) (h.ha ht) (h.ha ho) Z.2.1
  exact ⟨w', g1, g2, h.chg g3 (fun k hk => by simp at hk; omega), Z.wv g3 g2.sh, g3⟩
theorem whyNot_ok {w : MW} (h : CS w s.1 s.2) (O : ∀ q, q < 8 → SOK (s.1 q)) {t o : Nat} (ht : t < 8) (ho : o < 8) {R : RS} {tw : Nat} (hW : WC w tw (evs (s.1 t) (s.1 o)).length R) : f_X7_whyNotMelt w 1 (13 + 2 * o) 11 = some (if (s.1 o).length = 0 then -2 else if 60 < (evs (s.1 t) (s.1 o)).length then -4 else 0) := by
  have l1 := (O t ht).len
  have l2 := (O o ho).len
  have hl := (evs_len (O t ht) (O o ho)).2
  rw [f_X7_whyNotMelt, gI_ob (h.ha ho).2.1 rfl, some_bind']
  by_cases c1 : (s.1 o).length = 0
  · rw [if_pos ((nI_eq0 (by omega)).mpr c1), if_pos c1]
  · rw [if_neg (fun q => c1 ((nI_eq0 (by omega)).mp q)), if_neg c1, gI_ob hW rfl, some_bind', show (60 : Int32) = nI 60 from rfl]
    by_cases c2 : 60 < (evs (s.1 t) (s.1 o)).length
    · rw [if_neg (nI_ge c2 (by omega)), if_pos c2]
    · rw [if_pos (nI_le (by omega) (by omega)), if_neg c2]
theorem cmelt_ok {w : MW} (h : CS w s.1 s.2) (Z : Sc w) (O : AOK s.1) (hfu : 2000 ≤ fu) {t o : Nat} (ht : t < 8) (ho : o < 8) (hto : t ≠ o) : ∃ w', f_X7_meltTo fu w 1 (nI t) (nI o) = some ((xMelt s t o).1, w') ∧ CS w' (xMelt s t o).2.1 (xMelt s t o).2.2 ∧ Sc w' ∧ Chg (11 :: hpl) w w' := by
  obtain ⟨w1, g1, g2, g3, g4, g5⟩ := cweave h Z O.1 hfu ht ho
  have k5 : Chg (11 :: hpl) w w1 := g5.mono (by simp)
  obtain ⟨a, b, c, d, e, h11⟩ := Z.2.1
  rw [f_X7_meltTo, h.cl, heapAt_in h ht, some_bind']
  dsimp only
  rw [h.cl, heapAt_in h ho, some_bind']
  dsimp only
  rw [if_neg (set_ne ht ho hto), h.wv, some_bind', cl_ob h11, g1, some_bind', g3.wv, some_bind', g3.cl, whyNot_ok g3 O.1 ht ho g2, some_bind', bnd_eq]
  unfold xMelt
  by_cases c1 : (s.1 o).length = 0
  · rw [if_pos c1, if_neg (by decide), if_pos c1]
    exact ⟨w1, rfl, g3, g4, k5⟩
  · rw [if_neg c1, if_neg c1]
    by_cases c2 : 60 < (evs (s.1 t) (s.1 o)).length
    · rw [if_pos c2, if_neg (by decide), if_pos c2]
      exact ⟨w1, rfl, g3, g4, k5⟩
    · rw [if_neg c2, if_pos rfl, if_neg c2]
      obtain ⟨-, m2, m3⟩ := goI_mT O.1 ho ht (Ne.symm hto) (by omega)
      obtain ⟨w2, k1, k2, k3, k4⟩ := absorb_ok (show 200 ≤ fu by omega) (by omega) (by omega) (by omega) (by omega) (O.1 t ht) (O.1 o ho) (g3.ha ht) (g3.ha ho) m2.symm (by omega)
      have k4' : Chg [13 + 2 * t, 14 + 2 * t, 13 + 2 * o, 14 + 2 * o] w1 w2 := k4.mono (by simp)
      have C2 := g3.put2 ht ho hto k2 k3 k4'
      have W2 : WC w2 _ _ _ := k4.at (by simp; omega) g2
      rw [some_bind', gI_ob g2 rfl, some_bind', (g3.ha ht).cl, k1, some_bind', C2.wv, some_bind', gI_ob W2 rfl, some_bind']
      refine ⟨w2, rfl, C2, g4.hp (k4'.mono (hpl_in2 ht ho)), k5.tr ((k4'.mono (hpl_in2 ht ho)).mono (fun k hk => List.mem_cons_of_mem _ hk))⟩
theorem mrMelt {b : Nat} (B : MB C F ar b s) (hfu : 100 ≤ fu) {t o : Nat} (ht : t < 8) (ho : o < 8) (hto : t ≠ o) : f_X11_refusesMelt fu (mW C F v ar) 123 (nI t) (nI o) = some (wOf (xMelt s t o).1) := by
  have S := B.2.2.2.2 t ht
  have S2 := B.2.2.2.2 o ho
  have l1 := S.len
  have l2 := S2.len
  have hl := (evs_len S S2).2
  have hc := rs_cost S S2
  rw [f_X11_refusesMelt, B.cl, mTwo_in ht ho hto, some_bind', if_neg (by decide), B.cl, B.many ho, some_bind']
  unfold xMelt
  by_cases c1 : (s.1 o).length = 0
  · rw [if_pos ((nI_eq0 (by omega)).mpr c1), if_pos c1, wOf_2]
  · rw [if_neg (fun q => c1 ((nI_eq0 (by omega)).mp q)), if_neg c1, B.cl, B.many ht, some_bind', B.cl, some_bind', twins_ok hfu ht ho B, some_bind', nI_add, nI_sub (by omega), show (s.1 t).length + (s.1 o).length - twN (s.1 t) (s.1 o) = (evs (s.1 t) (s.1 o)).length by omega, show (60 : Int32) = nI 60 from rfl]
    by_cases c2 : 60 < (evs (s.1 t) (s.1 o)).length
    · rw [if_neg (nI_ge c2 (by omega)), if_pos c2, wOf_4]
    · rw [if_pos (nI_le (by omega) (by omega)), if_neg c2, wOf_n (by omega)]
theorem mmelt_do {b : Nat} (B : MB C F ar b s) (hfu : 100 ≤ fu) {t o : Nat} (ht : t < 8) (ho : o < 8) (hto : t ≠ o) (hx : ¬ (xMelt s t o).1 < 0) : ∃ al, f_X11_goOver fu (mW C F v ar) 123 (nI o) (nI 0) (nI 9999) (nI t) = some (nI (s.1 o).length, mW C F v (ua ar 0 al)) ∧ M8 al b (xMelt s t o).2 ∧ ∀ q, q < b ∨ b + 976 ≤ q → al q = ar 0 q := by
  have S := B.2.2.2.2 t ht
  have S2 := B.2.2.2.2 o ho
  have l2 := S2.len
  obtain ⟨h1, h2, h3, h4⟩ := xMelt_do B.2.2.2.2 ho ht hto hx
  have hc := evs_cNew S S2
  obtain ⟨al, g1, g2, g3, g4⟩ := mgo_loop (v := v) B.1 B.2.1 B.2.2.1 ho ht (Ne.symm hto) hfu 0 (s.1 o).length l2 fu 0 s ar B.2.2.2.2 B.2.2.2.1 (by omega) (by omega) (by rw [List.drop_zero, Nat.sub_zero, List.take_length]; omega) (by omega)
  rw [Nat.sub_zero] at g2
  refine ⟨al, ?_, by rw [h4]; exact g2, g4⟩
  rw [f_X11_goOver, B.cl, B.counted ho hfu, some_bind', bnd_eq, B.cl, B.below ho hfu, some_bind', bnd_eq, bnd_eq, hmb_all S2, bel_zero S2]
  exact g1
theorem melt_bad {u : MW} (hu : CS u s.1 s.2) {a c : Int32} (h : (a < 0 ∨ 8 ≤ a) ∨ (c < 0 ∨ 8 ≤ c) ∨ a = c) : f_X7_meltTo fu u 1 a c = some (-1, u) := by
  rw [f_X7_meltTo, hu.cl]
  rcases set_cases a with ⟨i, hi, rfl⟩ | ha
  · rw [heapAt_in hu hi, some_bind']
    dsimp only
    rw [hu.cl]
    rcases set_cases c with ⟨j, hj, rfl⟩ | hc
    · rw [heapAt_in hu hj, some_bind']
      dsimp only
      rw [if_pos]
      rcases h with h | h | h
      · exact absurd ⟨(in_set hi).1, (in_set hi).2, trivial⟩ (out_not (P := True) h)
      · exact absurd ⟨(in_set hj).1, (in_set hj).2, trivial⟩ (out_not (P := True) h)
      · exact h
    · rw [heapAt_out hc, some_bind']
  · rw [heapAt_out ha, some_bind']
    dsimp only
    rw [hu.cl]
    rcases set_cases c with ⟨j, hj, rfl⟩ | hc
    · rw [heapAt_in hu hj, some_bind']
    · rw [heapAt_out hc, some_bind']
theorem melt_res (G : Good C F v ar s V n) (hfu : 20000 ≤ fu) (a c : Int32) : ∃ s' V', Res C F ar s' V' (f_X10_melt fu (mW C F v ar) 0 a c) (fun w => f_X11_melt fu w 123 a c) := by
  have e1 : f_X10_melt fu (mW C F v ar) 0 a c = actOf (fun w p => f_X7_meltTo fu w p a c) fu (mW C F v ar) := rfl
  have e2 : (fun w => f_X11_melt fu w 123 a c) = mactOf (fun w => f_X11_refusesMelt fu w 123 a c) (fun w => (cl w 11 123 (f_X11_laysRuns fu w 123 a c)).bind fun q8 => (gI q8 11 123 17).bind fun x11 => bnd x11 fun x12 => (cl q8 11 123 (f_X11_goOver fu q8 123 c (0 : Int32) (9999 : Int32) a)).bind fun q13 => bnd q13.1 fun x16 => if x16 ≤ 0 then some ((0 : Int32), q13.2) else some (x12, q13.2)) fu := rfl
  rw [e1, e2]
  have B := G.1.mb
  have O := G.1.2.2.2.1
  have hfu2 : 2000 ≤ fu := by omega
  have hfu3 : 100 ≤ fu := by omega
  rcases two_cases a c with ⟨t, o, ht, ho, hto, rfl, rfl⟩ | hac
  · obtain ⟨z1, z2, z3⟩ := xMelt_rz O ht ho hto
    have l2 := (O.1 o ho).len
    refine ⟨_, _, act_res G hfu z2 z3 (ks := 11 :: hpl) (fun k hk => ?_) (fun u hu hz => cmelt_ok hu hz O hfu2 ht ho hto) z1 (fun C' hC' => ?_) (fun hx C' F' al hC' hF hM => ?_)⟩
    · rcases List.mem_cons.mp hk with rfl | hk
      · omega
      · exact hpl_31 k hk
    · exact mrMelt (B.F hC' rfl B.2.2.2.1 O.1) hfu3 ht ho hto
    · have B1 : MB C' F' (ua ar 0 al) 0 s := B.F hC' (hF 9 (by omega)) (by rw [ua_eq]; exact hM) O.1
      obtain ⟨F1, g1, g2, g3⟩ := lays_ok (v := v) hfu2 ht ho B1
      have B2 : MB C' F1 (ua ar 0 al) 0 s := B1.F hC' (g3 9 (by omega)) B1.2.2.2.1 O.1
      obtain ⟨al2, k1, k2, k3⟩ := mmelt_do (v := v) B2 hfu3 ht ho hto hx
      obtain ⟨h1, h2, h3, h4⟩ := xMelt_do O.1 ho ht hto hx
      refine ⟨F1, v, ua (ua ar 0 al) 0 al2, ?_, by rw [ua_eq]; exact k2, fun q hq => by rw [ua_eq, k3 q (by omega), ua_eq], fun k hk => g3 k (by omega), fun k h1 h2 => by rw [ua_ne _ _ (by omega), ua_ne _ _ (by omega)]⟩
      rw [B1.cl, g1, some_bind', m_gI hC' F1 v _ 17 rfl, some_bind', bnd_eq, B2.cl, show (9999 : Int32) = nI 9999 from rfl, show (0 : Int32) = nI 0 from rfl, k1, some_bind', bnd_eq, if_neg (nI_ge (by show 0 < _; omega) (by omega)), g2.2.1, h3]
  · refine ⟨_, _, act_bad G hfu (fun u hu => melt_bad hu hac) (fun C' hC' => ?_)⟩
    rw [f_X11_refusesMelt, m_cl hC', mTwo_out hac, some_bind', if_pos rfl]
end R
end
section
/-! TREES: ancestors by priorities -/
def anc (P : Nat → Nat) (y x : Nat) : Prop := ∀ z, (x ≤ z ∧ z ≤ y) ∨ (y ≤ z ∧ z ≤ x) → P z ≤ P y
def ancB (P : Nat → Nat) (y x : Nat) : Bool := (List.range (x + y + 1)).all (fun z => !((decide (x ≤ z) && decide (z ≤ y)) || (decide (y ≤ z) && decide (z ≤ x))) || decide (P z ≤ P y))
theorem ancB_iff {P : Nat → Nat} {y x : Nat} : ancB P y x = true ↔ anc P y x := by
  unfold ancB anc
  rw [List.all_eq_true]
  constructor
  · intro h z hz
    have := h z (List.mem_range.mpr (by omega))
    simp only [Bool.or_eq_true, Bool.not_eq_true', decide_eq_true_eq, Bool.or_eq_false_iff, Bool.and_eq_false_iff, decide_eq_false_iff_not] at this
    omega
  · intro h z hz
    simp only [Bool.or_eq_true, Bool.not_eq_true', decide_eq_true_eq, Bool.or_eq_false_iff, Bool.and_eq_false_iff, decide_eq_false_iff_not]
    by_cases c : (x ≤ z ∧ z ≤ y) ∨ (y ≤ z ∧ z ≤ x)
    · exact Or.inr (h z c)
    · left; omega
section T
variable {P : Nat → Nat}
theorem anc_refl (x : Nat) : anc P x x := fun z hz => by rw [show z = x by omega]; exact Nat.le_refl _
theorem anc_le {y x : Nat} (h : anc P y x) : P x ≤ P y := h x (by omega)
theorem anc_tr {z y x : Nat} (h : anc P z y) (g : anc P y x) : anc P z x := by
  intro w hw
  by_cases c : (y ≤ w ∧ w ≤ z) ∨ (z ≤ w ∧ w ≤ y)
  · exact h w c
  · exact Nat.le_trans (g w (by omega)) (anc_le h)
theorem anc_lin {a b x : Nat} (h : anc P a x) (g : anc P b x) (hp : P b ≤ P a) : anc P a b := by
  intro z hz
  by_cases c : (x ≤ z ∧ z ≤ a) ∨ (a ≤ z ∧ z ≤ x)
  · exact h z c
  · exact Nat.le_trans (g z (by omega)) hp
theorem anc_sub {a x y : Nat} (h : anc P a x) (hy : (a ≤ y ∧ y ≤ x) ∨ (x ≤ y ∧ y ≤ a)) : anc P a y := fun z hz => h z (by omega)
def IsPar (P : Nat → Nat) (m x y : Nat) : Prop := y < m ∧ y ≠ x ∧ anc P y x ∧ ∀ z, z < m → z ≠ x → anc P z x → anc P z y
def NoPar (P : Nat → Nat) (m x : Nat) : Prop := ∀ z, z < m → z ≠ x → ¬ anc P z x
def ParV (P : Nat → Nat) (m x : Nat) (v : Int32) : Prop := (v = -1 ∧ NoPar P m x) ∨ ∃ y, v = nI y ∧ IsPar P m x y
def LV (P : Nat → Nat) (x : Nat) (v : Int32) : Prop := (v = -1 ∧ ∀ z, z < x → ¬ anc P x z) ∨ ∃ y, v = nI y ∧ y < x ∧ anc P x y ∧ ∀ z, z < x → anc P x z → P z ≤ P y
def RV (P : Nat → Nat) (m x : Nat) (v : Int32) : Prop := (v = -1 ∧ ∀ z, x < z → z < m → ¬ anc P x z) ∨ ∃ y, v = nI y ∧ x < y ∧ y < m ∧ anc P x y ∧ ∀ z, x < z → z < m → anc P x z → P z ≤ P y
/-- one node more: lo .. m-1 are its own -/
def Lo (P : Nat → Nat) (m lo : Nat) : Prop := lo ≤ m ∧ (∀ z, lo ≤ z → z < m → P z < P m) ∧ (0 < lo → P m < P (lo - 1))
theorem Lo.an_i {m lo : Nat} (h : Lo P m lo) {x : Nat} (hx : x < m) : anc P m x ↔ lo ≤ x := by
  obtain ⟨h1, h2, h3⟩ := h
  constructor
  · intro g
    rcases Nat.lt_or_ge x lo with c | c
    · have := g (lo - 1) (by omega)
      have := h3 (by omega)
      omega
    · exact c
  · intro c z hz
    rcases Nat.lt_or_ge z m with q | q
    · exact Nat.le_of_lt (h2 z (by omega) q)
    · rw [show z = m by omega]; exact Nat.le_refl _
theorem Lo.up {m lo : Nat} (h : Lo P m lo) {x : Nat} (hx : x < m) (g : anc P x m) : x < lo := by
  rcases Nat.lt_or_ge x lo with c | c
  · exact c
  · have := h.2.1 x c hx
    have := anc_le g
    omega
theorem Lo.top {m lo : Nat} (h : Lo P m lo) (h0 : 0 < lo) : anc P (lo - 1) m := by
  intro z hz
  have h3 := h.2.2 h0
  by_cases c : z = lo - 1
  · rw [c]; exact Nat.le_refl _
  · rcases Nat.lt_or_ge z m with q | q
    · have := h.2.1 z (by omega) q; omega
    · rw [show z = m by have := h.1; omega]; omega
theorem par_m {m lo : Nat} (h : Lo P m lo) : ParV P (m + 1) m (if lo = 0 then -1 else nI (lo - 1)) := by
  have h1 := h.1
  by_cases c : lo = 0
  · rw [if_pos c]
    exact Or.inl ⟨rfl, fun z hz hzm g => by have := h.up (show z < m by omega) g; omega⟩
  · rw [if_neg c]
    refine Or.inr ⟨lo - 1, rfl, by omega, by omega, h.top (by omega), fun z hz hzm g => ?_⟩
    have := h.up (show z < m by omega) g
    exact anc_sub g (by omega)
theorem par_x {m lo b x : Nat} {v : Int32} (h : Lo P m lo) (hb : lo < m → lo ≤ b ∧ b < m ∧ ∀ z, lo ≤ z → z < m → P z ≤ P b) (hx : x < m) (hxb : lo < m → x ≠ b) (g : ParV P m x v) : ParV P (m + 1) x v := by
  have hbx : lo ≤ x → anc P b x := fun c z hz => (hb (by omega)).2.2 z (by have := hb (by omega); omega) (by have := hb (by omega); omega)
  rcases g with ⟨g1, g2⟩ | ⟨y, g1, g2, g3, g4, g5⟩
  · refine Or.inl ⟨g1, fun z hz hzx a => ?_⟩
    rcases Nat.lt_or_ge z m with q | q
    · exact g2 z q hzx a
    · rw [show z = m by omega] at a
      have c := (h.an_i hx).mp a
      have hb' := hb (by omega)
      exact g2 b hb'.2.1 (Ne.symm (hxb (by omega))) (hbx c)
  · refine Or.inr ⟨y, g1, by omega, g3, g4, fun z hz hzx a => ?_⟩
    rcases Nat.lt_or_ge z m with q | q
    · exact g5 z q hzx a
    · rw [show z = m by omega] at a ⊢
      have c := (h.an_i hx).mp a
      have hb' := hb (by omega)
      have a2 := g5 b hb'.2.1 (Ne.symm (hxb (by omega))) (hbx c)
      refine (h.an_i g2).mpr ?_
      rcases Nat.lt_or_ge y lo with z1 | z1
      · have e1 := g4 (lo - 1) (by omega)
        have e2 := h.2.2 (by omega)
        have e3 := anc_le a2
        have e4 := h.2.1 b hb'.1 hb'.2.1
        omega
      · exact z1
theorem par_b {m lo b : Nat} (hinj : ∀ i j, i ≤ m → j ≤ m → P i = P j → i = j) (h : Lo P m lo) (hb : lo ≤ b ∧ b < m ∧ ∀ z, lo ≤ z → z < m → P z ≤ P b) : IsPar P (m + 1) b m := by
  refine ⟨by omega, by omega, (h.an_i hb.2.1).mpr hb.1, fun z hz hzb a => ?_⟩
  rcases Nat.lt_or_ge z m with q | q
  · rcases Nat.lt_or_ge z lo with c | c
    · intro w hw
      rcases Nat.lt_or_ge b w with c2 | c2
      · have e1 := a (lo - 1) (by omega)
        have e2 := h.2.2 (by omega)
        rcases Nat.lt_or_ge w m with c3 | c3
        · have := h.2.1 w (by omega) c3; omega
        · rw [show w = m by omega]; omega
      · exact a w (by omega)
    · have e1 := hb.2.2 z c q
      have e2 := anc_le a
      exact absurd (hinj z b (by omega) (by omega) (by omega)) hzb
  · rw [show z = m by omega]; exact anc_refl m
theorem left_m {m lo b : Nat} (h : Lo P m lo) (hb : lo < m → lo ≤ b ∧ b < m ∧ ∀ z, lo ≤ z → z < m → P z ≤ P b) : LV P m (if lo < m then nI b else -1) := by
  by_cases c : lo < m
  · rw [if_pos c]
    obtain ⟨h1, h2, h3⟩ := hb c
    exact Or.inr ⟨b, rfl, h2, (h.an_i h2).mpr h1, fun z hz a => h3 z ((h.an_i hz).mp a) hz⟩
  · rw [if_neg c]
    exact Or.inl ⟨rfl, fun z hz a => by have := (h.an_i hz).mp a; omega⟩
theorem right_m (m : Nat) : RV P (m + 1) m (-1) := Or.inl ⟨rfl, fun z h1 h2 => by omega⟩
theorem right_t {m lo : Nat} (h : Lo P m lo) (h0 : 0 < lo) : RV P (m + 1) (lo - 1) (nI m) := by
  have h1 := h.1
  refine Or.inr ⟨m, rfl, by omega, by omega, h.top h0, fun z h2 h3 _ => ?_⟩
  rcases Nat.lt_or_ge z m with q | q
  · exact Nat.le_of_lt (h.2.1 z (by omega) q)
  · rw [show z = m by omega]; exact Nat.le_refl _
theorem right_x {m lo x : Nat} {v : Int32} (h : Lo P m lo) (hx : x < m) (hxt : 0 < lo → x ≠ lo - 1) (g : RV P m x v) : RV P (m + 1) x v := by
  have key : anc P x m → x < lo - 1 ∧ anc P x (lo - 1) ∧ P m < P (lo - 1) := fun a => by
    have c := h.up hx a
    have := hxt (by omega)
    have := h.1
    exact ⟨by omega, anc_sub a (by omega), h.2.2 (by omega)⟩
  rcases g with ⟨g1, g2⟩ | ⟨y, g1, g2, g3, g4, g5⟩
  · refine Or.inl ⟨g1, fun z h1 h2 a => ?_⟩
    rcases Nat.lt_or_ge z m with q | q
    · exact g2 z h1 q a
    · rw [show z = m by omega] at a
      obtain ⟨k1, k2, k3⟩ := key a
      exact g2 (lo - 1) k1 (by have := h.1; omega) k2
  · refine Or.inr ⟨y, g1, g2, by omega, g4, fun z h1 h2 a => ?_⟩
    rcases Nat.lt_or_ge z m with q | q
    · exact g5 z h1 q a
    · rw [show z = m by omega] at a ⊢
      obtain ⟨k1, k2, k3⟩ := key a
      have := g5 (lo - 1) k1 (by have := h.1; omega) k2
      omega
/-- the right edge, its end first -/
def Stk (P : Nat → Nat) (m : Nat) (T : List Nat) : Prop := T.Pairwise (fun a b => b < a) ∧ (∀ y ∈ T, y < m ∧ ∀ z, y < z → z < m → P z < P y) ∧ ∀ z, z < m → ∃ y ∈ T, z ≤ y ∧ P z ≤ P y
/-- those of the edge that m is ahead of leave -/
def popT (P : Nat → Nat) (m : Nat) : List Nat → Int32 → List Nat × Int32
  | [], b => ([], b)
  | t :: T, b => if P t < P m then popT P m T (nI t) else (t :: T, b)
theorem popT_ok (P : Nat → Nat) (m : Nat) : ∀ (T : List Nat) (b : Int32), ∃ pre, T = pre ++ (popT P m T b).1 ∧ (∀ y ∈ pre, P y < P m) ∧ (∀ t T', (popT P m T b).1 = t :: T' → ¬ P t < P m) ∧ ((pre = [] ∧ (popT P m T b).2 = b) ∨ ∃ pre' y, pre = pre' ++ [y] ∧ (popT P m T b).2 = nI y)
  | [], b => ⟨[], rfl, by simp, by simp [popT], Or.inl ⟨rfl, rfl⟩⟩
  | t :: T, b => by
    unfold popT
    by_cases c : P t < P m
    · rw [if_pos c]
      obtain ⟨pre, h1, h2, h3, h4⟩ := popT_ok P m T (nI t)
      refine ⟨t :: pre, by rw [List.cons_append, ← h1], fun y hy => ?_, h3, Or.inr ?_⟩
      · rcases List.mem_cons.mp hy with rfl | hy
        · exact c
        · exact h2 y hy
      · rcases h4 with ⟨q1, q2⟩ | ⟨pre', y, q1, q2⟩
        · exact ⟨[], t, by rw [q1]; rfl, q2⟩
        · exact ⟨t :: pre', y, by rw [q1]; rfl, q2⟩
    · rw [if_neg c]
      exact ⟨[], rfl, by simp, fun t' T' h => by simp at h; rw [← h.1]; exact c, Or.inl ⟨rfl, rfl⟩⟩
/-- what the edge says of the next node -/
theorem stk_step {m : Nat} {T : List Nat} (hinj : ∀ i j, i ≤ m → j ≤ m → P i = P j → i = j) (S : Stk P m T) : ∃ lo b, Lo P m lo ∧ (lo < m → lo ≤ b ∧ b < m ∧ ∀ z, lo ≤ z → z < m → P z ≤ P b) ∧ (popT P m T (-1)).2 = (if lo < m then nI b else -1) ∧ Stk P (m + 1) (m :: (popT P m T (-1)).1) ∧ (((popT P m T (-1)).1 = [] ∧ lo = 0) ∨ ∃ T', (popT P m T (-1)).1 = (lo - 1) :: T' ∧ 0 < lo) := by
  obtain ⟨s1, s2, s3⟩ := S
  obtain ⟨pre, h1, h2, h3, h4⟩ := popT_ok P m T (-1)
  generalize popT P m T (-1) = q at h1 h3 h4 ⊢
  obtain ⟨T', b'⟩ := q
  simp only at h1 h3 h4 ⊢
  rw [h1] at s1 s2 s3
  obtain ⟨p1, p2, p3⟩ := List.pairwise_append.mp s1
  -- lo
  obtain ⟨lo, hlo⟩ : ∃ lo, (T' = [] ∧ lo = 0) ∨ ∃ T'', T' = (lo - 1) :: T'' ∧ 0 < lo := by
    cases T' with
    | nil => exact ⟨0, Or.inl ⟨rfl, rfl⟩⟩
    | cons t T'' => exact ⟨t + 1, Or.inr ⟨T'', rfl, by omega⟩⟩
  have htop : ∀ y ∈ T', y < lo := by
    intro y hy
    rcases hlo with ⟨e, _⟩ | ⟨T'', e, h0⟩
    · rw [e] at hy; simp at hy
    · rw [e] at hy p2
      rcases List.mem_cons.mp hy with rfl | hy
      · omega
      · have := (List.pairwise_cons.mp p2).1 y hy; omega
  have hcov : ∀ z, lo ≤ z → z < m → ∃ y ∈ pre, z ≤ y ∧ P z ≤ P y := by
    intro z hz1 hz2
    obtain ⟨y, hy, hy2, hy3⟩ := s3 z hz2
    rcases List.mem_append.mp hy with hy | hy
    · exact ⟨y, hy, hy2, hy3⟩
    · have := htop y hy; omega
  have hLo : Lo P m lo := by
    refine ⟨?_, fun z hz1 hz2 => ?_, fun h0 => ?_⟩
    · rcases hlo with ⟨e, h0⟩ | ⟨T'', e, h0⟩
      · omega
      · have := (s2 (lo - 1) (by rw [e]; simp)).1; omega
    · obtain ⟨y, hy, hy2, hy3⟩ := hcov z hz1 hz2
      have := h2 y hy; omega
    · rcases hlo with ⟨e, h0'⟩ | ⟨T'', e, h0⟩
      · omega
      · have e1 := h3 _ _ e
        have e2 := (s2 (lo - 1) (by rw [e]; simp)).1
        have e3 : P (lo - 1) ≠ P m := fun q => by have := hinj _ _ (by omega) (Nat.le_refl _) q; omega
        omega
  have hST : Stk P (m + 1) (m :: T') := by
    refine ⟨List.pairwise_cons.mpr ⟨fun y hy => (s2 y (List.mem_append_right _ hy)).1, p2⟩, fun y hy => ?_, fun z hz => ?_⟩
    · rcases List.mem_cons.mp hy with rfl | hy
      · exact ⟨by omega, fun z h1 h2 => by omega⟩
      · obtain ⟨e1, e2⟩ := s2 y (List.mem_append_right _ hy)
        refine ⟨by omega, fun z h1 h2 => ?_⟩
        rcases Nat.lt_or_ge z m with c | c
        · exact e2 z h1 c
        · rw [show z = m by omega]
          have c1 := htop y hy
          have c2 := hLo.2.2 (by omega)
          by_cases c3 : y = lo - 1
          · rw [c3]; exact c2
          · have := e2 (lo - 1) (by omega) (by have := hLo.1; omega)
            omega
    · rcases Nat.lt_or_ge z m with c | c
      · obtain ⟨y, hy, hy2, hy3⟩ := s3 z c
        rcases List.mem_append.mp hy with hy | hy
        · exact ⟨m, List.mem_cons_self, by omega, by have := h2 y hy; omega⟩
        · exact ⟨y, List.mem_cons_of_mem _ hy, hy2, hy3⟩
      · exact ⟨m, List.mem_cons_self, by omega, by rw [show z = m by omega]; exact Nat.le_refl _⟩
  rcases h4 with ⟨q1, q2⟩ | ⟨pre', y, q1, q2⟩
  · have hm : ¬ lo < m := by
      intro c
      obtain ⟨y, hy, _⟩ := hcov (m - 1) (by omega) (by omega)
      rw [q1] at hy; simp at hy
    exact ⟨lo, 0, hLo, fun c => absurd c hm, by rw [if_neg hm]; exact q2, hST, hlo⟩
  · have hy : y ∈ pre := by rw [q1]; simp
    obtain ⟨e1, e2⟩ := s2 y (List.mem_append_left _ hy)
    have hylo : lo ≤ y := by
      rcases hlo with ⟨e, h0⟩ | ⟨T'', e, h0⟩
      · omega
      · have := p3 y hy (lo - 1) (by rw [e]; simp); omega
    refine ⟨lo, y, hLo, fun _ => ⟨hylo, e1, fun z hz1 hz2 => ?_⟩, by rw [if_pos (by omega)]; exact q2, hST, hlo⟩
    obtain ⟨u, hu, hu2, hu3⟩ := hcov z hz1 hz2
    rw [q1] at hu p1
    rcases List.mem_append.mp hu with hu | hu
    · have c1 := (List.pairwise_append.mp p1).2.2 u hu y (by simp)
      have c2 := e2 u c1 (s2 u (by rw [q1]; exact List.mem_append_left _ (List.mem_append_left _ hu))).1
      omega
    · rw [List.mem_singleton.mp hu] at hu3; exact hu3
end T
end
section
/-! the class's tree: LINK -/
abbrev tKs : List Nat := [3, 4, 5, 6, 7, 8, 9, 10]
def TW (w : MW) (ar : Nat → Nat → Int32) (sz rt : Int32) : Prop := w[3]? = some (.inr (8, [.ref 4, .ref 5, .ref 6, .ref 7, .ref 8, .ref 9, .ref 10, .int sz, .int rt])) ∧ ∀ k, k < 7 → w[4 + k]? = some (.inl (.int, 61, .inl (ar k)))
section TWs
variable {w : MW} {ar : Nat → Nat → Int32} {sz rt : Int32}
theorem TW.sh (h : TW w ar sz rt) : TSh w := ⟨⟨sz, rt, h.1⟩, fun k hk => ⟨ar k, h.2 k hk⟩⟩
theorem TW.cl {α : Type} (h : TW w ar sz rt) (x : Option α) : cl w 8 3 x = x := cl_ob h.1 x
theorem TW.siz (h : TW w ar sz rt) : gI w 8 3 7 = some sz := gI_ob h.1 rfl
theorem TW.roo (h : TW w ar sz rt) : gI w 8 3 8 = some rt := gI_ob h.1 rfl
theorem TW.chg {ks : List Nat} {w' : MW} (h : TW w ar sz rt) (C : Chg ks w w') (hk : ∀ k, k ∈ ks → k < 3 ∨ 10 < k) : TW w' ar sz rt := ⟨C.at (fun q => by have := hk _ q; omega) h.1, fun k hk' => C.at (fun q => by have := hk _ q; omega) (h.2 k hk')⟩
theorem TW.p7 (h : TW w ar sz rt) (x : Int32) : ∃ w', pV w 8 3 7 (.int x) = some w' ∧ TW w' ar x rt ∧ Chg tKs w w' := ⟨_, pV_ob h.1 (by simp), ⟨get_set_eq h.1, fun k hk => by rw [get_set_ne (by omega)]; exact h.2 k hk⟩, Chg.st _ _ (by simp)⟩
theorem TW.p8 (h : TW w ar sz rt) (x : Int32) : ∃ w', pV w 8 3 8 (.int x) = some w' ∧ TW w' ar sz x ∧ Chg tKs w w' := ⟨_, pV_ob h.1 (by simp), ⟨get_set_eq h.1, fun k hk => by rw [get_set_ne (by omega)]; exact h.2 k hk⟩, Chg.st _ _ (by simp)⟩
theorem TW.sk (h : TW w ar sz rt) {k j : Nat} (hk : k < 7) (hj : j < 61) (x : Int32) : ∃ w', sI w .int (4 + k) (nI j) x = some w' ∧ TW w' (ua ar k (upd (ar k) j x)) sz rt ∧ Chg tKs w w' := by
  refine ⟨_, sI_ar (h.2 k hk) hj (by omega), ⟨by rw [get_set_ne (by omega)]; exact h.1, fun i hi => ?_⟩, Chg.st _ _ (by simp; omega)⟩
  by_cases c : i = k
  · subst c; rw [get_set_eq (h.2 i hi), ua_eq]
  · rw [get_set_ne (by omega), ua_ne _ _ c]; exact h.2 i hi
theorem TW.r0 (h : TW w ar sz rt) : gR w 8 3 0 = some 4 := gR_ob h.1 rfl
theorem TW.a0 (h : TW w ar sz rt) {j : Nat} (hj : j < 61) : aI w .int 4 (nI j) = some (ar 0 j) := aI_ar (h.2 0 (by omega)) hj (by omega)
theorem TW.s0 (h : TW w ar sz rt) {j : Nat} (hj : j < 61) (x : Int32) : ∃ w', sI w .int 4 (nI j) x = some w' ∧ TW w' (ua ar 0 (upd (ar 0) j x)) sz rt ∧ Chg tKs w w' := h.sk (k := 0) (by omega) hj x
theorem TW.r1 (h : TW w ar sz rt) : gR w 8 3 1 = some 5 := gR_ob h.1 rfl
theorem TW.a1 (h : TW w ar sz rt) {j : Nat} (hj : j < 61) : aI w .int 5 (nI j) = some (ar 1 j) := aI_ar (h.2 1 (by omega)) hj (by omega)
theorem TW.s1 (h : TW w ar sz rt) {j : Nat} (hj : j < 61) (x : Int32) : ∃ w', sI w .int 5 (nI j) x = some w' ∧ TW w' (ua ar 1 (upd (ar 1) j x)) sz rt ∧ Chg tKs w w' := h.sk (k := 1) (by omega) hj x
theorem TW.r2 (h : TW w ar sz rt) : gR w 8 3 2 = some 6 := gR_ob h.1 rfl
theorem TW.a2 (h : TW w ar sz rt) {j : Nat} (hj : j < 61) : aI w .int 6 (nI j) = some (ar 2 j) := aI_ar (h.2 2 (by omega)) hj (by omega)
theorem TW.s2 (h : TW w ar sz rt) {j : Nat} (hj : j < 61) (x : Int32) : ∃ w', sI w .int 6 (nI j) x = some w' ∧ TW w' (ua ar 2 (upd (ar 2) j x)) sz rt ∧ Chg tKs w w' := h.sk (k := 2) (by omega) hj x
theorem TW.r3 (h : TW w ar sz rt) : gR w 8 3 3 = some 7 := gR_ob h.1 rfl
theorem TW.a3 (h : TW w ar sz rt) {j : Nat} (hj : j < 61) : aI w .int 7 (nI j) = some (ar 3 j) := aI_ar (h.2 3 (by omega)) hj (by omega)
theorem TW.s3 (h : TW w ar sz rt) {j : Nat} (hj : j < 61) (x : Int32) : ∃ w', sI w .int 7 (nI j) x = some w' ∧ TW w' (ua ar 3 (upd (ar 3) j x)) sz rt ∧ Chg tKs w w' := h.sk (k := 3) (by omega) hj x
theorem TW.r4 (h : TW w ar sz rt) : gR w 8 3 4 = some 8 := gR_ob h.1 rfl
theorem TW.a4 (h : TW w ar sz rt) {j : Nat} (hj : j < 61) : aI w .int 8 (nI j) = some (ar 4 j) := aI_ar (h.2 4 (by omega)) hj (by omega)
theorem TW.s4 (h : TW w ar sz rt) {j : Nat} (hj : j < 61) (x : Int32) : ∃ w', sI w .int 8 (nI j) x = some w' ∧ TW w' (ua ar 4 (upd (ar 4) j x)) sz rt ∧ Chg tKs w w' := h.sk (k := 4) (by omega) hj x
theorem TW.r5 (h : TW w ar sz rt) : gR w 8 3 5 = some 9 := gR_ob h.1 rfl
theorem TW.a5 (h : TW w ar sz rt) {j : Nat} (hj : j < 61) : aI w .int 9 (nI j) = some (ar 5 j) := aI_ar (h.2 5 (by omega)) hj (by omega)
theorem TW.s5 (h : TW w ar sz rt) {j : Nat} (hj : j < 61) (x : Int32) : ∃ w', sI w .int 9 (nI j) x = some w' ∧ TW w' (ua ar 5 (upd (ar 5) j x)) sz rt ∧ Chg tKs w w' := h.sk (k := 5) (by omega) hj x
theorem TW.r6 (h : TW w ar sz rt) : gR w 8 3 6 = some 10 := gR_ob h.1 rfl
theorem TW.a6 (h : TW w ar sz rt) {j : Nat} (hj : j < 61) : aI w .int 10 (nI j) = some (ar 6 j) := aI_ar (h.2 6 (by omega)) hj (by omega)
theorem TW.s6 (h : TW w ar sz rt) {j : Nat} (hj : j < 61) (x : Int32) : ∃ w', sI w .int 10 (nI j) x = some w' ∧ TW w' (ua ar 6 (upd (ar 6) j x)) sz rt ∧ Chg tKs w w' := h.sk (k := 6) (by omega) hj x
end TWs
def prN (k : Nat) : Nat := (k * 40503 + 9973) % 65536
theorem prN_inj {a b : Nat} (ha : a < 10000) (hb : b < 10000) (h : prN a = prN b) : a = b := by
  unfold prN at h; omega
theorem prN_lt (k : Nat) : prN k < 65536 := Nat.mod_lt _ (by omega)
theorem nI_and16 {n : Nat} (h : n < 2 ^ 31) : nI n &&& (65535 : Int32) = nI (n % 65536) := by
  apply Int32.toBitVec_inj.mp
  apply BitVec.eq_of_toNat_eq
  show (BitVec.ofNat 32 n &&& 65535#32).toNat = (BitVec.ofNat 32 (n % 65536)).toNat
  rw [BitVec.toNat_and, BitVec.toNat_ofNat, BitVec.toNat_ofNat, BitVec.toNat_ofNat, Nat.mod_eq_of_lt (show n < 2 ^ 32 by omega), Nat.mod_eq_of_lt (show 65535 < 2 ^ 32 by omega), Nat.mod_eq_of_lt (show n % 65536 < 2 ^ 32 by omega)]
  exact Nat.and_two_pow_sub_one_eq_mod n 16
theorem cpri {k : Nat} (hk : k < 10000) : f_X10_priority (nI k) = nI (prN k) := by
  rw [f_X10_priority, show (40503 : Int32) = nI 40503 from rfl, nI_mul, show (9973 : Int32) = nI 9973 from rfl, nI_add, nI_and16 (by omega)]
  rfl
theorem mpri {k : Nat} (hk : k < 10000) : f_X11_priority (nI k) = nI (prN k) := by
  rw [f_X11_priority, show (40503 : Int32) = nI 40503 from rfl, nI_mul, show (9973 : Int32) = nI 9973 from rfl, nI_add, show (65536 : Int32) = nI 65536 from rfl, pk_rem (by omega) (by omega) (by omega)]
  rfl
/-- a row of keys -/
def KO (K : List Nat) : Prop := K.Pairwise (fun a b => a < b) ∧ (∀ k ∈ K, k < 10000) ∧ K.length ≤ 61
def pF (K : List Nat) (j : Nat) : Nat := prN (nth K j)
theorem KO.lt {K : List Nat} (h : KO K) {j : Nat} (hj : j < K.length) : nth K j < 10000 := h.2.1 _ (nth_mem hj)
theorem KO.inj {K : List Nat} (h : KO K) {i j : Nat} (hi : i < K.length) (hj : j < K.length) (e : pF K i = pF K j) : i = j := by
  have e1 := prN_inj (h.lt hi) (h.lt hj) e
  rw [nth_get hi, nth_get hj] at e1
  rcases Nat.lt_trichotomy i j with q | q | q
  · have := List.pairwise_iff_getElem.mp h.1 i j hi hj q; omega
  · exact q
  · have := List.pairwise_iff_getElem.mp h.1 j i hj hi q; omega
/-- the keys' cells hold the row -/
def KH (ar : Nat → Nat → Int32) (K : List Nat) : Prop := ∀ j, j < K.length → ar 0 j = nI (nth K j)
/-- the edge's cells -/
def EdH (ar : Nat → Nat → Int32) (T : List Nat) : Prop := ∀ i, i < T.length → ar 6 (T.length - 1 - i) = nI (nth T i)
theorem dec_len : ∀ (T : List Nat) (m : Nat), T.Pairwise (fun a b => b < a) → (∀ y ∈ T, y < m) → T.length ≤ m
  | [], m, _, _ => by simp
  | t :: T, m, h, g => by
    obtain ⟨h1, h2⟩ := List.pairwise_cons.mp h
    have := dec_len T t h2 h1
    have := g t List.mem_cons_self
    simp; omega
theorem pop_loop {fu : Nat} {lr : MW → Nat → Int32 → Int32 → Option MW} {w : MW} {ar : Nat → Nat → Int32} {sz rt : Int32} (h : TW w ar sz rt) {K : List Nat} (O : KO K) (hK : KH ar K) {m : Nat} (hm : m < K.length) : ∀ (T : List Nat) (N : Nat) (b : Int32), EdH ar T → T.length ≤ 61 → (∀ y ∈ T, y < m) → T.length < N → f_X8_link_14 fu lr N w 3 (nI T.length) (nI m) b = f_X8_link_59 fu lr w 3 (nI (popT (pF K) m T b).1.length) (nI m) (popT (pF K) m T b).2
  | [], 0, _, _, _, _, hN => by simp at hN
  | [], N + 1, b, _, _, _, _ => by
    rw [f_X8_link_14, if_pos (show nI ([] : List Nat).length ≤ 0 by decide)]
    rfl
  | t :: T, 0, _, _, _, _, hN => by simp at hN
  | t :: T, N + 1, b, hE, hl, hT, hN => by
    have h61 := O.2.2
    have ht := hT t List.mem_cons_self
    have e0 := hE 0 (by simp)
    simp only [List.length_cons, Nat.add_sub_cancel, Nat.sub_zero] at e0
    rw [nth_0] at e0
    have hE2 : EdH ar T := fun i hi => by
      have := hE (i + 1) (by simp; omega)
      rw [nth_s] at this
      simp only [List.length_cons] at this
      rw [show T.length - 1 - i = T.length + 1 - 1 - (i + 1) by omega]
      exact this
    have hlen : (t :: T).length = T.length + 1 := rfl
    rw [hlen] at hl hN ⊢
    rw [f_X8_link_14, if_neg (nI_nle (by omega) (by omega)), h.r0, some_bind', h.r6, some_bind', show (1 : Int32) = nI 1 from rfl, nI_sub (by omega), Nat.add_sub_cancel, h.a6 (by omega), some_bind', e0, h.a0 (by omega), some_bind', hK t (by omega), some_bind', h.a0 (by omega), some_bind', hK m hm, cpri (O.lt (show t < K.length by omega)), cpri (O.lt hm)]
    have b1 := prN_lt (nth K t)
    have b2 := prN_lt (nth K m)
    unfold popT
    by_cases c : pF K t < pF K m
    · rw [if_pos c, if_neg (nI_ge (show prN (nth K t) < prN (nth K m) from c) (by omega)), bnd_eq, nI_m1' (by omega), Nat.add_sub_cancel, some_bind', h.a6 (by omega), some_bind', bnd_eq, e0]
      exact pop_loop h O hK hm T N (nI t) hE2 (by omega) (fun y hy => hT y (List.mem_cons_of_mem _ hy)) (by omega)
    · rw [if_neg c, if_pos (nI_le (show prN (nth K m) ≤ prN (nth K t) from Nat.not_lt.mp c) (by omega))]
      rfl
/-- what link has done for the nodes below m -/
def LI (P : Nat → Nat) (m : Nat) (ar : Nat → Nat → Int32) (T : List Nat) : Prop := (∀ x, x < m → ParV P m x (ar 1 x) ∧ LV P x (ar 2 x) ∧ RV P m x (ar 3 x)) ∧ Stk P m T ∧ EdH ar T
theorem link_step {fu : Nat} {lr : MW → Nat → Int32 → Int32 → Option MW} {w : MW} {ar : Nat → Nat → Int32} {sz rt : Int32} (h : TW w ar sz rt) {K : List Nat} (O : KO K) (hK : KH ar K) {m : Nat} (hm : m < K.length) {T : List Nat} (hL : LI (pF K) m ar T) (hfu : 100 ≤ fu) : ∃ w' ar' T', f_X8_link_14 fu lr fu w 3 (nI T.length) (nI m) (-1) = lr w' 3 (nI T'.length) (nI (m + 1)) ∧ TW w' ar' sz rt ∧ KH ar' K ∧ LI (pF K) (m + 1) ar' T' ∧ Chg tKs w w' := by
  have h61 := O.2.2
  obtain ⟨l1, l2, l3⟩ := hL
  have hTm : ∀ y ∈ T, y < m := fun y hy => (l2.2.1 y hy).1
  have hTl := dec_len T m l2.1 hTm
  have hinj : ∀ i j, i ≤ m → j ≤ m → pF K i = pF K j → i = j := fun i j hi hj e => O.inj (by omega) (by omega) e
  rw [pop_loop h O hK hm T fu (-1) l3 (by omega) hTm (by omega)]
  obtain ⟨lo, b, k1, k2, k3, k4, k5⟩ := stk_step hinj l2
  obtain ⟨pre, p1, -, -, -⟩ := popT_ok (pF K) m T (-1)
  have hE' : EdH ar (popT (pF K) m T (-1)).1 := by
    intro i hi
    have e1 : T.length = pre.length + (popT (pF K) m T (-1)).1.length := by
      conv => lhs; rw [p1]
      rw [List.length_append]
    have := l3 (pre.length + i) (by omega)
    rw [show (popT (pF K) m T (-1)).1.length - 1 - i = T.length - 1 - (pre.length + i) by omega, this]
    congr 1
    unfold nth
    rw [List.getD_eq_getElem?_getD]
    conv => lhs; rw [p1]
    rw [List.getElem?_append_right (by omega), List.getD_eq_getElem?_getD, Nat.add_sub_cancel_left]
  have hT'l : (popT (pF K) m T (-1)).1.length ≤ m := by
    have e1 : T.length = pre.length + (popT (pF K) m T (-1)).1.length := by
      conv => lhs; rw [p1]
      rw [List.length_append]
    omega
  generalize popT (pF K) m T (-1) = q at k3 k4 k5 hE' hT'l ⊢
  obtain ⟨T', b'⟩ := q
  simp only at k3 k4 k5 hE' hT'l ⊢
  subst k3
  have k1' := k1.1
  -- the writes
  obtain ⟨w1, g1, t1, c1⟩ := h.s2 (j := m) (by omega) (if lo < m then nI b else -1)
  obtain ⟨w2, g2, t2, c2⟩ := t1.s3 (j := m) (by omega) (-1)
  have hif : (if nI T'.length ≤ 0 then f_X8_link_94 fu lr w2 3 (nI T'.length) (nI m) (if lo < m then nI b else -1) 5 (nI m) (-1) else (gR w2 8 3 6).bind fun x25 => (aI w2 .int x25 (nI T'.length - 1)).bind fun x26 => f_X8_link_94 fu lr w2 3 (nI T'.length) (nI m) (if lo < m then nI b else -1) 5 (nI m) x26) = f_X8_link_94 fu lr w2 3 (nI T'.length) (nI m) (if lo < m then nI b else -1) 5 (nI m) (if lo = 0 then -1 else nI (lo - 1)) := by
    rcases k5 with ⟨e, e0⟩ | ⟨T'', e, e0⟩
    · rw [e, if_pos (by decide), if_pos e0]
    · have e2 := hE' 0 (by rw [e]; simp)
      rw [e, nth_0] at e2
      simp only [List.length_cons, Nat.add_sub_cancel, Nat.sub_zero] at e2
      have e3 : T'.length = T''.length + 1 := by rw [e]; rfl
      rw [e3, if_neg (nI_nle (by omega) (by omega)), t2.r6, some_bind', show (1 : Int32) = nI 1 from rfl, nI_sub (by omega), Nat.add_sub_cancel, t2.a6 (by omega), some_bind', if_neg (show ¬ lo = 0 by omega)]
      rw [ua_ne _ _ (by omega), ua_ne _ _ (by omega), e2]
  obtain ⟨w3, g3, t3, c3⟩ := t2.s1 (j := m) (by omega) (if lo = 0 then -1 else nI (lo - 1))
  obtain ⟨w4, a4, g4, t4, c4, o4⟩ : ∃ w4 a4, f_X8_link_94 fu lr w2 3 (nI T'.length) (nI m) (if lo < m then nI b else -1) 5 (nI m) (if lo = 0 then -1 else nI (lo - 1)) = f_X8_link_107 fu lr w4 3 (nI T'.length) (nI m) ∧ TW w4 a4 sz rt ∧ Chg tKs w2 w4 ∧ (∀ k, k ≠ 1 → a4 k = ua (ua ar 2 (upd (ar 2) m (if lo < m then nI b else -1))) 3 (upd (ua ar 2 (upd (ar 2) m (if lo < m then nI b else -1)) 3) m (-1)) k) ∧ a4 1 = (if lo < m then upd (upd (ar 1) m (if lo = 0 then -1 else nI (lo - 1))) b (nI m) else upd (ar 1) m (if lo = 0 then -1 else nI (lo - 1))) := by
    rw [f_X8_link_94, g3, some_bind']
    by_cases c : lo < m
    · obtain ⟨b1, b2, b3⟩ := k2 c
      obtain ⟨w4, g4, t4, c4⟩ := t3.s1 (j := b) (by omega) (nI m)
      rw [if_pos c, if_neg (m1_ne b (by omega)), t3.r1, some_bind', g4, some_bind']
      refine ⟨w4, _, rfl, t4, c3.tr c4, fun k hk => ?_, ?_⟩
      · rw [ua_ne _ _ hk, ua_ne _ _ hk, if_pos c]
      · rw [ua_eq, ua_eq, ua_ne _ _ (by omega), ua_ne _ _ (by omega), if_pos c]
    · rw [if_neg c, if_pos rfl]
      refine ⟨w3, _, rfl, t3, c3, fun k hk => ?_, ?_⟩
      · rw [ua_ne _ _ hk, if_neg c]
      · rw [ua_eq, ua_ne _ _ (by omega), ua_ne _ _ (by omega), if_neg c]
  obtain ⟨o40, o41⟩ := o4
  have a40 : a4 0 = ar 0 := by rw [o40 0 (by omega), ua_ne _ _ (by omega), ua_ne _ _ (by omega)]
  have a42 : a4 2 = upd (ar 2) m (if lo < m then nI b else -1) := by rw [o40 2 (by omega), ua_ne _ _ (by omega), ua_eq]
  have a43 : a4 3 = upd (ar 3) m (-1) := by rw [o40 3 (by omega), ua_eq, ua_ne _ _ (by omega)]
  have a46 : a4 6 = ar 6 := by rw [o40 6 (by omega), ua_ne _ _ (by omega), ua_ne _ _ (by omega)]
  obtain ⟨w5, a5, g5, t5, c5, o5, o53⟩ : ∃ w5 a5, f_X8_link_107 fu lr w4 3 (nI T'.length) (nI m) = f_X8_link_125 fu lr w5 3 (nI T'.length) (nI m) ∧ TW w5 a5 sz rt ∧ Chg tKs w4 w5 ∧ (∀ k, k ≠ 3 → a5 k = a4 k) ∧ a5 3 = (if 0 < lo then upd (a4 3) (lo - 1) (nI m) else a4 3) := by
    rw [f_X8_link_107]
    rcases k5 with ⟨e, e0⟩ | ⟨T'', e, e0⟩
    · rw [e, if_pos (by decide)]
      exact ⟨w4, a4, rfl, t4, Chg.rf _ _, fun _ _ => rfl, by rw [if_neg (by omega)]⟩
    · have e2 := hE' 0 (by rw [e]; simp)
      rw [e, nth_0] at e2
      simp only [List.length_cons, Nat.add_sub_cancel, Nat.sub_zero] at e2
      have e3 : T'.length = T''.length + 1 := by rw [e]; rfl
      obtain ⟨w5, g5, t5, c5⟩ := t4.s3 (j := lo - 1) (by omega) (nI m)
      rw [e3, if_neg (nI_nle (by omega) (by omega)), t4.r3, some_bind', t4.r6, some_bind', show (1 : Int32) = nI 1 from rfl, nI_sub (by omega), Nat.add_sub_cancel, t4.a6 (by omega), some_bind', a46, e2, g5, some_bind']
      exact ⟨w5, _, rfl, t5, c5, fun k hk => ua_ne _ _ hk, by rw [ua_eq, if_pos e0]⟩
  obtain ⟨w6, g6, t6, c6⟩ := t5.s6 (j := T'.length) (by omega) (nI m)
  refine ⟨w6, _, m :: T', ?_, t6, fun j hj => ?_, ⟨fun x hx => ?_, k4, fun i hi => ?_⟩, (((c1.tr c2).tr c4).tr c5).tr c6⟩
  · rw [f_X8_link_59, h.r2, some_bind', g1, some_bind', t1.r3, some_bind', g2, some_bind', t2.r1, some_bind', hif, g4, g5, f_X8_link_125, t5.r6, some_bind', g6, some_bind', bnd_eq, bnd_eq, nI_1, nI_1]
    rfl
  · rw [ua_ne _ _ (by omega), o5 0 (by omega), a40]; exact hK j hj
  · rw [ua_ne _ _ (by omega), ua_ne _ _ (by omega), ua_ne _ _ (by omega), o5 1 (by omega), o5 2 (by omega), o53, o41, a42, a43]
    refine ⟨?_, ?_, ?_⟩
    · by_cases cx : x = m
      · subst cx
        have : (if lo < x then upd (upd (ar 1) x (if lo = 0 then -1 else nI (lo - 1))) b (nI x) else upd (ar 1) x (if lo = 0 then -1 else nI (lo - 1))) x = (if lo = 0 then -1 else nI (lo - 1)) := by
          split
          · rename_i c
            have := k2 c
            rw [upd_ne _ _ (by omega), upd_eq]
          · rw [upd_eq]
        rw [this]
        exact par_m k1
      · by_cases c : lo < m
        · rw [if_pos c]
          by_cases cb : x = b
          · subst cb
            rw [upd_eq]
            exact Or.inr ⟨m, rfl, par_b hinj k1 (k2 c)⟩
          · rw [upd_ne _ _ cb, upd_ne _ _ cx]
            exact par_x k1 k2 (by omega) (fun _ => cb) (l1 x (by omega)).1
        · rw [if_neg c, upd_ne _ _ cx]
          exact par_x k1 k2 (by omega) (fun q => absurd q c) (l1 x (by omega)).1
    · by_cases cx : x = m
      · subst cx
        rw [upd_eq]
        exact left_m k1 k2
      · rw [upd_ne _ _ cx]
        exact (l1 x (by omega)).2.1
    · by_cases c0 : 0 < lo
      · rw [if_pos c0]
        by_cases cx : x = lo - 1
        · subst cx
          rw [upd_eq]
          exact right_t k1 c0
        · rw [upd_ne _ _ cx]
          by_cases cm : x = m
          · subst cm; rw [upd_eq]; exact right_m x
          · rw [upd_ne _ _ cm]
            exact right_x k1 (by omega) (fun _ => cx) (l1 x (by omega)).2.2
      · rw [if_neg c0]
        by_cases cm : x = m
        · subst cm; rw [upd_eq]; exact right_m x
        · rw [upd_ne _ _ cm]
          exact right_x k1 (by omega) (fun q => absurd q c0) (l1 x (by omega)).2.2
  · rw [ua_eq, o5 6 (by omega), a46]
    simp only [List.length_cons] at hi
    cases i with
    | zero =>
      rw [nth_0, show (m :: T').length - 1 - 0 = T'.length by simp, upd_eq]
    | succ i =>
      rw [nth_s, show (m :: T').length - 1 - (i + 1) = T'.length - 1 - i by simp; omega, upd_ne _ _ (by omega)]
      exact hE' i (by omega)
theorem link_loop {fu : Nat} (hfu : 100 ≤ fu) {K : List Nat} (O : KO K) {rt : Int32} : ∀ N m w ar T, TW w ar (nI K.length) rt → KH ar K → LI (pF K) m ar T → m ≤ K.length → K.length - m < N → ∃ w' ar' rt', f_X8_link_4 fu N w 3 (nI T.length) (nI m) = some w' ∧ TW w' ar' (nI K.length) rt' ∧ KH ar' K ∧ (∀ x, x < K.length → ParV (pF K) K.length x (ar' 1 x) ∧ LV (pF K) x (ar' 2 x) ∧ RV (pF K) K.length x (ar' 3 x)) ∧ ((K.length = 0 ∧ rt' = -1) ∨ ∃ r, r < K.length ∧ rt' = nI r ∧ ∀ z, z < K.length → pF K z ≤ pF K r) ∧ Chg tKs w w' := by
  have h61 := O.2.2
  intro N
  induction N with
  | zero => intro m w ar T _ _ _ _ hN; omega
  | succ N ih =>
    intro m w ar T h hK hL hm hN
    rw [f_X8_link_4, h.siz, some_bind']
    by_cases c : K.length ≤ m
    · have em : m = K.length := by omega
      subst em
      rw [if_pos (nI_le c (by omega)), some_bind']
      obtain ⟨l1, l2, l3⟩ := hL
      rcases Nat.eq_zero_or_pos K.length with q | q
      · obtain ⟨w', g1, g2, g3⟩ := h.p8 (-1)
        rw [q, if_pos (by decide), f_X8_link_159, g1, some_bind']
        rw [q] at g2 l1
        exact ⟨w', ar, -1, rfl, g2, hK, l1, Or.inl ⟨rfl, rfl⟩, g3⟩
      · -- the first of the edge is the greatest
        obtain ⟨y0, hy0, -, -⟩ := l2.2.2 0 q
        have hne : T ≠ [] := fun e => by rw [e] at hy0; simp at hy0
        obtain ⟨T', r, hT⟩ : ∃ T' r, T = T' ++ [r] := ⟨T.dropLast, T.getLast hne, (List.dropLast_concat_getLast hne).symm⟩
        have hr : r ∈ T := by rw [hT]; simp
        obtain ⟨r1, r2⟩ := l2.2.1 r hr
        have e6 := l3 (T.length - 1) (by rw [hT]; simp)
        rw [Nat.sub_self] at e6
        have enr : nth T (T.length - 1) = r := by
          rw [hT]; unfold nth; simp
        rw [enr] at e6
        obtain ⟨w', g1, g2, g3⟩ := h.p8 (nI r)
        rw [if_neg (nI_nle q (by omega)), h.r6, some_bind', show (0 : Int32) = nI 0 from rfl, h.a6 (by omega), some_bind', e6, f_X8_link_159, g1, some_bind']
        refine ⟨w', ar, nI r, rfl, g2, hK, l1, Or.inr ⟨r, r1, rfl, fun z hz => ?_⟩, g3⟩
        obtain ⟨y, hy, hy2, hy3⟩ := l2.2.2 z hz
        rw [hT] at hy
        have p1 := l2.1
        rw [hT] at p1
        rcases List.mem_append.mp hy with hy' | hy'
        · have c1 := (List.pairwise_append.mp p1).2.2 y hy' r (by simp)
          have c2 := r2 y c1 (l2.2.1 y (by rw [hT]; exact hy)).1
          omega
        · rw [List.mem_singleton.mp hy'] at hy3; exact hy3
    · rw [if_neg (nI_ge (by omega) (by omega)), bnd_eq]
      obtain ⟨w1, ar1, T1, g1, g2, g3, g4, g5⟩ := link_step (fu := fu) (lr := f_X8_link_4 fu N) h O hK (show m < K.length by omega) hL hfu
      obtain ⟨w2, ar2, rt2, k1, k2, k3, k4, k5, k6⟩ := ih (m + 1) w1 ar1 T1 g2 g3 g4 (by omega) (by omega)
      rw [g1, k1]
      exact ⟨w2, ar2, rt2, rfl, k2, k3, k4, k5, g5.tr k6⟩
theorem link_ok {fu : Nat} (hfu : 100 ≤ fu) {K : List Nat} (O : KO K) {w : MW} {ar : Nat → Nat → Int32} {rt : Int32} (h : TW w ar (nI K.length) rt) (hK : KH ar K) : ∃ w' ar' rt', f_X8_link fu w 3 = some w' ∧ TW w' ar' (nI K.length) rt' ∧ KH ar' K ∧ (∀ x, x < K.length → ParV (pF K) K.length x (ar' 1 x) ∧ LV (pF K) x (ar' 2 x) ∧ RV (pF K) K.length x (ar' 3 x)) ∧ ((K.length = 0 ∧ rt' = -1) ∨ ∃ r, r < K.length ∧ rt' = nI r ∧ ∀ z, z < K.length → pF K z ≤ pF K r) ∧ Chg tKs w w' := by
  rw [f_X8_link, bnd_eq, bnd_eq]
  exact link_loop hfu O fu 0 w ar [] h hK ⟨fun x hx => by omega, ⟨List.Pairwise.nil, fun y hy => by simp at hy, fun z hz => by omega⟩, fun i hi => by simp at hi⟩ (by omega) (by have := O.2.2; omega)
end
section
/-! depths, and how many are below -/
def dep (P : Nat → Nat) (n x : Nat) : Nat := (List.range n).countP (fun y => decide (y ≠ x) && ancB P y x)
def und (P : Nat → Nat) (m y : Nat) : Nat := (List.range m).countP (fun x => decide (x ≠ y) && ancB P y x)
theorem countP_or {p q r : Nat → Bool} (h : ∀ z, p z = (q z || r z)) (hd : ∀ z, ¬ (q z = true ∧ r z = true)) : ∀ (l : List Nat), l.countP p = l.countP q + l.countP r
  | [] => rfl
  | a :: l => by
    rw [List.countP_cons, List.countP_cons, List.countP_cons, countP_or h hd l, h a]
    have := hd a
    cases h1 : q a <;> cases h2 : r a <;> simp [h1, h2] at this ⊢ <;> omega
theorem countP_or' {p q r : Nat → Bool} : ∀ (l : List Nat), (∀ z ∈ l, p z = (q z || r z)) → (∀ z ∈ l, ¬ (q z = true ∧ r z = true)) → l.countP p = l.countP q + l.countP r
  | [], _, _ => rfl
  | a :: l, h, hd => by
    rw [List.countP_cons, List.countP_cons, List.countP_cons, countP_or' l (fun z hz => h z (List.mem_cons_of_mem _ hz)) (fun z hz => hd z (List.mem_cons_of_mem _ hz)), h a List.mem_cons_self]
    have := hd a List.mem_cons_self
    cases h1 : q a <;> cases h2 : r a <;> simp [h1, h2] at this ⊢ <;> omega
theorem count_one {n y : Nat} (h : y < n) : (List.range n).countP (fun z => decide (z = y)) = 1 := by
  induction n with
  | zero => omega
  | succ n ih =>
    rw [List.range_succ, List.countP_append]
    by_cases c : y = n
    · subst c
      have : (List.range y).countP (fun z => decide (z = y)) = 0 := by
        rw [List.countP_eq_zero]
        intro z hz
        have := List.mem_range.mp hz
        simp; omega
      rw [this]; simp
    · rw [ih (by omega)]
      have : ¬ n = y := fun q => c q.symm
      simp [this]
section T
variable {P : Nat → Nat}
theorem dep_no {n x : Nat} (h : NoPar P n x) : dep P n x = 0 := by
  unfold dep
  rw [List.countP_eq_zero]
  intro z hz
  have hz' := List.mem_range.mp hz
  rw [Bool.and_eq_true, decide_eq_true_eq, ancB_iff]
  rintro ⟨h1, h2⟩
  exact h z hz' h1 h2
theorem par_anc {n x y : Nat} (hinj : ∀ i j, i < n → j < n → P i = P j → i = j) (hx : x < n) (h : IsPar P n x y) (z : Nat) (hz : z < n) : (z ≠ x ∧ anc P z x) ↔ (z = y ∨ (z ≠ y ∧ anc P z y)) := by
  obtain ⟨h1, h2, h3, h4⟩ := h
  constructor
  · rintro ⟨a, b⟩
    by_cases c : z = y
    · exact Or.inl c
    · exact Or.inr ⟨c, h4 z hz a b⟩
  · rintro (rfl | ⟨a, b⟩)
    · exact ⟨h2, h3⟩
    · refine ⟨fun q => ?_, anc_tr b h3⟩
      subst q
      have e1 := anc_le b
      have e2 := anc_le h3
      exact a (hinj z y hz h1 (by omega))
theorem dep_par {n x y : Nat} (hinj : ∀ i j, i < n → j < n → P i = P j → i = j) (hx : x < n) (h : IsPar P n x y) : dep P n x = dep P n y + 1 := by
  unfold dep
  rw [countP_or' (q := fun z => decide (z = y)) (r := fun z => decide (z ≠ y) && ancB P z y) (List.range n) (fun z hz => ?_) (fun z _ => ?_), count_one h.1, Nat.add_comm]
  · have := par_anc hinj hx h z (List.mem_range.mp hz)
    rw [Bool.eq_iff_iff, Bool.and_eq_true, Bool.or_eq_true, Bool.and_eq_true, decide_eq_true_eq, decide_eq_true_eq, decide_eq_true_eq, ancB_iff, ancB_iff]
    exact this
  · rw [Bool.and_eq_true, decide_eq_true_eq, decide_eq_true_eq]
    rintro ⟨a, b, _⟩
    exact b a
theorem dep_lt {n x : Nat} (hx : x < n) : dep P n x < n := by
  have h1 : dep P n x ≤ (List.range n).length := List.countP_le_length
  rw [List.length_range] at h1
  rcases Nat.lt_or_ge (dep P n x) n with c | c
  · exact c
  · have e : (List.range n).countP (fun y => decide (y ≠ x) && ancB P y x) = (List.range n).length := by
      rw [List.length_range]; unfold dep at h1 c; omega
    have := List.countP_eq_length.mp e x (List.mem_range.mpr hx)
    simp at this
theorem und_1 {m y : Nat} (c : m ≠ y ∧ anc P y m) : und P (m + 1) y = und P m y + 1 := by
  unfold und
  rw [List.range_succ, List.countP_append, List.countP_singleton, if_pos]
  rw [Bool.and_eq_true, decide_eq_true_eq, ancB_iff]; exact c
theorem und_0 {m y : Nat} (c : ¬ (m ≠ y ∧ anc P y m)) : und P (m + 1) y = und P m y := by
  unfold und
  rw [List.range_succ, List.countP_append, List.countP_singleton, if_neg]
  · rfl
  · rw [Bool.and_eq_true, decide_eq_true_eq, ancB_iff]; exact c
theorem und_le (m y : Nat) : und P m y ≤ m := by
  have : und P m y ≤ (List.range m).length := List.countP_le_length
  rw [List.length_range] at this
  exact this
end T
def ind (P : Nat → Nat) (z u : Nat) : Nat := if ancB P z u = true then 1 else 0
/-- a walk up: the node's depth, and one more below each on the way -/
theorem walk {fu : Nat} {lr : MW → Nat → Int32 → Option MW} {n : Nat} (hn : n ≤ 61) {P : Nat → Nat} (hinj : ∀ i j, i < n → j < n → P i = P j → i = j) {rt : Int32} {x : Nat} (hx : x < n) : ∀ N u st w ar (d : Nat) (g : Nat → Nat), TW w ar (nI n) rt → (∀ x, x < n → ParV P n x (ar 1 x)) → u < n → ar 4 x = nI d → (∀ z, z < n → ar 5 z = nI (g z)) → st + dep P n u + 1 ≤ n → dep P n u + 1 < N → ∃ w' ar', f_X8_climb_49 fu lr N w 3 (nI x) (nI u) (nI st) = f_X8_climb_95 fu lr w' 3 (nI x) ∧ TW w' ar' (nI n) rt ∧ (∀ k, k ≠ 4 → k ≠ 5 → ar' k = ar k) ∧ ar' 4 = upd (ar 4) x (nI (d + dep P n u + 1)) ∧ (∀ z, z < n → ar' 5 z = nI (g z + ind P z u)) ∧ Chg tKs w w' := by
  intro N
  induction N with
  | zero => intro u st w ar d g _ _ _ _ _ _ hN; omega
  | succ N ih =>
    intro u st w ar d g h hP hu h4 h5 hst hN
    obtain ⟨w1, g1, t1, c1⟩ := h.s4 (j := x) (by omega) (nI (d + 1))
    obtain ⟨w2, g2, t2, c2⟩ := t1.s5 (j := u) (by omega) (nI (g u + 1))
    have a1 : ∀ k, k ≠ 4 → k ≠ 5 → ua (ua ar 4 (upd (ar 4) x (nI (d + 1)))) 5 (upd (ua ar 4 (upd (ar 4) x (nI (d + 1))) 5) u (nI (g u + 1))) k = ar k := fun k k4 k5 => by rw [ua_ne _ _ k5, ua_ne _ _ k4]
    have a4 : ua (ua ar 4 (upd (ar 4) x (nI (d + 1)))) 5 (upd (ua ar 4 (upd (ar 4) x (nI (d + 1))) 5) u (nI (g u + 1))) 4 = upd (ar 4) x (nI (d + 1)) := by rw [ua_ne _ _ (by omega), ua_eq]
    have a5 : ∀ z, z < n → ua (ua ar 4 (upd (ar 4) x (nI (d + 1)))) 5 (upd (ua ar 4 (upd (ar 4) x (nI (d + 1))) 5) u (nI (g u + 1))) 5 z = nI (g z + if z = u then 1 else 0) := fun z hz => by
      rw [ua_eq, ua_ne _ _ (by omega)]
      by_cases q : z = u
      · subst q; rw [upd_eq, if_pos rfl]
      · rw [upd_ne _ _ q, if_neg q]; exact h5 z hz
    have hpre : f_X8_climb_49 fu lr (N + 1) w 3 (nI x) (nI u) (nI st) = f_X8_climb_49 fu lr N w2 3 (nI x) (ar 1 u) (nI (st + 1)) := by
      rw [f_X8_climb_49, h.siz, some_bind', if_neg (nI_ge (by omega) (by omega)), if_neg (m1_ne u (by omega)), h.r4, some_bind', h.a4 (by omega), some_bind', h4, nI_1, g1, some_bind', t1.r5, some_bind', t1.a5 (by omega), some_bind', ua_ne _ _ (by omega), h5 u hu, nI_1, g2, some_bind', t2.r1, some_bind', t2.a1 (by omega), some_bind', bnd_eq, bnd_eq, nI_1, a1 1 (by omega) (by omega)]
    rw [hpre]
    rcases hP u hu with ⟨e1, e2⟩ | ⟨y, e1, e2⟩
    · have hd := dep_no e2
      have hN0 : 0 < N := by omega
      obtain ⟨N', rfl⟩ : ∃ N', N = N' + 1 := ⟨N - 1, by omega⟩
      have hstop : f_X8_climb_49 fu lr (N' + 1) w2 3 (nI x) (ar 1 u) (nI (st + 1)) = f_X8_climb_95 fu lr w2 3 (nI x) := by
        rw [f_X8_climb_49, t2.siz, some_bind', e1]
        by_cases q : nI n ≤ nI (st + 1)
        · rw [if_pos q]
        · rw [if_neg q, if_pos rfl]
      rw [hstop, hd]
      refine ⟨w2, _, rfl, t2, a1, a4, fun z hz => ?_, c1.tr c2⟩
      rw [a5 z hz]
      congr 2
      unfold ind
      by_cases q : z = u
      · subst q; rw [if_pos rfl, if_pos (ancB_iff.mpr (anc_refl z))]
      · rw [if_neg q, if_neg (fun c => e2 z hz q (ancB_iff.mp c))]
    · have hd := dep_par hinj hu e2
      obtain ⟨w3, ar3, k1, k2, k3, k4, k5, k6⟩ := ih y (st + 1) w2 _ (d + 1) (fun z => g z + if z = u then 1 else 0) t2 (fun x hx => by rw [a1 1 (by omega) (by omega)]; exact hP x hx) e2.1 (by rw [a4, upd_eq]) a5 (by omega) (by omega)
      rw [e1, k1]
      refine ⟨w3, ar3, rfl, k2, fun k q4 q5 => by rw [k3 k q4 q5, a1 k q4 q5], ?_, fun z hz => ?_, (c1.tr c2).tr k6⟩
      · rw [k4, a4]
        funext z
        by_cases q : z = x
        · subst q; rw [upd_eq, upd_eq]; congr 1; omega
        · rw [upd_ne _ _ q, upd_ne _ _ q, upd_ne _ _ q]
      · rw [k5 z hz, Nat.add_assoc]
        congr 2
        unfold ind
        have hpa := par_anc hinj hu e2 z hz
        by_cases q : z = u
        · subst q
          rw [if_pos rfl, if_pos (ancB_iff.mpr (anc_refl z)), if_neg]
          intro c
          have c1 := anc_le (ancB_iff.mp c)
          have c2 := anc_le e2.2.2.1
          exact e2.2.1 (hinj y z e2.1 hz (by omega))
        · rw [if_neg q, Nat.zero_add]
          by_cases c : ancB P z u = true
          · rw [if_pos c, if_pos]
            rw [ancB_iff] at c ⊢
            rcases hpa.mp ⟨q, c⟩ with rfl | ⟨_, r⟩
            · exact anc_refl z
            · exact r
          · rw [if_neg c, if_neg]
            rw [ancB_iff] at c ⊢
            intro r
            exact c (anc_tr r e2.2.2.1)
theorem climb_loop {fu n : Nat} (hfu : 100 ≤ fu) (hn : n ≤ 61) {P : Nat → Nat} (hinj : ∀ i j, i < n → j < n → P i = P j → i = j) {rt : Int32} : ∀ N x w ar, TW w ar (nI n) rt → (∀ x, x < n → ParV P n x (ar 1 x)) → (∀ j, j < n → ar 4 j = if j < x then nI (dep P n j) else 0) → (∀ z, z < n → ar 5 z = nI (und P x z)) → x ≤ n → n - x < N → ∃ w' ar', f_X8_climb_32 fu N w 3 (nI x) = some w' ∧ TW w' ar' (nI n) rt ∧ (∀ k, k ≠ 4 → k ≠ 5 → ar' k = ar k) ∧ (∀ j, j < n → ar' 4 j = nI (dep P n j)) ∧ (∀ z, z < n → ar' 5 z = nI (und P n z)) ∧ Chg tKs w w' := by
  intro N
  induction N with
  | zero => intro x w ar _ _ _ _ _ hN; omega
  | succ N ih =>
    intro x w ar h hP h4 h5 hx hN
    rw [f_X8_climb_32, h.siz, some_bind']
    by_cases c : n ≤ x
    · have e : x = n := by omega
      subst e
      rw [if_pos (nI_le c (by omega))]
      exact ⟨w, ar, rfl, h, fun _ _ _ => rfl, fun j hj => by rw [h4 j hj, if_pos hj], h5, Chg.rf _ _⟩
    · have hxn : x < n := by omega
      have h4x := h4 x hxn
      rw [if_neg (by omega)] at h4x
      rw [if_neg (nI_ge hxn (by omega)), h.r1, some_bind', h.a1 (by omega), some_bind', bnd_eq, bnd_eq]
      have fin : ∀ w1 ar1, TW w1 ar1 (nI n) rt → (∀ k, k ≠ 4 → k ≠ 5 → ar1 k = ar k) → ar1 4 = upd (ar 4) x (nI (dep P n x)) → (∀ z, z < n → ar1 5 z = nI (und P (x + 1) z)) → Chg tKs w w1 → ∃ w' ar', f_X8_climb_95 fu (f_X8_climb_32 fu N) w1 3 (nI x) = some w' ∧ TW w' ar' (nI n) rt ∧ (∀ k, k ≠ 4 → k ≠ 5 → ar' k = ar k) ∧ (∀ j, j < n → ar' 4 j = nI (dep P n j)) ∧ (∀ z, z < n → ar' 5 z = nI (und P n z)) ∧ Chg tKs w w' := by
        intro w1 ar1 t1 o1 o4 o5 c1
        obtain ⟨w2, ar2, k1, k2, k3, k4, k5, k6⟩ := ih (x + 1) w1 ar1 t1 (fun y hy => by rw [o1 1 (by omega) (by omega)]; exact hP y hy) (fun j hj => by
          rw [o4]
          by_cases q : j = x
          · subst q; rw [upd_eq, if_pos (by omega)]
          · rw [upd_ne _ _ q, h4 j hj]
            by_cases q2 : j < x
            · rw [if_pos q2, if_pos (by omega)]
            · rw [if_neg q2, if_neg (by omega)]) o5 (by omega) (by omega)
        rw [f_X8_climb_95, bnd_eq, nI_1, k1]
        exact ⟨w2, ar2, rfl, k2, fun k q4 q5 => by rw [k3 k q4 q5, o1 k q4 q5], k4, k5, c1.tr k6⟩
      rcases hP x hxn with ⟨e1, e2⟩ | ⟨u, e1, e2⟩
      · have hstop : f_X8_climb_49 fu (f_X8_climb_32 fu N) fu w 3 (nI x) (ar 1 x) 0 = f_X8_climb_95 fu (f_X8_climb_32 fu N) w 3 (nI x) := by
          obtain ⟨fu', rfl⟩ : ∃ f', fu = f' + 1 := ⟨fu - 1, by omega⟩
          rw [f_X8_climb_49, h.siz, some_bind', e1]
          by_cases q : nI n ≤ 0
          · rw [if_pos q]
          · rw [if_neg q, if_pos rfl]
        rw [hstop]
        refine fin w ar h (fun _ _ _ => rfl) ?_ (fun z hz => ?_) (Chg.rf _ _)
        · rw [dep_no e2]
          funext z
          by_cases q : z = x
          · subst q; rw [upd_eq, h4x]; rfl
          · rw [upd_ne _ _ q]
        · rw [h5 z hz, und_0]
          rintro ⟨q1, q2⟩
          exact e2 z hz (Ne.symm q1) q2
      · have hd := dep_par hinj hxn e2
        have hlt := dep_lt (P := P) hxn
        have hlt2 := dep_lt (P := P) e2.1
        obtain ⟨w1, ar1, k1, k2, k3, k4, k5, k6⟩ := walk (fu := fu) (lr := f_X8_climb_32 fu N) hn hinj (rt := rt) hxn fu u 0 w ar 0 (fun z => und P x z) h hP e2.1 (by rw [h4x]; rfl) h5 (by omega) (by omega)
        rw [e1, show (0 : Int32) = nI 0 from rfl, k1]
        refine fin w1 ar1 k2 k3 (by rw [k4, hd, Nat.zero_add]) (fun z hz => ?_) k6
        rw [k5 z hz]
        unfold ind
        have hpa := par_anc hinj hxn e2 z hz
        by_cases q : ancB P z u = true
        · rw [if_pos q, und_1]
          rw [ancB_iff] at q
          have : z = u ∨ (z ≠ u ∧ anc P z u) := by
            by_cases q2 : z = u
            · exact Or.inl q2
            · exact Or.inr ⟨q2, q⟩
          have := hpa.mpr this
          exact ⟨Ne.symm this.1, this.2⟩
        · rw [if_neg q, und_0, Nat.add_zero]
          rintro ⟨q1, q2⟩
          rw [ancB_iff] at q
          rcases hpa.mp ⟨Ne.symm q1, q2⟩ with rfl | ⟨_, r⟩
          · exact q (anc_refl z)
          · exact q r
theorem climb_zero {fu n : Nat} (hfu : 100 ≤ fu) (hn : n ≤ 61) {rt : Int32} : ∀ N x w ar, TW w ar (nI n) rt → (∀ j, j < x → ar 4 j = 0 ∧ ar 5 j = 0) → x ≤ n → n - x < N → ∃ w' ar', f_X8_climb_2 fu N w 3 (nI x) = f_X8_climb_32 fu fu w' 3 0 ∧ TW w' ar' (nI n) rt ∧ (∀ k, k ≠ 4 → k ≠ 5 → ar' k = ar k) ∧ (∀ j, j < n → ar' 4 j = 0 ∧ ar' 5 j = 0) ∧ Chg tKs w w' := by
  intro N
  induction N with
  | zero => intro x w ar _ _ _ hN; omega
  | succ N ih =>
    intro x w ar h h0 hx hN
    rw [f_X8_climb_2, h.siz, some_bind']
    by_cases c : n ≤ x
    · rw [if_pos (nI_le c (by omega)), bnd_eq]
      exact ⟨w, ar, rfl, h, fun _ _ _ => rfl, fun j hj => h0 j (by omega), Chg.rf _ _⟩
    · obtain ⟨w1, g1, t1, c1⟩ := h.s4 (j := x) (by omega) 0
      obtain ⟨w2, g2, t2, c2⟩ := t1.s5 (j := x) (by omega) 0
      obtain ⟨w3, ar3, k1, k2, k3, k4, k5⟩ := ih (x + 1) w2 _ t2 (fun j hj => by
        rw [ua_eq, ua_ne _ _ (by omega : 4 ≠ 5), ua_eq, ua_ne _ _ (by omega : 5 ≠ 4)]
        by_cases q : j = x
        · subst q; rw [upd_eq, upd_eq]; exact ⟨rfl, rfl⟩
        · rw [upd_ne _ _ q, upd_ne _ _ q]; exact h0 j (by omega)) (by omega) (by omega)
      rw [if_neg (nI_ge (by omega) (by omega)), h.r4, some_bind', g1, some_bind', t1.r5, some_bind', g2, some_bind', bnd_eq, nI_1, k1]
      exact ⟨w3, ar3, rfl, k2, fun k q4 q5 => by rw [k3 k q4 q5, ua_ne _ _ q5, ua_ne _ _ q4], k4, (c1.tr c2).tr k5⟩
/-- the class's tree of a row of keys -/
def TOK (w : MW) (K : List Nat) : Prop := ∃ ar rt, TW w ar (nI K.length) rt ∧ KH ar K ∧ (∀ x, x < K.length → ParV (pF K) K.length x (ar 1 x) ∧ LV (pF K) x (ar 2 x) ∧ RV (pF K) K.length x (ar 3 x) ∧ ar 4 x = nI (dep (pF K) K.length x) ∧ ar 5 x = nI (und (pF K) K.length x)) ∧ ((K.length = 0 ∧ rt = -1) ∨ ∃ r, r < K.length ∧ rt = nI r ∧ ∀ z, z < K.length → pF K z ≤ pF K r)
theorem grow_84 {fu : Nat} (hfu : 100 ≤ fu) {K : List Nat} (O : KO K) {w : MW} {ar : Nat → Nat → Int32} {rt : Int32} (h : TW w ar (nI K.length) rt) (hK : KH ar K) : ∃ w', f_X8_grow_84 fu w 3 = some w' ∧ TOK w' K ∧ Chg tKs w w' := by
  have h61 := O.2.2
  have hinj : ∀ i j, i < K.length → j < K.length → pF K i = pF K j → i = j := fun i j hi hj e => O.inj hi hj e
  obtain ⟨w1, ar1, rt1, g1, g2, g3, g4, g5, g6⟩ := link_ok hfu O h hK
  obtain ⟨w2, ar2, k1, k2, k3, k4, k5⟩ := climb_zero hfu h61 fu 0 w1 ar1 g2 (fun j hj => by omega) (by omega) (by omega)
  obtain ⟨w3, ar3, m1, m2, m3, m4, m5, m6⟩ := climb_loop hfu h61 hinj (P := pF K) fu 0 w2 ar2 k2 (fun x hx => by rw [k3 1 (by omega) (by omega)]; exact (g4 x hx).1) (fun j hj => by rw [if_neg (by omega)]; exact (k4 j hj).1) (fun z hz => by rw [(k4 z hz).2]; rfl) (by omega) (by omega)
  refine ⟨w3, ?_, ⟨ar3, rt1, m2, fun j hj => ?_, fun x hx => ?_, g5⟩, (g6.tr k5).tr m6⟩
  · rw [f_X8_grow_84, h.cl, g1, some_bind', g2.cl, f_X8_climb, bnd_eq, show (0 : Int32) = nI 0 from rfl, k1, show (0 : Int32) = nI 0 from rfl, m1, some_bind']
  · rw [m3 0 (by omega) (by omega), k3 0 (by omega) (by omega)]; exact g3 j hj
  · rw [m3 1 (by omega) (by omega), k3 1 (by omega) (by omega), m3 2 (by omega) (by omega), k3 2 (by omega) (by omega), m3 3 (by omega) (by omega), k3 3 (by omega) (by omega)]
    exact ⟨(g4 x hx).1, (g4 x hx).2.1, (g4 x hx).2.2, m4 x hx, m5 x hx⟩
end
section
/-! the model's tree: the one that is ahead of a stretch, each time anew -/
def ArgM (P : Nat → Nat) (f e a : Nat) : Prop := f ≤ a ∧ a < e ∧ ∀ z, f ≤ z → z < e → P z ≤ P a
theorem mI_lt {e k : Nat} (he : e < 2 ^ 30) (hk : k < 2 ^ 30) : mI e < nI k ↔ e ≤ k := by
  rcases Nat.eq_zero_or_pos e with q | q
  · subst q
    rw [mI_0]
    exact ⟨fun _ => by omega, fun _ => m1_lt k (by omega)⟩
  · obtain ⟨e', rfl⟩ : ∃ e', e = e' + 1 := ⟨e - 1, by omega⟩
    rw [mI_s, nI_ltI (by omega) (by omega)]
    omega
theorem mI_ge {e k : Nat} (he : e < 2 ^ 30) (hk : k < 2 ^ 30) : nI k ≤ mI e ↔ k < e := by
  rw [← Int32.not_lt, mI_lt he hk]; omega
section M
variable {C : MW} {v : Int64} {ar : Nat → Nat → Int32} {fu : Nat} {F : Nat → Int32}
/-- the model's row holds the keys -/
def RH (ar : Nat → Nat → Int32) (K : List Nat) : Prop := ∀ j, j < K.length → ar 4 j = nI (nth K j)
theorem ahead_loop (hC : C.length = 123) {K : List Nat} (O : KO K) (hK : RH ar K) {f e : Nat} (he : e ≤ K.length) : ∀ N k b, f ≤ b → b < k → b < e → k ≤ 100 → (∀ z, f ≤ z → z < k → z < e → pF K z ≤ pF K b) → e - k < N → ∃ a, f_X11_ahead_16 fu (mW C F v ar) N 123 (mI e) (nI b) (nI k) = some (nI a) ∧ ArgM (pF K) f e a := by
  have h61 := O.2.2
  intro N
  induction N with
  | zero => intro k b _ _ _ _ _ hN; omega
  | succ N ih =>
    intro k b h1 h2 h3 h100 h4 hN
    rw [f_X11_ahead_16]
    by_cases c : e ≤ k
    · rw [if_pos ((mI_lt (by omega) (by omega)).mpr c)]
      exact ⟨b, rfl, h1, h3, fun z hz1 hz2 => h4 z hz1 (by omega) hz2⟩
    · have hk : k < K.length := by omega
      rw [if_neg (fun q => c ((mI_lt (by omega) (by omega)).mp q)), m_gR hC F v ar 10 rfl, some_bind', m_a4 hC F v ar (by omega), some_bind', some_bind', m_a4 hC F v ar (by omega), some_bind', hK k hk, hK b (by omega), mpri (O.lt hk), mpri (O.lt (by omega))]
      have b1 := prN_lt (nth K k)
      have b2 := prN_lt (nth K b)
      by_cases q : pF K k ≤ pF K b
      · rw [if_pos (nI_le (show prN (nth K k) ≤ prN (nth K b) from q) (by omega)), f_X11_ahead_50, bnd_eq, bnd_eq, nI_1]
        refine ih (k + 1) b h1 (by omega) h3 (by omega) (fun z z1 z2 z3 => ?_) (by omega)
        rcases Nat.lt_or_ge z k with y | y
        · exact h4 z z1 y z3
        · rw [show z = k by omega]; exact q
      · rw [if_neg (nI_ge (show prN (nth K b) < prN (nth K k) from by unfold pF at q; omega) (by omega)), f_X11_ahead_50, bnd_eq, bnd_eq, nI_1]
        refine ih (k + 1) k (by omega) (by omega) (by omega) (by omega) (fun z z1 z2 z3 => ?_) (by omega)
        rcases Nat.lt_or_ge z k with y | y
        · have := h4 z z1 y z3; omega
        · rw [show z = k by omega]; exact Nat.le_refl _
theorem ahead_in (hC : C.length = 123) (hfu : 200 ≤ fu) {K : List Nat} (O : KO K) (hK : RH ar K) {f e : Nat} (he : e ≤ K.length) (hfe : f < e) : ∃ a, f_X11_ahead fu (mW C F v ar) 123 (nI f) (mI e) = some (nI a) ∧ ArgM (pF K) f e a := by
  have h61 := O.2.2
  rw [f_X11_ahead, if_pos ((mI_ge (by omega) (by omega)).mpr hfe), f_X11_ahead_10, bnd_eq, bnd_eq, nI_1]
  exact ahead_loop hC O hK he fu (f + 1) f (Nat.le_refl _) (by omega) hfe (by omega) (fun z z1 z2 z3 => by rw [show z = f by omega]; exact Nat.le_refl _) (by omega)
theorem ahead_out {w : MW} {f e : Nat} (hfu : 200 ≤ fu) (he : e ≤ 100) (hf : f ≤ 100) (hfe : e ≤ f) : f_X11_ahead fu w 123 (nI f) (mI e) = some (-1) := by
  obtain ⟨fu', rfl⟩ : ∃ f', fu = f' + 1 := ⟨fu - 1, by omega⟩
  rw [f_X11_ahead, if_neg (fun q => by have := (mI_ge (by omega) (by omega)).mp q; omega), f_X11_ahead_10, bnd_eq, bnd_eq, nI_1, f_X11_ahead_16, if_pos ((mI_lt (by omega) (by omega)).mpr (by omega))]
theorem argm_u {P : Nat → Nat} {n f e a b : Nat} (hinj : ∀ i j, i < n → j < n → P i = P j → i = j) (he : e ≤ n) (h : ArgM P f e a) (g : ArgM P f e b) : a = b := by
  have h1 := h.2.2 b g.1 g.2.1
  have h2 := g.2.2 a h.1 h.2.1
  exact hinj a b (by have := h.2.1; omega) (by have := g.2.1; omega) (by omega)
/-- ancestors outside a stretch -/
def dOut (P : Nat → Nat) (n f e x : Nat) : Nat := (List.range n).countP (fun y => !(decide (f ≤ y) && decide (y < e)) && ancB P y x)
/-- a stretch that is a subtree -/
def SubT (P : Nat → Nat) (n f e : Nat) : Prop := e ≤ n ∧ (0 < f → ∀ z, f ≤ z → z < e → P z < P (f - 1)) ∧ (e < n → ∀ z, f ≤ z → z < e → P z < P e)
def ParO (P : Nat → Nat) (n f e x : Nat) (u : Int32) : Prop := (u = -1 ∧ ∀ y, y < n → ¬ (f ≤ y ∧ y < e) → ¬ anc P y x) ∨ ∃ y, u = nI y ∧ y < n ∧ ¬ (f ≤ y ∧ y < e) ∧ anc P y x ∧ ∀ z, z < n → ¬ (f ≤ z ∧ z < e) → anc P z x → anc P z y
theorem outB {P : Nat → Nat} {f e y x : Nat} : (!(decide (f ≤ y) && decide (y < e)) && ancB P y x) = true ↔ (¬ (f ≤ y ∧ y < e) ∧ anc P y x) := by
  rw [Bool.and_eq_true, ancB_iff]
  refine and_congr_left' ?_
  rw [Bool.not_eq_true', Bool.and_eq_false_iff, decide_eq_false_iff_not, decide_eq_false_iff_not]
  omega
/-- its is at the head of [f, e), and at isn't it -/
theorem sub_step {P : Nat → Nat} {n f e i x f' e' : Nat} (hinj : ∀ i j, i < n → j < n → P i = P j → i = j) (S : SubT P n f e) (hx : f ≤ x ∧ x < e) (hA : ArgM P f e i) (hne : i ≠ x) (hfe : (f' = i + 1 ∧ e' = e ∧ i < x) ∨ (f' = f ∧ e' = i ∧ x < i)) : SubT P n f' e' ∧ (f' ≤ x ∧ x < e') ∧ (∀ z, z < n → ((¬ (f' ≤ z ∧ z < e') ∧ anc P z x) ↔ (z = i ∨ (¬ (f ≤ z ∧ z < e) ∧ anc P z x)))) ∧ anc P i x ∧ (∀ z, z < n → ¬ (f ≤ z ∧ z < e) → anc P z x → anc P z i) := by
  obtain ⟨s1, s2, s3⟩ := S
  obtain ⟨a1, a2, a3⟩ := hA
  have hin : i < n := by omega
  have strict : ∀ z, f ≤ z → z < e → z ≠ i → P z < P i := fun z z1 z2 z3 => by
    have h1 := a3 z z1 z2
    have h2 : P z ≠ P i := fun q => z3 (hinj z i (by omega) hin q)
    omega
  have hix : anc P i x := fun z hz => a3 z (by omega) (by omega)
  have hout : ∀ z, z < n → ¬ (f ≤ z ∧ z < e) → anc P z x → anc P z i := by
    intro z z1 z2 z3
    have hp : P i ≤ P z := by
      rcases Nat.lt_or_ge z f with q | q
      · have h1 := z3 (f - 1) (by omega)
        have h2 := s2 (by omega) i a1 a2
        omega
      · have h1 := z3 e (by omega)
        have h2 := s3 (by omega) i a1 a2
        omega
    exact anc_lin z3 hix hp
  refine ⟨⟨by omega, fun h0 z z1 z2 => ?_, fun h0 z z1 z2 => ?_⟩, by omega, fun z hz => ?_, hix, hout⟩
  · rcases hfe with ⟨q1, q2, q3⟩ | ⟨q1, q2, q3⟩
    · rw [q1, Nat.add_sub_cancel]; exact strict z (by omega) (by omega) (by omega)
    · rw [q1]; exact s2 (by omega) z (by omega) (by omega)
  · rcases hfe with ⟨q1, q2, q3⟩ | ⟨q1, q2, q3⟩
    · rw [q2]; exact s3 (by omega) z (by omega) (by omega)
    · rw [q2]; exact strict z (by omega) (by omega) (by omega)
  · constructor
    · rintro ⟨h1, h2⟩
      by_cases c1 : z = i
      · exact Or.inl c1
      · refine Or.inr ⟨fun h3 => ?_, h2⟩
        have h4 := h2 i (by omega)
        have h5 := strict z h3.1 h3.2 c1
        omega
    · rintro (rfl | ⟨h1, h2⟩)
      · exact ⟨by omega, hix⟩
      · exact ⟨by omega, h2⟩
theorem dOut_step {P : Nat → Nat} {n f e i x f' e' : Nat} (hi : i < n) (hif : f ≤ i ∧ i < e) (h : ∀ z, z < n → ((¬ (f' ≤ z ∧ z < e') ∧ anc P z x) ↔ (z = i ∨ (¬ (f ≤ z ∧ z < e) ∧ anc P z x)))) : dOut P n f' e' x = dOut P n f e x + 1 := by
  unfold dOut
  rw [countP_or' (q := fun z => decide (z = i)) (r := fun y => !(decide (f ≤ y) && decide (y < e)) && ancB P y x) (List.range n) (fun z hz => ?_) (fun z _ => ?_), count_one hi, Nat.add_comm]
  · rw [Bool.eq_iff_iff, outB, Bool.or_eq_true, outB, decide_eq_true_eq]
    exact h z (List.mem_range.mp hz)
  · rw [outB, decide_eq_true_eq]
    rintro ⟨q1, q2, _⟩
    omega
theorem dOut_end {P : Nat → Nat} {n f e x : Nat} (hinj : ∀ i j, i < n → j < n → P i = P j → i = j) (he : e ≤ n) (hA : ArgM P f e x) : dOut P n f e x = dep P n x := by
  unfold dOut dep
  apply List.countP_congr
  intro y hy
  have hy' := List.mem_range.mp hy
  obtain ⟨a1, a2, a3⟩ := hA
  rw [outB, Bool.and_eq_true, decide_eq_true_eq, ancB_iff]
  constructor
  · rintro ⟨h1, h2⟩; exact ⟨fun q => h1 (by omega), h2⟩
  · rintro ⟨h1, h2⟩
    refine ⟨fun q => h1 ?_, h2⟩
    have e1 := anc_le h2
    have e2 := a3 y q.1 q.2
    exact hinj y x hy' (by omega) (by omega)
theorem parO_end {P : Nat → Nat} {n f e x : Nat} {u : Int32} (hinj : ∀ i j, i < n → j < n → P i = P j → i = j) (he : e ≤ n) (hA : ArgM P f e x) (h : ParO P n f e x u) : ParV P n x u := by
  obtain ⟨a1, a2, a3⟩ := hA
  have key : ∀ z, z < n → z ≠ x → anc P z x → ¬ (f ≤ z ∧ z < e) := fun z h1 h2 h3 q => by
    have e1 := anc_le h3
    have e2 := a3 z q.1 q.2
    exact h2 (hinj z x h1 (by omega) (by omega))
  rcases h with ⟨h1, h2⟩ | ⟨y, h1, h2, h3, h4, h5⟩
  · exact Or.inl ⟨h1, fun z z1 z2 z3 => h2 z z1 (key z z1 z2 z3) z3⟩
  · exact Or.inr ⟨y, h1, h2, fun q => h3 (by omega), h4, fun z z1 z2 z3 => h5 z z1 (key z z1 z2 z3) z3⟩
theorem sub_anc {P : Nat → Nat} {n f e x : Nat} (S : SubT P n f e) (hA : ArgM P f e x) {y : Nat} (hy : y < n) : anc P x y ↔ (f ≤ y ∧ y < e) := by
  obtain ⟨s1, s2, s3⟩ := S
  obtain ⟨a1, a2, a3⟩ := hA
  constructor
  · intro h
    rcases Nat.lt_or_ge y f with q | q
    · have h1 := h (f - 1) (by omega)
      have h2 := s2 (by omega) x a1 a2
      omega
    · rcases Nat.lt_or_ge y e with q2 | q2
      · exact ⟨q, q2⟩
      · have h1 := h e (by omega)
        have h2 := s3 (by omega) x a1 a2
        omega
  · intro h z hz
    exact a3 z (by omega) (by omega)
theorem mFw {F : Nat → Int32} {v : Int64} {x : Int32} : (mF F v).set 12 (.int x) = mF (upd F 12 x) v ∧ (mF F v).set 13 (.int x) = mF (upd F 13 x) v ∧ (mF F v).set 14 (.int x) = mF (upd F 14 x) v ∧ (mF F v).set 15 (.int x) = mF (upd F 15 x) v ∧ (mF F v).set 11 (.int x) = mF (upd F 11 x) v := ⟨rfl, rfl, rfl, rfl, rfl⟩
/-- the fields of the way alone may differ -/
def FWy (F F' : Nat → Int32) : Prop := ∀ k, k < 12 ∨ 15 < k → F' k = F k
theorem FWy.tr {F F1 F2 : Nat → Int32} (h : FWy F F1) (g : FWy F1 F2) : FWy F F2 := fun k hk => (g k hk).trans (h k hk)
theorem goesTo_loop (hC : C.length = 123) (hfu : 200 ≤ fu) {K : List Nat} (O : KO K) (hK : RH ar K) {x : Nat} (hx : x < K.length) : ∀ N f e i d F, F 12 = nI f → F 13 = mI e → F 15 = nI d → ParO (pF K) K.length f e x (F 14) → d = dOut (pF K) K.length f e x → SubT (pF K) K.length f e → (f ≤ x ∧ x < e) → ArgM (pF K) f e i → e - f < N → ∃ F' f' e', f_X11_goesTo_38 fu N (mW C F v ar) 123 (nI x) (nI i) = some (mW C F' v ar) ∧ F' 12 = nI f' ∧ F' 13 = mI e' ∧ F' 15 = nI (dep (pF K) K.length x) ∧ ParV (pF K) K.length x (F' 14) ∧ SubT (pF K) K.length f' e' ∧ ArgM (pF K) f' e' x ∧ FWy F F' := by
  have h61 := O.2.2
  have hinj : ∀ i j, i < K.length → j < K.length → pF K i = pF K j → i = j := fun i j hi hj e => O.inj hi hj e
  intro N
  induction N with
  | zero => intro f e i d F _ _ _ _ _ _ _ _ hN; omega
  | succ N ih =>
    intro f e i d F h12 h13 h15 h14 hd S hxfe hA hN
    have s1 := S.1
    have a1 := hA.1
    have a2 := hA.2.1
    rw [f_X11_goesTo_38]
    by_cases c : i = x
    · subst c
      rw [if_pos rfl]
      exact ⟨F, f, e, rfl, h12, h13, by rw [h15, hd, dOut_end hinj s1 hA], parO_end hinj s1 hA h14, S, hA, fun _ _ => rfl⟩
    · rw [if_neg (fun q => c ((nI_eq (by omega) (by omega)).mp q)), m_p hC _ v ar 14 (by omega) mFw.2.2.1, some_bind', m_gI hC _ v ar 15 rfl, some_bind', upd_ne _ _ (by omega : 15 ≠ 14), h15, nI_1, m_p hC _ v ar 15 (by omega) mFw.2.2.2.1, some_bind']
      have rest : ∀ f' e' F1, ((f' = i + 1 ∧ e' = e ∧ i < x) ∨ (f' = f ∧ e' = i ∧ x < i)) → F1 12 = nI f' → F1 13 = mI e' → F1 15 = nI (d + 1) → F1 14 = nI i → FWy F F1 → ∃ F' f' e', f_X11_goesTo_80 fu (f_X11_goesTo_38 fu N) (mW C F1 v ar) 123 (nI x) = some (mW C F' v ar) ∧ F' 12 = nI f' ∧ F' 13 = mI e' ∧ F' 15 = nI (dep (pF K) K.length x) ∧ ParV (pF K) K.length x (F' 14) ∧ SubT (pF K) K.length f' e' ∧ ArgM (pF K) f' e' x ∧ FWy F F' := by
        intro f' e' F1 hfe k12 k13 k15 k14 kF
        obtain ⟨p1, p2, p3, p4, p5⟩ := sub_step hinj S hxfe hA c hfe
        obtain ⟨a, g1, g2⟩ := ahead_in (v := v) (F := F1) hC hfu O hK (f := f') (e := e') p1.1 (by omega)
        have hP : ParO (pF K) K.length f' e' x (F1 14) := by
          refine Or.inr ⟨i, k14, by omega, by omega, p4, fun z z1 z2 z3 => ?_⟩
          rcases (p3 z z1).mp ⟨z2, z3⟩ with rfl | ⟨q1, q2⟩
          · exact anc_refl z
          · exact p5 z z1 q1 q2
        obtain ⟨F2, f2, e2, m1, m2, m3, m4, m5, m6, m7, m8⟩ := ih f' e' a (d + 1) F1 k12 k13 k15 hP (by rw [dOut_step (by omega) ⟨a1, a2⟩ p3, hd]) p1 p2 g2 (by omega)
        rw [f_X11_goesTo_80, m_gI hC _ v ar 12 rfl, some_bind', m_gI hC _ v ar 13 rfl, some_bind', k12, k13, m_cl hC, g1, some_bind', bnd_eq, m1]
        exact ⟨F2, f2, e2, rfl, m2, m3, m4, m5, m6, m7, kF.tr m8⟩
      have kF : FWy F (upd (upd F 14 (nI i)) 15 (nI (d + 1))) := fun k hk => by rw [upd_ne _ _ (by omega), upd_ne _ _ (by omega)]
      by_cases q : i ≤ x
      · rw [if_pos (nI_le q (by omega)), m_p hC _ v ar 12 (by omega) mFw.1, some_bind', nI_1]
        refine rest (i + 1) e _ (Or.inl ⟨rfl, rfl, by omega⟩) (upd_eq _ _ _) ?_ ?_ ?_ (fun k hk => by rw [upd_ne _ _ (by omega)]; exact kF k hk)
        · rw [upd_ne _ _ (by omega), upd_ne _ _ (by omega), upd_ne _ _ (by omega)]; exact h13
        · rw [upd_ne _ _ (by omega), upd_eq]
        · rw [upd_ne _ _ (by omega), upd_ne _ _ (by omega), upd_eq]
      · rw [if_neg (nI_ge (by omega) (by omega)), m_p hC _ v ar 13 (by omega) mFw.2.1, some_bind', mI_sub]
        refine rest f i _ (Or.inr ⟨rfl, rfl, by omega⟩) ?_ (upd_eq _ _ _) ?_ ?_ (fun k hk => by rw [upd_ne _ _ (by omega)]; exact kF k hk)
        · rw [upd_ne _ _ (by omega), upd_ne _ _ (by omega), upd_ne _ _ (by omega)]; exact h12
        · rw [upd_ne _ _ (by omega), upd_eq]
        · rw [upd_ne _ _ (by omega), upd_ne _ _ (by omega), upd_eq]
/-- the way to x -/
def WayOK (K : List Nat) (x : Nat) (F' : Nat → Int32) (f e : Nat) : Prop := F' 12 = nI f ∧ F' 13 = mI e ∧ F' 15 = nI (dep (pF K) K.length x) ∧ ParV (pF K) K.length x (F' 14) ∧ SubT (pF K) K.length f e ∧ ArgM (pF K) f e x
theorem goesTo_ok (hC : C.length = 123) (hfu : 200 ≤ fu) {K : List Nat} (O : KO K) (hK : RH ar K) (h11 : F 11 = nI K.length) {x : Nat} (hx : x < K.length) : ∃ F' f e, f_X11_goesTo fu (mW C F v ar) 123 (nI x) = some (mW C F' v ar) ∧ WayOK K x F' f e ∧ FWy F F' := by
  have h61 := O.2.2
  obtain ⟨a, g1, g2⟩ := ahead_in (v := v) (F := upd (upd (upd (upd F 12 0) 13 (mI K.length)) 14 (-1)) 15 0) hC hfu O hK (f := 0) (e := K.length) (Nat.le_refl _) (by omega)
  obtain ⟨F', f', e', m1, m2, m3, m4, m5, m6, m7, m8⟩ := goesTo_loop (v := v) hC hfu O hK hx fu 0 K.length a 0 (upd (upd (upd (upd F 12 0) 13 (mI K.length)) 14 (-1)) 15 0) rfl rfl rfl (Or.inl ⟨rfl, fun y hy q => absurd ⟨by omega, hy⟩ q⟩) (by
    unfold dOut
    rw [eq_comm, List.countP_eq_zero]
    intro y hy
    rw [outB]
    rintro ⟨q, _⟩
    exact q ⟨by omega, List.mem_range.mp hy⟩) ⟨Nat.le_refl _, fun h => by omega, fun h => by omega⟩ ⟨by omega, hx⟩ g2 (by omega)
  refine ⟨F', f', e', ?_, ⟨m2, m3, m4, m5, m6, m7⟩, fun k hk => ?_⟩
  · rw [f_X11_goesTo, m_p hC _ v ar 12 (by omega) mFw.1, some_bind', m_gI hC _ v ar 11 rfl, some_bind', upd_ne _ _ (by omega : 11 ≠ 12), h11, mI_sub, m_p hC _ v ar 13 (by omega) mFw.2.1, some_bind', m_p hC _ v ar 14 (by omega) mFw.2.2.1, some_bind', m_p hC _ v ar 15 (by omega) mFw.2.2.2.1, some_bind', m_gI hC _ v ar 12 rfl, some_bind', m_gI hC _ v ar 13 rfl, some_bind', m_cl hC]
    have e1 : upd (upd (upd (upd F 12 0) 13 (mI K.length)) 14 (-1)) 15 0 12 = nI 0 := rfl
    have e2 : upd (upd (upd (upd F 12 0) 13 (mI K.length)) 14 (-1)) 15 0 13 = mI K.length := rfl
    rw [e1, e2, g1, some_bind', bnd_eq, m1]
  · rw [m8 k hk, upd_ne _ _ (by omega), upd_ne _ _ (by omega), upd_ne _ _ (by omega), upd_ne _ _ (by omega)]
theorem mdepth_ok (hC : C.length = 123) (hfu : 200 ≤ fu) {K : List Nat} (O : KO K) (hK : RH ar K) (h11 : F 11 = nI K.length) {x : Nat} (hx : x < K.length) : ∃ F', f_X11_depth fu (mW C F v ar) 123 (nI x) = some (nI (dep (pF K) K.length x), mW C F' v ar) ∧ FWy F F' := by
  obtain ⟨F', f, e, g1, g2, g3⟩ := goesTo_ok (v := v) hC hfu O hK h11 hx
  refine ⟨F', ?_, g3⟩
  rw [f_X11_depth, m_cl hC, g1, some_bind', m_gI hC _ v ar 15 rfl, some_bind', g2.2.2.1]
/-- the greatest depth and 1, from x on -/
def hiF (P : Nat → Nat) (n x acc : Nat) : Nat := (List.range' x (n - x)).foldl (fun a j => max a (dep P n j + 1)) acc
theorem hiF_end (P : Nat → Nat) {n x : Nat} (acc : Nat) (h : n ≤ x) : hiF P n x acc = acc := by
  unfold hiF; rw [show n - x = 0 by omega]; rfl
theorem hiF_s (P : Nat → Nat) {n x : Nat} (acc : Nat) (h : x < n) : hiF P n x acc = hiF P n (x + 1) (max acc (dep P n x + 1)) := by
  unfold hiF
  rw [show n - x = (n - (x + 1)) + 1 by omega, List.range'_succ, List.foldl_cons]
theorem mhigh_loop (hC : C.length = 123) (hfu : 200 ≤ fu) {K : List Nat} (O : KO K) (hK : RH ar K) : ∀ N x acc F, F 11 = nI K.length → x ≤ K.length → acc ≤ 100 → K.length - x < N → ∃ F', f_X11_high_4 fu N (mW C F v ar) 123 (nI acc) (nI x) = some (nI (hiF (pF K) K.length x acc), mW C F' v ar) ∧ FWy F F' := by
  have h61 := O.2.2
  intro N
  induction N with
  | zero => intro x acc F _ _ _ hN; omega
  | succ N ih =>
    intro x acc F h11 hx hacc hN
    rw [f_X11_high_4, m_gI hC _ v ar 11 rfl, some_bind', h11]
    by_cases c : K.length ≤ x
    · rw [if_pos (nI_le c (by omega)), hiF_end _ _ c]
      exact ⟨F, rfl, fun _ _ => rfl⟩
    · have hx' : x < K.length := by omega
      have hd := dep_lt (P := pF K) hx'
      obtain ⟨F1, g1, g2⟩ := mdepth_ok (v := v) hC hfu O hK h11 hx'
      have h11' : F1 11 = nI K.length := by rw [g2 11 (by omega)]; exact h11
      rw [if_neg (nI_ge hx' (by omega)), m_cl hC, g1, some_bind', nI_1, hiF_s _ _ hx']
      by_cases q : dep (pF K) K.length x + 1 ≤ acc
      · obtain ⟨F2, k1, k2⟩ := ih (x + 1) acc F1 h11' (by omega) hacc (by omega)
        rw [if_pos (nI_le q (by omega)), f_X11_high_34, bnd_eq, bnd_eq, nI_1, k1, Nat.max_eq_left q]
        exact ⟨F2, rfl, g2.tr k2⟩
      · obtain ⟨F2, k1, k2⟩ := mdepth_ok (v := v) hC hfu O hK h11' hx'
        obtain ⟨F3, m1, m2⟩ := ih (x + 1) (dep (pF K) K.length x + 1) F2 (by rw [k2 11 (by omega)]; exact h11') (by omega) (by omega) (by omega)
        rw [if_neg (nI_ge (by omega) (by omega)), m_cl hC, k1, some_bind', f_X11_high_34, bnd_eq, bnd_eq, nI_1, nI_1, m1, Nat.max_eq_right (by omega)]
        exact ⟨F3, rfl, (g2.tr k2).tr m2⟩
theorem mhigh_ok (hC : C.length = 123) (hfu : 200 ≤ fu) {K : List Nat} (O : KO K) (hK : RH ar K) (h11 : F 11 = nI K.length) : ∃ F', f_X11_high fu (mW C F v ar) 123 = some (nI (hiF (pF K) K.length 0 0), mW C F' v ar) ∧ FWy F F' := by
  rw [f_X11_high, bnd_eq, bnd_eq]
  exact mhigh_loop hC hfu O hK fu 0 0 F h11 (by omega) (by omega) (by have := O.2.2; omega)
/-- how far two are: by the one that is ahead of all between them -/
theorem mfar_ok (hC : C.length = 123) (hfu : 200 ≤ fu) {K : List Nat} (O : KO K) (hK : RH ar K) (h11 : F 11 = nI K.length) {i j : Nat} (hi : i < K.length) (hj : j < K.length) : ∃ F' a, f_X11_farOf fu (mW C F v ar) 123 (nI i) (nI j) = some (nI (dep (pF K) K.length i + dep (pF K) K.length j) - nI (2 * dep (pF K) K.length a), mW C F' v ar) ∧ ArgM (pF K) (min i j) (max i j + 1) a ∧ FWy F F' := by
  have h61 := O.2.2
  have key : ∀ lo hi, lo = min i j → hi = max i j → ∃ F' a, f_X11_farOf_21 fu (mW C F v ar) 123 (nI i) (nI j) (nI lo) (nI hi) = some (nI (dep (pF K) K.length i + dep (pF K) K.length j) - nI (2 * dep (pF K) K.length a), mW C F' v ar) ∧ ArgM (pF K) (min i j) (max i j + 1) a ∧ FWy F F' := by
    intro lo hi' e1 e2
    subst e1 e2
    obtain ⟨F1, g1, g2⟩ := mdepth_ok (v := v) hC hfu O hK h11 hi
    have h1 : F1 11 = nI K.length := by rw [g2 11 (by omega)]; exact h11
    obtain ⟨F2, k1, k2⟩ := mdepth_ok (v := v) hC hfu O hK h1 hj
    have h2 : F2 11 = nI K.length := by rw [k2 11 (by omega)]; exact h1
    obtain ⟨a, m1, m2⟩ := ahead_in (v := v) (F := F2) hC hfu O hK (f := min i j) (e := max i j + 1) (by omega) (by omega)
    rw [mI_s] at m1
    obtain ⟨F3, q1, q2⟩ := mdepth_ok (v := v) hC hfu O hK h2 (x := a) (by have := m2.2.1; omega)
    refine ⟨F3, a, ?_, m2, (g2.tr k2).tr q2⟩
    rw [f_X11_farOf_21, bnd_eq, m_cl hC, g1, some_bind', m_cl hC, k1, some_bind', m_cl hC, m1, some_bind', m_cl hC, q1, some_bind', nI_add, show (2 : Int32) = nI 2 from rfl, nI_mul]
  rw [f_X11_farOf]
  by_cases c : j ≤ i
  · rw [if_pos (nI_le c (by omega)), f_X11_farOf_10, bnd_eq, if_pos (nI_le c (by omega))]
    exact key j i (by omega) (by omega)
  · rw [if_neg (nI_ge (by omega) (by omega)), f_X11_farOf_10, bnd_eq, if_neg (nI_ge (by omega) (by omega))]
    exact key i j (by omega) (by omega)
end M
end
section
/-! the class's tree of a set; SEEK -/
theorem argm_ex (P : Nat → Nat) (f : Nat) : ∀ e, f < e → ∃ a, ArgM P f e a
  | 0, h => by omega
  | e + 1, h => by
    rcases Nat.lt_or_ge f e with c | c
    · obtain ⟨a, h1, h2, h3⟩ := argm_ex P f e c
      rcases Nat.lt_or_ge (P a) (P e) with q | q
      · refine ⟨e, by omega, by omega, fun z z1 z2 => ?_⟩
        rcases Nat.lt_or_ge z e with y | y
        · have := h3 z z1 y; omega
        · rw [show z = e by omega]; exact Nat.le_refl _
      · refine ⟨a, h1, by omega, fun z z1 z2 => ?_⟩
        rcases Nat.lt_or_ge z e with y | y
        · exact h3 z z1 y
        · rw [show z = e by omega]; exact q
    · exact ⟨f, Nat.le_refl _, by omega, fun z z1 z2 => by rw [show z = f by omega]; exact Nat.le_refl _⟩
theorem dep_mono {P : Nat → Nat} {n x y : Nat} (hinj : ∀ i j, i < n → j < n → P i = P j → i = j) (hx : x < n) (hy : y < n) (h : anc P y x) : dep P n y ≤ dep P n x := by
  by_cases c : y = x
  · rw [c]; exact Nat.le_refl _
  · unfold dep
    refine List.countP_mono_left (fun z hz q => ?_)
    have hz' := List.mem_range.mp hz
    rw [Bool.and_eq_true, decide_eq_true_eq, ancB_iff] at q ⊢
    refine ⟨fun q2 => ?_, anc_tr q.2 h⟩
    subst q2
    have e1 := anc_le q.2
    have e2 := anc_le h
    exact c (hinj y z hy hz' (by omega))
/-- keys of entries -/
def kys (L : List Nat) : List Nat := L.map (fun e => e / 2)
theorem kys_len (L : List Nat) : (kys L).length = L.length := List.length_map _
theorem kys_nth {L : List Nat} {j : Nat} (h : j < L.length) : nth (kys L) j = nth L j / 2 := nth_map h
theorem kys_ok {L : List Nat} (S : SOK L) : KO (kys L) := by
  refine ⟨List.pairwise_map.mpr S.1, fun k hk => ?_, by rw [kys_len]; have := S.len; omega⟩
  obtain ⟨e, he, rfl⟩ := List.mem_map.mp hk
  have := S.2.1 e he
  omega
/-- the keys that the tree is grown of: one more, one gone -/
def gK (v3 : Int32) : Option Nat → List Nat → List Nat
  | none, [] => []
  | some m, [] => [m]
  | none, k :: ks => (if nI k = v3 then [] else [k]) ++ gK v3 none ks
  | some m, k :: ks => if m < k then m :: ((if nI k = v3 then [] else [k]) ++ gK v3 none ks) else (if nI k = v3 then [] else [k]) ++ gK v3 (some m) ks
def oN (o : Option Nat) : Nat := match o with
  | none => 0
  | some _ => 1
theorem gK_len (v3 : Int32) : ∀ (ks : List Nat) (o : Option Nat), (gK v3 o ks).length ≤ ks.length + oN o
  | [], none => by simp [gK]
  | [], some m => by simp [gK, oN]
  | k :: ks, none => by
    have := gK_len v3 ks none
    rw [gK]
    simp only [List.length_append, List.length_cons]
    split <;> simp <;> omega
  | k :: ks, some m => by
    have h1 := gK_len v3 ks none
    have h2 := gK_len v3 ks (some m)
    rw [gK]
    simp only [oN] at h1 h2 ⊢
    split
    · simp only [List.length_append, List.length_cons]
      split <;> simp <;> omega
    · simp only [List.length_append, List.length_cons]
      split <;> simp <;> omega
theorem addKey_ok {w : MW} {ar : Nat → Nat → Int32} {rt : Int32} {A : List Nat} (h : TW w ar (nI A.length) rt) (hA : KH ar A) (hl : A.length < 61) (k : Nat) : ∃ w' ar', f_X8_addKey w 3 (nI k) = some w' ∧ TW w' ar' (nI (A ++ [k]).length) rt ∧ KH ar' (A ++ [k]) ∧ Chg tKs w w' := by
  obtain ⟨w1, g1, t1, c1⟩ := h.s0 (j := A.length) hl (nI k)
  obtain ⟨w2, g2, t2, c2⟩ := t1.p7 (nI (A.length + 1))
  refine ⟨w2, _, ?_, by rw [List.length_append]; exact t2, fun j hj => ?_, c1.tr c2⟩
  · rw [f_X8_addKey, h.siz, some_bind', if_neg (nI_pos (by omega)), some_bind', if_neg (show ¬ (61 : Int32) ≤ nI A.length from nI_ge (b := 61) hl (by omega)), h.r0, some_bind', some_bind', g1, some_bind', t1.siz, some_bind', nI_1, g2, some_bind']
  · rw [List.length_append] at hj
    simp only [List.length_singleton] at hj
    rw [ua_eq]
    unfold nth
    rw [List.getD_eq_getElem?_getD]
    by_cases c : j < A.length
    · rw [upd_ne _ _ (by omega), hA j c, List.getElem?_append_left c]
      unfold nth
      rw [List.getD_eq_getElem?_getD]
    · rw [show j = A.length by omega, upd_eq, List.getElem?_append_right (Nat.le_refl _), Nat.sub_self]
      rfl
theorem grow_loop {fu h e : Nat} {L : List Nat} {fg : Int32} (S : SOK L) (h10 : 10 < h) (e10 : 10 < e) {v2 v3 : Int32} {rt : Int32} : ∀ N r A w ar (o : Option Nat), HA w h e L fg → TW w ar (nI A.length) rt → KH ar A → (∀ m, o = some m → v2 = nI m ∧ m < 10000) → r ≤ L.length → A.length + (L.length - r) + oN o ≤ 61 → L.length - r < N → ∃ w' ar', f_X8_grow_20 fu N w 3 h v2 v3 (nI (oN o)) (nI r) = f_X8_grow_84 fu w' 3 ∧ TW w' ar' (nI (A ++ gK v3 o (kys (L.drop r))).length) rt ∧ KH ar' (A ++ gK v3 o (kys (L.drop r))) ∧ Chg tKs w w' := by
  have l1 := S.len
  intro N
  induction N with
  | zero => intro r A w ar o _ _ _ _ _ _ hN; omega
  | succ N ih =>
    intro r A w ar o H hT hA ho hr hl hN
    rw [f_X8_grow_20, gI_ob H.2.1 rfl, some_bind']
    by_cases c : L.length ≤ r
    · rw [if_pos (nI_le c (by omega)), drop_len c]
      cases o with
      | none =>
        rw [if_pos (by decide)]
        have e1 : gK v3 none (kys []) = [] := rfl
        rw [e1, List.append_nil]
        exact ⟨w, ar, rfl, hT, hA, Chg.rf _ _⟩
      | some m =>
        obtain ⟨hm, -⟩ := ho m rfl
        have e1 : gK v3 (some m) (kys []) = [m] := rfl
        have : oN (some m) = 1 := rfl
        obtain ⟨w1, ar1, g1, g2, g3, g4⟩ := addKey_ok hT hA (by omega) m
        rw [if_neg (show ¬ nI (oN (some m)) = 0 from (by decide : ¬ nI 1 = 0)), hT.cl, hm, g1, some_bind', e1]
        exact ⟨w1, ar1, rfl, g2, g3, g4⟩
    · have hr' : r < L.length := by omega
      have hb := S.lt hr'
      have e0 : kys (L.drop r) = nth L r / 2 :: kys (L.drop (r + 1)) := by rw [drop_cons hr']; rfl
      rw [if_neg (nI_ge hr' (by omega)), H.cl, keyAt_in H S hr', some_bind', bnd_eq, e0]
      -- the key itself
      have key : ∀ B u a (o' : Option Nat), HA u h e L fg → TW u a (nI B.length) rt → KH a B → (∀ m, o' = some m → v2 = nI m ∧ m < 10000) → B.length + (L.length - r) + oN o' ≤ 61 → ∃ w' ar', f_X8_grow_56 fu (f_X8_grow_20 fu N) u 3 h v2 v3 (nI (oN o')) (nI r) (nI (nth L r / 2)) = f_X8_grow_84 fu w' 3 ∧ TW w' ar' (nI (B ++ ((if nI (nth L r / 2) = v3 then [] else [nth L r / 2]) ++ gK v3 o' (kys (L.drop (r + 1))))).length) rt ∧ KH ar' (B ++ ((if nI (nth L r / 2) = v3 then [] else [nth L r / 2]) ++ gK v3 o' (kys (L.drop (r + 1))))) ∧ Chg tKs u w' := by
        intro B u a o' HU hu hB ho' hl'
        rw [f_X8_grow_56]
        by_cases q : nI (nth L r / 2) = v3
        · rw [if_pos q, if_pos q, f_X8_grow_68, bnd_eq, nI_1, List.nil_append]
          exact ih (r + 1) B u a o' HU hu hB ho' (by omega) (by omega) (by omega)
        · obtain ⟨u1, a1, g1, g2, g3, g4⟩ := addKey_ok hu hB (by omega) (nth L r / 2)
          obtain ⟨u2, a2, k1, k2, k3, k4⟩ := ih (r + 1) (B ++ [nth L r / 2]) u1 a1 o' (HU.chg g4 (by simp; omega) (by simp; omega)) g2 g3 ho' (by omega) (by simp; omega) (by omega)
          rw [if_neg q, if_neg q, hu.cl, g1, some_bind', f_X8_grow_68, bnd_eq, nI_1, k1, ← List.append_assoc]
          exact ⟨u2, a2, rfl, k2, k3, g4.tr k4⟩
      cases o with
      | none =>
        rw [if_pos (by decide), gK]
        exact key A w ar none H hT hA (fun m hm => by simp at hm) hl
      | some m =>
        obtain ⟨hm, hm2⟩ := ho m rfl
        have e1 : oN (some m) = 1 := rfl
        rw [if_neg (show ¬ nI (oN (some m)) = 0 from (by decide : ¬ nI 1 = 0)), gK, hm]
        by_cases q : m < nth L r / 2
        · obtain ⟨u1, a1, g1, g2, g3, g4⟩ := addKey_ok hT hA (by omega) m
          obtain ⟨u2, a2, k1, k2, k3, k4⟩ := key (A ++ [m]) u1 a1 none (H.chg g4 (by simp; omega) (by simp; omega)) g2 g3 (fun m hm => by simp at hm) (by simp [oN]; omega)
          rw [hm] at k1
          rw [if_neg (nI_ge q (by omega)), if_pos q, hT.cl, g1, some_bind', bnd_eq]
          refine ⟨u2, a2, k1, ?_, ?_, g4.tr k4⟩
          · rw [List.append_assoc] at k2; exact k2
          · rw [List.append_assoc] at k3; exact k3
        · rw [if_pos (nI_le (by omega) (by omega)), if_neg q]
          have := key A w ar (some m) H hT hA ho hl
          rw [hm] at this
          exact this
theorem grow_ok {fu h e : Nat} (hfu : 100 ≤ fu) {L : List Nat} {fg : Int32} (S : SOK L) (h10 : 10 < h) (e10 : 10 < e) {v2 v3 : Int32} (o : Option Nat) (ho : ∀ m, o = some m → v2 = nI m ∧ m < 10000) (hn : o = none → v2 = -1) {w : MW} (H : HA w h e L fg) (T : TSh w) (hK : KO (gK v3 o (kys L))) : ∃ w', f_X8_grow fu w 3 h v2 v3 = some w' ∧ TOK w' (gK v3 o (kys L)) ∧ Chg tKs w w' := by
  have l1 := S.len
  obtain ⟨⟨a, b, t1⟩, t2⟩ := T
  have T0 : TW w (fun k => if hk : k < 7 then Classical.choose (t2 k hk) else fun _ => 0) a b := ⟨t1, fun k hk => by
    simp only [dif_pos hk]
    exact Classical.choose_spec (t2 k hk)⟩
  obtain ⟨w1, g1, t3, c1⟩ := T0.p7 0
  have H1 := H.chg c1 (by simp; omega) (by simp; omega)
  have hoN : oN o ≤ 1 := by cases o <;> simp [oN]
  obtain ⟨w2, ar2, k1, k2, k3, k4⟩ := grow_loop (fu := fu) S h10 e10 (v2 := v2) (v3 := v3) fu 0 [] w1 _ o H1 t3 (fun j hj => by simp at hj) ho (by omega) (by simp; omega) (by omega)
  rw [List.drop_zero, List.nil_append] at k2 k3
  obtain ⟨w3, m1, m2, m3⟩ := grow_84 hfu hK k2 k3
  refine ⟨w3, ?_, m2, (c1.tr k4).tr m3⟩
  rw [f_X8_grow, g1, some_bind']
  cases o with
  | none =>
    rw [if_pos (hn rfl), bnd_eq, bnd_eq]
    exact k1.trans m1
  | some m =>
    rw [if_neg (by rw [(ho m rfl).1]; exact m1_ne m (by have := (ho m rfl).2; omega)), bnd_eq, bnd_eq]
    exact k1.trans m1
theorem gK_none : ∀ (ks : List Nat), (∀ k ∈ ks, k < 10000) → gK (-1) none ks = ks
  | [], _ => rfl
  | k :: ks, h => by
    rw [gK, if_neg (m1_ne k (by have := h k List.mem_cons_self; omega)), gK_none ks (fun x hx => h x (List.mem_cons_of_mem _ hx))]
    rfl
theorem CS.tr {w : MW} {hs : Nat → List Nat} {fg : Nat → Int32} (h : CS w hs fg) : gR w 7 1 1 = some 3 := by
  obtain ⟨a, b, c, h1⟩ := h.1
  exact gR_ob h1 rfl
theorem TOK.sh {w : MW} {K : List Nat} (h : TOK w K) : TSh w := by
  obtain ⟨ar, rt, t, -⟩ := h
  exact t.sh
theorem TOK.cl {α : Type} {w : MW} {K : List Nat} (h : TOK w K) (x : Option α) : cl w 8 3 x = x := by
  obtain ⟨ar, rt, t, -⟩ := h
  exact t.cl x
theorem Sc.tree {w w' : MW} (h : Sc w) (C : Chg tKs w w') (T : TSh w') : Sc w' := by
  obtain ⟨z1, ⟨a, b, c, d, e, z2⟩, ⟨f, z3⟩, z4, ⟨g, z5⟩⟩ := h
  exact ⟨T, ⟨a, b, c, d, e, C.at (by simp) z2⟩, ⟨f, C.at (by simp) z3⟩, C.at (by simp) z4, ⟨g, C.at (by simp) z5⟩⟩
theorem treeOf_ok {fu : Nat} (hfu : 100 ≤ fu) {w : MW} {s : AS} (h : CS w s.1 s.2) (Z : Sc w) (O : ∀ q, q < 8 → SOK (s.1 q)) {i : Nat} (hi : i < 8) : ∃ w', f_X7_treeOf fu w 1 (13 + 2 * i) = some (3, w') ∧ TOK w' (kys (s.1 i)) ∧ CS w' s.1 s.2 ∧ Sc w' ∧ Chg tKs w w' := by
  have S := O i hi
  have hk := kys_ok S
  have e1 := gK_none (kys (s.1 i)) hk.2.1
  obtain ⟨w', g1, g2, g3⟩ := grow_ok hfu S (by omega) (by omega) (v2 := -1) (v3 := -1) none (fun m hm => by simp at hm) (fun _ => rfl) (h.ha hi) Z.1 (by rw [e1]; exact hk)
  rw [e1] at g2
  obtain ⟨⟨a, b, t1⟩, -⟩ := Z.1
  have C1 := h.chg g3 (fun k hk => by simp at hk; omega)
  refine ⟨w', ?_, g2, C1, Z.tree g3 g2.sh, g3⟩
  rw [f_X7_treeOf, h.tr, some_bind', cl_ob t1, g1, some_bind', C1.tr, some_bind']
theorem imin_n {a b : Nat} (ha : a < 2 ^ 31) (hb : b < 2 ^ 31) : imin (nI a) (nI b) = nI (min a b) := by
  unfold imin
  by_cases h : b < a
  · rw [if_pos (nI_lt h ha), Nat.min_eq_right (by omega)]
  · rw [if_neg (nI_nlt (by omega) hb), Nat.min_eq_left (by omega)]
theorem isNode_in {w : MW} {K : List Nat} (T : TOK w K) {i : Nat} (hi : i < K.length) (hl : K.length ≤ 61) : f_X8_isNode w 3 (nI i) = some 1 := by
  obtain ⟨ar, rt, t, -⟩ := T
  rw [f_X8_isNode, if_neg (nI_pos (by omega)), t.siz, some_bind', if_neg (nI_ge hi (by omega))]
theorem isNode_m1 {w : MW} : f_X8_isNode w 3 (-1) = some 0 := by
  rw [f_X8_isNode, if_pos (by decide)]
theorem steps_loop {fu : Nat} {w : MW} {K : List Nat} (T : TOK w K) (O : KO K) {i j hi : Nat} (h1 : i < K.length) (h2 : j < K.length) (h3 : hi < K.length) {a : Nat} (ha : a ≤ hi) (hm : ∀ z, z ≤ hi → a ≤ z → dep (pF K) K.length a ≤ dep (pF K) K.length z) : ∀ N k m, m < 100 → dep (pF K) K.length a ≤ m → (∀ z, k ≤ z → z ≤ hi → dep (pF K) K.length a ≤ dep (pF K) K.length z) → (k ≤ a ∨ m = dep (pF K) K.length a) → k ≤ hi + 1 → hi + 1 - k < N → f_X8_steps_39 fu w N 3 (nI i) (nI j) (nI m) (nI hi) (nI k) = some (nI (dep (pF K) K.length i + dep (pF K) K.length j) - nI (2 * dep (pF K) K.length a)) := by
  have h61 := O.2.2
  obtain ⟨ar, rt, t, t1, t2, t3⟩ := id T
  intro N
  induction N with
  | zero => intro k m _ _ _ _ _ hN; omega
  | succ N ih =>
    intro k m hm100 hma hall hor hk hN
    rw [f_X8_steps_39]
    by_cases c : hi < k
    · have em : m = dep (pF K) K.length a := by omega
      rw [if_pos (nI_lt c (by omega)), t.r4, some_bind', t.a4 (by omega), some_bind', some_bind', t.a4 (by omega), some_bind', (t2 i h1).2.2.2.1, (t2 j h2).2.2.2.1, nI_add, show (2 : Int32) = nI 2 from rfl, nI_mul, em]
    · have hkl : k < K.length := by omega
      have hd := dep_lt (P := pF K) hkl
      rw [if_neg (nI_nlt (by omega) (by omega)), t.r4, some_bind', t.a4 (by omega), some_bind', (t2 k hkl).2.2.2.1, bnd_eq, bnd_eq, nI_1, imin_n (by omega) (by omega)]
      have hka := hall k (Nat.le_refl _) (by omega)
      refine ih (k + 1) _ (by omega) (by omega) (fun z z1 z2 => hall z (by omega) z2) ?_ (by omega) (by omega)
      rcases hor with q | q
      · rcases Nat.lt_or_ge k a with q2 | q2
        · exact Or.inl q2
        · have : k = a := by omega
          subst this
          exact Or.inr (by omega)
      · exact Or.inr (by omega)
theorem argm_dep {K : List Nat} (O : KO K) {f e a : Nat} (he : e ≤ K.length) (h : ArgM (pF K) f e a) {z : Nat} (h1 : f ≤ z) (h2 : z < e) : dep (pF K) K.length a ≤ dep (pF K) K.length z := by
  obtain ⟨a1, a2, a3⟩ := h
  exact dep_mono (fun i j hi hj e => O.inj hi hj e) (by omega) (by omega) (fun y hy => a3 y (by omega) (by omega))
theorem steps_ok {fu : Nat} (hfu : 200 ≤ fu) {w : MW} {K : List Nat} (T : TOK w K) (O : KO K) {i j a : Nat} (h1 : i < K.length) (h2 : j < K.length) (hA : ArgM (pF K) (min i j) (max i j + 1) a) : f_X8_steps fu w 3 (nI i) (nI j) = some (nI (dep (pF K) K.length i + dep (pF K) K.length j) - nI (2 * dep (pF K) K.length a)) := by
  have h61 := O.2.2
  have hd := dep_lt (P := pF K) h1
  have hmin := fun z z1 z2 => argm_dep O (show max i j + 1 ≤ K.length by omega) hA (z := z) z1 z2
  rw [f_X8_steps, T.cl, isNode_in T h1 h61, some_bind', if_neg (by decide), T.cl, isNode_in T h2 h61, some_bind', if_neg (by decide)]
  obtain ⟨ar, rt, t, t1, t2, t3⟩ := id T
  rw [t.r4, some_bind', t.a4 (by omega), some_bind', (t2 i h1).2.2.2.1, bnd_eq, bnd_eq, bnd_eq, imax_n (by omega) (by omega), imin_n (by omega) (by omega)]
  have a1 := hA.1
  have a2 := hA.2.1
  exact steps_loop T O h1 h2 (by omega) (by omega) (fun z z1 z2 => hmin z (by omega) (by omega)) fu (min i j) _ (by omega) (hmin i (by omega) (by omega)) (fun z z1 z2 => hmin z z1 (by omega)) (Or.inl a1) (by omega) (by omega)
end
section
section M
variable {C : MW} {v : Int64} {fu : Nat}
theorem laysRow_loop {b : Nat} {s : AS} {i : Nat} (hi : i < 8) {F : Nat → Int32} (h11 : F 11 = nI (s.1 i).length) : ∀ N k ar, MB C F ar b s → (∀ j, j < k → ar 4 j = nI (nth (s.1 i) j / 2)) → k ≤ (s.1 i).length → (s.1 i).length - k < N → ∃ g, f_X11_laysRow_11 fu N (mW C F v ar) 123 (nI i) (nI k) = some (mW C F v (ua ar 4 g)) ∧ (∀ j, j < (s.1 i).length → g j = nI (nth (s.1 i) j / 2)) := by
  intro N
  induction N with
  | zero => intro k ar _ _ _ hN; omega
  | succ N ih =>
    intro k ar B hr hk hN
    have l1 := (B.2.2.2.2 i hi).len
    rw [f_X11_laysRow_11, m_gI B.1 _ v ar 11 rfl, some_bind', h11]
    by_cases c : (s.1 i).length ≤ k
    · rw [if_pos (nI_le c (by omega))]
      exact ⟨ar 4, by rw [ua_self], fun j hj => hr j (by omega)⟩
    · have B1 : MB C F (ua ar 4 (upd (ar 4) k (nI (nth (s.1 i) k / 2)))) b s := B.F B.1 rfl (by rw [ua_ne _ _ (by omega)]; exact B.2.2.2.1) B.2.2.2.2
      obtain ⟨g, k1, k2⟩ := ih (k + 1) _ B1 (fun j hj => by
        rw [ua_eq]
        by_cases q : j = k
        · rw [q, upd_eq]
        · rw [upd_ne _ _ q]; exact hr j (by omega)) (by omega) (by omega)
      rw [if_neg (nI_ge (by omega) (by omega)), m_gR B.1 _ v ar 10 rfl, some_bind', B.cl, B.key hi (by omega), some_bind', m_s4 B.1 _ v ar _ (by omega), some_bind', bnd_eq, nI_1, k1, ua_ua]
      exact ⟨g, rfl, k2⟩
theorem laysRow_ok {b : Nat} {s : AS} {i : Nat} (hi : i < 8) {F : Nat → Int32} {ar : Nat → Nat → Int32} (hfu : 100 ≤ fu) (B : MB C F ar b s) : ∃ g, f_X11_laysRow fu (mW C F v ar) 123 (nI i) = some (mW C (upd F 11 (nI (s.1 i).length)) v (ua ar 4 g)) ∧ RH (ua ar 4 g) (kys (s.1 i)) ∧ MB C (upd F 11 (nI (s.1 i).length)) (ua ar 4 g) b s := by
  have l1 := (B.2.2.2.2 i hi).len
  have B1 : MB C (upd F 11 (nI (s.1 i).length)) ar b s := B.F B.1 (upd_ne _ _ (by omega)) B.2.2.2.1 B.2.2.2.2
  obtain ⟨g, g1, g2⟩ := laysRow_loop (v := v) (fu := fu) hi (upd_eq _ _ _) fu 0 ar B1 (fun j hj => by omega) (by omega) (by omega)
  refine ⟨g, ?_, fun j hj => ?_, B1.F B1.1 rfl (by rw [ua_ne _ _ (by omega)]; exact B1.2.2.2.1) B1.2.2.2.2⟩
  · rw [f_X11_laysRow, B.cl, B.many hi, some_bind', m_p B.1 _ v ar 11 (by omega) mFw.2.2.2.2, some_bind', bnd_eq]
    exact g1
  · rw [kys_len] at hj
    rw [ua_eq, g2 j hj, kys_nth hj]
end M
/-- where one seeks to -/
def skR (L : List Nat) (k : Nat) : Nat := nab L (nI k) - 1
def xSeek (s : AS) (i k : Nat) (x : Int32) : Int32 × AS := if (s.1 i).length = 0 then (-2, s) else (x, (s.1, va_up s.2 i (nI (nth (s.1 i) (skR (s.1 i) k) / 2))))
theorem skR_lt {L : List Nat} {k : Nat} (h : 0 < L.length) : skR L k < L.length := by
  unfold skR
  have := nab_le L (nI k)
  omega
theorem mseek_act {fu : Nat} {a b : Int32} : (fun w => f_X11_seek fu w 123 a b) = mactOf (fun w => if (f_X11_isSet a) = 0 then some 1 else if (f_X11_isKey b) = 0 then some 1 else (cl w 11 123 (f_X11_many w 123 a)).bind fun q => if q = 0 then some 2 else some 0) (fun w => (cl w 11 123 (f_X11_below fu w 123 a (b + (1 : Int32)))).bind fun q5 => bnd (q5 - (1 : Int32)) fun x8 => if 0 ≤ x8 then f_X11_seek_66 fu w 123 a x8 else f_X11_seek_66 fu w 123 a (0 : Int32)) fu := by
  funext w
  unfold f_X11_seek mactOf f_X11_seek_32
  rcases cl_cases w 11 123 with h | h
  · simp only [h]
    by_cases c1 : f_X11_isSet a = 0
    · rw [if_pos c1, if_pos c1]; rfl
    · rw [if_neg c1, if_neg c1]
      by_cases c2 : f_X11_isKey b = 0
      · rw [if_pos c2, if_pos c2]; rfl
      · rw [if_neg c2, if_neg c2]
        rcases f_X11_many w 123 a with _ | q
        · rfl
        · rw [some_bind', some_bind']
          by_cases c3 : q = 0
          · rw [if_pos c3, if_pos c3]; rfl
          · rw [if_neg c3, if_neg c3]; rfl
  · simp only [h]
    by_cases c1 : f_X11_isSet a = 0
    · rw [if_pos c1]; rfl
    · rw [if_neg c1]
      by_cases c2 : f_X11_isKey b = 0
      · rw [if_pos c2]; rfl
      · rw [if_neg c2]; rfl
theorem fg_plc {L : List Nat} (S : SOK L) {e : Nat} (he : e ∈ L) : ∃ p, p < L.length ∧ plc L (nI (e / 2)) = nI p ∧ nth L p / 2 = e / 2 := by
  have hb := S.2.1 e he
  have hne : ¬ plc L (nI (e / 2)) = -1 := fun q => (plc_iff S (by omega)).mp q e he rfl
  obtain ⟨h1, h2⟩ := plc_ne hne
  have h3 := key_eq S hne
  have h4 := S.lt h1
  exact ⟨_, h1, h2, (nI_eq (by omega) (by omega)).mp h3⟩
section R
variable {C : MW} {F : Nat → Int32} {v : Int64} {ar : Nat → Nat → Int32} {s : AS} {V : List AS} {n : Nat} {fu : Nat}
theorem seek_fin {u : MW} (hu : CS u s.1 s.2) (O : ∀ q, q < 8 → SOK (s.1 q)) {i k : Nat} (hi : i < 8) (h0 : 0 < (s.1 i).length) (x : Int32) : ∃ u', f_X7_seekFrom_72 fu u (13 + 2 * i) (nI (skR (s.1 i) k)) x = some (x, u') ∧ CS u' s.1 (va_up s.2 i (nI (nth (s.1 i) (skR (s.1 i) k) / 2))) ∧ Chg hpl u u' := by
  have S := O i hi
  have H := hu.ha hi
  have hr := skR_lt (k := k) h0
  obtain ⟨hne, h1, xs, h2, h3⟩ := id H
  have c1 := Chg.st (ks := [13 + 2 * i, 14 + 2 * i]) u (a := 13 + 2 * i) (.inr (0, [.ref (14 + 2 * i), .int (nI (s.1 i).length), .int (nI (nth (s.1 i) (skR (s.1 i) k) / 2))])) List.mem_cons_self
  have H2 : HA (u.set (13 + 2 * i) (.inr (0, [.ref (14 + 2 * i), .int (nI (s.1 i).length), .int (nI (nth (s.1 i) (skR (s.1 i) k) / 2))]))) (13 + 2 * i) (14 + 2 * i) (s.1 i) (nI (nth (s.1 i) (skR (s.1 i) k) / 2)) := ⟨hne, get_set_eq h1, xs, by rw [get_set_ne hne]; exact h2, h3⟩
  refine ⟨_, ?_, (hu.put hi H2 c1).ext (fun t ht => ⟨?_, rfl⟩), c1.mono (hpl_in hi)⟩
  · rw [f_X7_seekFrom_72, bnd_eq, H.cl, keyAt_in H S hr, some_bind', pV_ob h1 (by simp), some_bind']
    rfl
  · by_cases q : t = i
    · rw [q, vu_eq]
    · rw [vu_ne _ _ q]
theorem tk_31 : ∀ k, k ∈ tKs ++ hpl → 1 ≤ k ∧ k < 31 := by decide
theorem seek_res (G : Good C F v ar s V n) (hfu : 20000 ≤ fu) (a b : Int32) : ∃ s' V', Res C F ar s' V' (f_X10_seek fu (mW C F v ar) 0 a b) (fun w => f_X11_seek fu w 123 a b) := by
  have e1 : f_X10_seek fu (mW C F v ar) 0 a b = actOf (fun w p => f_X7_seekFrom fu w p a b) fu (mW C F v ar) := rfl
  rw [e1, mseek_act]
  have B := G.1.mb
  have O := G.1.2.2.2.1
  have FO := G.2.2.1
  have hfu2 : 100 ≤ fu := by omega
  have hfu3 : 200 ≤ fu := by omega
  rcases set_cases a with ⟨i, hi, rfl⟩ | ha
  · rcases key_cases b with ⟨k, hk, rfl⟩ | hb
    · have S := O.1 i hi
      have l1 := S.len
      have KK := kys_ok S
      have hnb := nab_le (s.1 i) (nI k)
      have hinj : ∀ p q, p < (kys (s.1 i)).length → q < (kys (s.1 i)).length → pF (kys (s.1 i)) p = pF (kys (s.1 i)) q → p = q := fun p q hp hq e => KK.inj hp hq e
      by_cases h0 : (s.1 i).length = 0
      · -- nothing to be done
        have ex : ∀ x, xSeek s i k x = (-2, s) := fun x => by unfold xSeek; rw [if_pos h0]
        have := act_res (x := -2) (s' := s) (ks := []) G hfu O id (by simp) (f := fun w p => f_X7_seekFrom fu w p (nI i) (nI k)) (fun u hu hz => ⟨u, by
          rw [f_X7_seekFrom, hu.cl, heapAt_in hu hi, some_bind']
          dsimp only
          rw [isKey_in hk, if_neg (by decide), gI_ob (hu.ha hi).2.1 rfl, some_bind', if_pos ((nI_eq0 (by omega)).mpr h0)], hu, hz, Chg.rf _ _⟩) (fun _ => ⟨rfl, by simp⟩) (R := fun w => if (f_X11_isSet (nI i)) = 0 then some 1 else if (f_X11_isKey (nI k)) = 0 then some 1 else (cl w 11 123 (f_X11_many w 123 (nI i))).bind fun q => if q = 0 then some 2 else some 0) (D := fun w => (cl w 11 123 (f_X11_below fu w 123 (nI i) (nI k + (1 : Int32)))).bind fun q5 => bnd (q5 - (1 : Int32)) fun x8 => if 0 ≤ x8 then f_X11_seek_66 fu w 123 (nI i) x8 else f_X11_seek_66 fu w 123 (nI i) (0 : Int32)) (fun C' hC' => by
            have B1 : MB C' F ar 0 s := B.F hC' rfl B.2.2.2.1 O.1
            rw [mSet_in hi, mKey_in hk, if_neg (by decide), if_neg (by decide), B1.cl, B1.many hi, some_bind', if_pos ((nI_eq0 (by omega)).mpr h0), if_pos (by decide)]
            rfl) (fun c => absurd (by decide) c)
        exact ⟨_, _, this⟩
      · have h0' : 0 < (s.1 i).length := by omega
        have hr := skR_lt (k := k) h0'
        -- the place that one comes from, and the answer
        obtain ⟨p, hp, hpf⟩ : ∃ p, p < (s.1 i).length ∧ ((s.2 i = -1 ∧ p = skR (s.1 i) k) ∨ (¬ s.2 i = -1 ∧ plc (s.1 i) (s.2 i) = nI p)) := by
          rcases FO i hi with q | ⟨e, he, q⟩
          · exact ⟨_, hr, Or.inl ⟨q, rfl⟩⟩
          · obtain ⟨p, p1, p2, p3⟩ := fg_plc S he
            have hb := S.2.1 e he
            exact ⟨p, p1, Or.inr ⟨by rw [q]; exact m1_ne _ (by omega), by rw [q]; exact p2⟩⟩
        obtain ⟨m, hm⟩ := argm_ex (pF (kys (s.1 i))) (min p (skR (s.1 i) k)) (max p (skR (s.1 i) k) + 1) (by omega)
        have hkl := kys_len (s.1 i)
        have d1 := argm_dep KK (show max p (skR (s.1 i) k) + 1 ≤ (kys (s.1 i)).length by omega) hm (z := p) (by omega) (by omega)
        have d2 := argm_dep KK (show max p (skR (s.1 i) k) + 1 ≤ (kys (s.1 i)).length by omega) hm (z := skR (s.1 i) k) (by omega) (by omega)
        have d3 := dep_lt (P := pF (kys (s.1 i))) (show p < (kys (s.1 i)).length by omega)
        have d4 := dep_lt (P := pF (kys (s.1 i))) (show skR (s.1 i) k < (kys (s.1 i)).length by omega)
        obtain ⟨x, hx⟩ : ∃ x, x = nI (dep (pF (kys (s.1 i))) (kys (s.1 i)).length p + dep (pF (kys (s.1 i))) (kys (s.1 i)).length (skR (s.1 i) k)) - nI (2 * dep (pF (kys (s.1 i))) (kys (s.1 i)).length m) := ⟨_, rfl⟩
        have hx0 : ¬ x < 0 := by rw [hx, nI_sub (by omega)]; exact nI_pos (by omega)
        have hx1 : s.2 i = -1 → x = 0 := fun q => by
          rcases hpf with ⟨_, q2⟩ | ⟨q2, _⟩
          · subst q2
            have : m = skR (s.1 i) k := by have h1 := hm.1; have h2 := hm.2.1; omega
            rw [hx, this, nI_sub (by omega)]
            rw [show ∀ d : Nat, d + d - 2 * d = 0 from fun d => by omega]
            rfl
          · exact absurd q q2
        refine ⟨(s.1, va_up s.2 i (nI (nth (s.1 i) (skR (s.1 i) k) / 2))), _, act_res (s' := (s.1, va_up s.2 i (nI (nth (s.1 i) (skR (s.1 i) k) / 2)))) (x := x) (ks := tKs ++ hpl) G hfu O (fun _ j hj => ?_) tk_31 (fun u hu hz => ?_) (fun q => absurd q hx0) (fun C' hC' => ?_) (fun _ C' F' al hC' hF hM => ?_)⟩
        · by_cases q : j = i
          · subst q
            simp only [vu_eq]
            exact Or.inr ⟨_, nth_mem hr, rfl⟩
          · simp only [vu_ne _ _ q]; exact FO j hj
        · -- the class
          have H := hu.ha hi
          have pre : f_X7_seekFrom fu u 1 (nI i) (nI k) = if s.2 i = -1 then f_X7_seekFrom_72 fu u (13 + 2 * i) (nI (skR (s.1 i) k)) 0 else (cl u 7 1 (f_X7_treeOf fu u 1 (13 + 2 * i))).bind fun q11 => (gI q11.2 0 (13 + 2 * i) 2).bind fun x14 => (cl q11.2 0 (13 + 2 * i) (f_X0_rankOf fu q11.2 (13 + 2 * i) x14)).bind fun q15 => (cl q11.2 8 q11.1 (f_X8_steps fu q11.2 q11.1 q15 (nI (skR (s.1 i) k)))).bind fun q18 => f_X7_seekFrom_72 fu q11.2 (13 + 2 * i) (nI (skR (s.1 i) k)) q18 := by
            rw [f_X7_seekFrom, hu.cl, heapAt_in hu hi, some_bind']
            dsimp only
            rw [isKey_in hk, if_neg (by decide), gI_ob H.2.1 rfl, some_bind', if_neg (fun q => h0 ((nI_eq0 (by omega)).mp q)), H.cl, notAbove_ok H S hfu2, some_bind', bnd_eq, gI_ob H.2.1 rfl, some_bind', show (1 : Int32) = nI 1 from rfl, imax0 (by omega) (by omega)]
            rfl
          dsimp only
          rw [pre]
          by_cases q : s.2 i = -1
          · rw [if_pos q, hx1 q]
            obtain ⟨u', g1, g2, g3⟩ := seek_fin (fu := fu) hu O.1 hi (k := k) h0' 0
            exact ⟨u', g1, g2, hz.hp g3, g3.mono (fun k hk => List.mem_append_right _ hk)⟩
          · obtain ⟨u1, k1, k2, k3, k4, k5⟩ := treeOf_ok hfu2 hu hz O.1 hi
            obtain ⟨u', g1, g2, g3⟩ := seek_fin (fu := fu) k3 O.1 hi (k := k) h0' x
            have hpp : plc (s.1 i) (s.2 i) = nI p := by
              rcases hpf with ⟨q2, _⟩ | ⟨_, q2⟩
              · exact absurd q2 q
              · exact q2
            rw [if_neg q, hu.cl, k1, some_bind', gI_ob (k3.ha hi).2.1 rfl, some_bind', (k3.ha hi).cl, rankOf_ok (k3.ha hi) S hfu2, some_bind', hpp, k2.cl, steps_ok hfu3 k2 KK (by omega) (by omega) hm, some_bind', ← hx]
            exact ⟨u', g1, g2, k4.hp g3, (k5.mono (fun k hk => List.mem_append_left _ hk)).tr (g3.mono (fun k hk => List.mem_append_right _ hk))⟩
        · have B1 : MB C' F ar 0 s := B.F hC' rfl B.2.2.2.1 O.1
          rw [mSet_in hi, mKey_in hk, if_neg (by decide), if_neg (by decide), B1.cl, B1.many hi, some_bind', if_neg (fun q => h0 ((nI_eq0 (by omega)).mp q)), if_neg hx0]
        · -- the model
          have B1 : MB C' F' (ua ar 0 al) 0 s := B.F hC' (hF 9 (by omega)) (by rw [ua_eq]; exact hM) O.1
          have hM1 : M8 (upd al (0 + 122 * i + 1) (nI (nth (s.1 i) (skR (s.1 i) k) / 2))) 0 (s.1, va_up s.2 i (nI (nth (s.1 i) (skR (s.1 i) k) / 2))) := by
            have hMi := hM i hi
            have := hM.put O.1 hi (L := s.1 i) (f := nI (nth (s.1 i) (skR (s.1 i) k) / 2)) (al' := upd al (0 + 122 * i + 1) (nI (nth (s.1 i) (skR (s.1 i) k) / 2))) ⟨by rw [upd_ne _ _ (by omega)]; exact hMi.1, upd_eq _ _ _, fun j hj => by rw [upd_ne _ _ (by omega), upd_ne _ _ (by omega)]; exact hMi.2.2 j hj⟩ (fun q hq => upd_ne _ _ (by omega))
            have e : va_up s.1 i (s.1 i) = s.1 := by
              funext t; by_cases q : t = i
              · rw [q, vu_eq]
              · rw [vu_ne _ _ q]
            rw [e] at this
            exact this
          have B2 : MB C' F' (ua (ua ar 0 al) 0 (upd al (0 + 122 * i + 1) (nI (nth (s.1 i) (skR (s.1 i) k) / 2)))) 0 (s.1, va_up s.2 i (nI (nth (s.1 i) (skR (s.1 i) k) / 2))) := B1.F hC' rfl (by rw [ua_eq]; exact hM1) O.1
          obtain ⟨g, k1, k2, k3⟩ := laysRow_ok (v := v) hi hfu2 B2
          obtain ⟨F2, m', k4, k5, k6⟩ := mfar_ok (v := v) (F := upd F' 11 (nI (s.1 i).length)) hC' hfu3 KK k2 (by rw [upd_eq, hkl]) (i := p) (j := skR (s.1 i) k) (by omega) (by omega)
          have em : m' = m := argm_u hinj (by omega) k5 hm
          rw [em, ← hx] at k4
          have fin : f_X11_seek_92 fu (mW C' F' v (ua ar 0 al)) 123 (nI i) (nI (skR (s.1 i) k)) (nI p) = some (x, mW C' F2 v (ua (ua (ua ar 0 al) 0 (upd al (0 + 122 * i + 1) (nI (nth (s.1 i) (skR (s.1 i) k) / 2)))) 4 g)) := by
            rw [f_X11_seek_92, bnd_eq, B1.cl, B1.key hi hr, some_bind', B1.cl, mpoints_ok B1.1 B1.2.1 B1.2.2.1 hi, some_bind', ua_eq, B2.cl, k1, some_bind', k3.cl, k4, some_bind']
          refine ⟨F2, v, ua (ua (ua ar 0 al) 0 (upd al (0 + 122 * i + 1) (nI (nth (s.1 i) (skR (s.1 i) k) / 2)))) 4 g, ?_, by rw [ua_ne _ _ (by omega), ua_eq]; exact hM1, fun q hq => by rw [ua_ne _ _ (by omega), ua_eq, upd_ne _ _ (by omega)], fun k hk => by rw [k6 k (by omega), upd_ne _ _ (by omega)], fun k h1 h2 => by rw [ua_ne _ _ (by omega), ua_ne _ _ (by omega), ua_ne _ _ (by omega)]⟩
          have hsk : ∀ y, y = nI (skR (s.1 i) k) → f_X11_seek_66 fu (mW C' F' v (ua ar 0 al)) 123 (nI i) y = some (x, mW C' F2 v (ua (ua (ua ar 0 al) 0 (upd al (0 + 122 * i + 1) (nI (nth (s.1 i) (skR (s.1 i) k) / 2)))) 4 g)) := by
            intro y hy
            subst hy
            rw [f_X11_seek_66, bnd_eq, B1.cl, B1.finger hi, some_bind']
            rcases hpf with ⟨q1, q2⟩ | ⟨q1, q2⟩
            · rw [if_pos q1, ← fin, q2]
            · rw [if_neg q1, some_bind', B1.cl, B1.place hi hfu2, some_bind', q2, fin]
          rw [nI_1, B1.cl, B1.below hi hfu2, some_bind', bnd_eq, bel_succ S hk, mI_sub]
          rcases Nat.eq_zero_or_pos (nab (s.1 i) (nI k)) with q | q
          · rw [q, mI_0, if_neg (by decide)]
            exact hsk _ (by unfold skR; rw [q]; rfl)
          · obtain ⟨z, hz⟩ : ∃ z, nab (s.1 i) (nI k) = z + 1 := ⟨nab (s.1 i) (nI k) - 1, by omega⟩
            rw [hz, mI_s, if_pos (nI_pos' (by omega))]
            exact hsk _ (by unfold skR; rw [hz]; rfl)
    · refine ⟨_, _, act_bad G hfu (fun u hu => ?_) (fun C' hC' => ?_)⟩
      · rw [f_X7_seekFrom, hu.cl, heapAt_in hu hi, some_bind']
        dsimp only
        rw [isKey_out hb, if_pos rfl]
      · rw [mSet_in hi, mKey_out hb, if_neg (by decide), if_pos rfl]
  · refine ⟨_, _, act_bad G hfu (fun u hu => ?_) (fun C' hC' => ?_)⟩
    · rw [f_X7_seekFrom, hu.cl, heapAt_out ha, some_bind']
    · rw [mSet_out ha, if_pos rfl]
end R
end
section
/-! what is only asked -/
section Q
variable {C : MW} {F : Nat → Int32} {v : Int64} {ar : Nat → Nat → Int32} {s : AS} {V : List AS} {n : Nat} {fu : Nat}
theorem good_q (G : Good C F v ar s V n) {w' : MW} {ks : List Nat} (Q : Chg ks (mW C F v ar) w') (hk : ∀ k, k ∈ ks → 1 ≤ k ∧ k < 31) (h : CS w' s.1 s.2) (Z : Sc w') : ∃ C1, w' = mW C1 F v ar ∧ C1.length = 123 ∧ Good C1 F v ar s V n ∧ ∀ k, k ∉ actKs → C1[k]? = C[k]? := by
  obtain ⟨⟨hC, T, h0, O, P, M, U, h8, h9⟩, Z0, FO, FV⟩ := G
  obtain ⟨C1, b1, b2, b3⟩ := mW_chg hC Q (fun k hk' => by have := hk k hk'; omega)
  have T1 := T.chg Q (fun hk' => by have := hk 0 hk'; omega)
  have P1 := P.chg Q (fun k hk' => by have := hk k hk'; omega)
  subst b2
  exact ⟨C1, rfl, b1, ⟨⟨b1, T1, h, O, P1, M, U, h8, h9⟩, Z, FO, FV⟩, fun k hk' => b3 k (fun q => hk' (by have := hk k q; rw [actKs_iff]; omega))⟩
theorem Good.cl {α : Type} (G : Good C F v ar s V n) (x : Option α) : cl (mW C F v ar) 10 0 x = x := by
  obtain ⟨a, b, h⟩ := G.1.2.1
  exact cl_ob h x
theorem Good.st (G : Good C F v ar s V n) : gR (mW C F v ar) 10 0 0 = some 1 := by
  obtain ⟨a, b, h⟩ := G.1.2.1
  exact gR_ob h rfl
theorem q_res {C1 : MW} (G1 : Good C1 F v ar s V n) (hC : ∀ k, k ∉ actKs → C1[k]? = C[k]?) {p : Option (Int32 × MW)} {q : MW → Option (Int32 × MW)} {x : Int32} {F' : Nat → Int32} {v' : Int64} {ar' : Nat → Nat → Int32} (hp : p = some (x, mW C1 F v ar)) (hq : q (mW C1 F v ar) = some (x, mW C1 F' v' ar')) (hF : ∀ k, k < 11 ∨ 22 < k → F' k = F k) (ha : ∀ k, k < 4 → ar' k = ar k) : Res C F ar s V p q := by
  obtain ⟨⟨c1, T, h, O, P, M, U, h8, h9⟩, Z, FO, FV⟩ := G1
  refine ⟨x, _, C1, F', v', ar', n, hp, hq, m_cl c1 _ _ _ _, ⟨⟨c1, T.m c1 _ _ _, h.m c1 _ _ _, O, P.m c1 _ _ _, ?_, ?_, ?_, ?_⟩, Z.m c1 _ _ _, FO, FV⟩, hC, fun k hk => hF k (by omega), fun k h1 h2 => ha k h2, fun q hq => by rw [ha 0 (by omega)]⟩
  · rw [ha 0 (by omega)]; exact M
  · rw [ha 0 (by omega)]; exact U
  · rw [hF 8 (by omega)]; exact h8
  · rw [hF 9 (by omega)]; exact h9
theorem hpa_in (G : Good C F v ar s V n) {i : Nat} (hi : i < 8) : (gR (mW C F v ar) 10 0 0).bind (fun x1 => cl (mW C F v ar) 7 x1 (f_X7_heapAt (mW C F v ar) x1 (nI i))) = some (some (13 + 2 * i)) := by
  rw [G.st, some_bind', G.1.2.2.1.cl, heapAt_in G.1.2.2.1 hi]
/-- KEY -/
theorem key_res (G : Good C F v ar s V n) (a b : Int32) : ∃ x, f_X10_key (mW C F v ar) 0 a b = some x ∧ f_X11_key (mW C F v ar) 123 a b = some x := by
  have h := G.1.2.2.1
  have B := G.1.mb
  have O := G.1.2.2.2.1
  rw [f_X10_key, f_X11_key, G.st, some_bind', h.cl]
  rcases set_cases a with ⟨i, hi, rfl⟩ | ha
  · have S := O.1 i hi
    have l1 := S.len
    rw [heapAt_in h hi, some_bind', mSet_in hi, if_neg (by decide), B.cl, B.many hi, some_bind']
    dsimp only
    rw [(h.ha hi).cl]
    by_cases c : b < 0
    · rw [keyAt_neg c, some_bind', f_X11_isIn, if_pos c, if_pos rfl]
      exact ⟨-1, rfl, rfl⟩
    · obtain ⟨j, hj, rfl⟩ := nI_of c
      by_cases c2 : j < (s.1 i).length
      · rw [keyAt_in (h.ha hi) S c2, some_bind', mI_sub, f_X11_isIn, if_neg c, if_neg (show ¬ mI (s.1 i).length < nI j from fun q => by have := (mI_lt (by omega) (by omega)).mp q; omega), if_neg (show ¬ (1 : Int32) = 0 by decide), B.cl, B.key hi c2, some_bind']
        exact ⟨_, rfl, rfl⟩
      · rw [keyAt_out (h.ha hi) (by omega) hj, some_bind', mI_sub, f_X11_isIn, if_neg c]
        have : mI (s.1 i).length < nI j := by
          rcases Nat.eq_zero_or_pos (s.1 i).length with q | q
          · rw [q, mI_0]; exact m1_lt j hj
          · obtain ⟨z, hz⟩ : ∃ z, (s.1 i).length = z + 1 := ⟨(s.1 i).length - 1, by omega⟩
            rw [hz, mI_s]; exact nI_lt (by omega) hj
        rw [if_pos this, if_pos rfl]
        exact ⟨-1, rfl, rfl⟩
  · rw [heapAt_out ha, some_bind', mSet_out ha, if_pos rfl]
    exact ⟨-1, rfl, rfl⟩
/-- HALVES -/
theorem halves_res (G : Good C F v ar s V n) (a : Int32) : ∃ x, f_X10_halves (mW C F v ar) 0 a = some x ∧ f_X11_halves (mW C F v ar) 123 a = some x := by
  have h := G.1.2.2.1
  have B := G.1.mb
  have O := G.1.2.2.2.1
  rw [f_X10_halves, f_X11_halves, G.st, some_bind', h.cl]
  rcases set_cases a with ⟨i, hi, rfl⟩ | ha
  · have S := O.1 i hi
    have l1 := S.len
    rw [heapAt_in h hi, some_bind', mSet_in hi, if_neg (by decide), B.cl, B.many hi, some_bind']
    dsimp only
    rw [gI_ob (h.ha hi).2.1 rfl, some_bind']
    by_cases c : 2 ≤ (s.1 i).length
    · rw [if_pos (show (2 : Int32) ≤ nI (s.1 i).length from nI_le (a := 2) c (by omega)), if_neg (show ¬ nI (s.1 i).length ≤ (1 : Int32) from nI_ge (a := 1) (by omega) (by omega)), some_bind', nI_1, show (2 : Int32) = nI 2 from rfl, pk_div (by omega) (by omega) (by omega), show (1 : Int32) = nI 1 from rfl, nI_sub (by omega), (h.ha hi).cl, keyAt_in (h.ha hi) S (by omega), some_bind', some_bind', nI_add, pk_div (by omega) (by omega) (by omega), nI_sub (by omega), B.cl, B.key hi (by omega), some_bind']
      exact ⟨_, rfl, rfl⟩
    · rw [if_neg (show ¬ (2 : Int32) ≤ nI (s.1 i).length from nI_ge (b := 2) (by omega) (by omega)), if_pos (show nI (s.1 i).length ≤ (1 : Int32) from nI_le (b := 1) (by omega) (by omega))]
      exact ⟨-1, rfl, rfl⟩
  · rw [heapAt_out ha, some_bind', mSet_out ha, if_pos rfl]
    exact ⟨-1, rfl, rfl⟩
/-- WHERE -/
def whF (hs : Nat → List Nat) (k : Int32) : Nat → Int32 → Nat → Int32
  | i, acc, 0 => acc
  | i, acc, n + 1 => whF hs k (i + 1) (if plc (hs i) k = -1 then acc else acc ||| ((1 : Int32) <<< (nI i &&& 31))) n
theorem cwhere_loop (G : Good C F v ar s V n) (hfu : 100 ≤ fu) (k : Int32) : ∀ N i acc, i ≤ 8 → 8 - i < N → f_X10_where_4 fu (mW C F v ar) N 0 k acc (nI i) = some (whF s.1 k i acc (8 - i)) := by
  have h := G.1.2.2.1
  have O := G.1.2.2.2.1
  intro N
  induction N with
  | zero => intro i acc _ hN; omega
  | succ N ih =>
    intro i acc hi hN
    rw [f_X10_where_4]
    by_cases c : 8 ≤ i
    · rw [if_pos (show (8 : Int32) ≤ nI i from nI_le (a := 8) c (by omega)), show 8 - i = 0 by omega]; rfl
    · have hi8 : i < 8 := by omega
      rw [if_neg (show ¬ (8 : Int32) ≤ nI i from nI_ge (b := 8) hi8 (by omega)), G.st, some_bind', h.arr, some_bind', h.heap hi8, some_bind', (h.ha hi8).cl, rankOf_ok (h.ha hi8) (O.1 i hi8) hfu, some_bind', show 8 - i = (8 - (i + 1)) + 1 by omega]
      by_cases q : plc (s.1 i) k = -1
      · rw [if_pos q, f_X10_where_33, bnd_eq, nI_1, ih (i + 1) acc (by omega) (by omega), whF, if_pos q]
      · rw [if_neg q, bnd_eq, f_X10_where_33, bnd_eq, nI_1, ih (i + 1) _ (by omega) (by omega), whF, if_neg q]
theorem or_zero (x : Int32) : x ||| (0 : Int32) = x := by
  apply Int32.toBitVec_inj.mp
  show x.toBitVec ||| 0#32 = x.toBitVec
  simp
theorem mwhere_loop {b : Nat} (B : MB C F ar b s) (hfu : 100 ≤ fu) (k : Int32) : ∀ N i acc, i ≤ 8 → 8 - i < N → f_X11_where_4 fu (mW C F v ar) N 123 k acc (nI i) = some (whF s.1 k i acc (8 - i)) := by
  intro N
  induction N with
  | zero => intro i acc _ hN; omega
  | succ N ih =>
    intro i acc hi hN
    rw [f_X11_where_4]
    by_cases c : 8 ≤ i
    · rw [if_pos (show (8 : Int32) ≤ nI i from nI_le (a := 8) c (by omega)), show 8 - i = 0 by omega]; rfl
    · have hi8 : i < 8 := by omega
      rw [if_neg (show ¬ (8 : Int32) ≤ nI i from nI_ge (b := 8) hi8 (by omega)), B.cl, B.place hi8 hfu, some_bind', show 8 - i = (8 - (i + 1)) + 1 by omega]
      by_cases q : plc (s.1 i) k = -1
      · rw [if_pos q, f_X11_where_28, bnd_eq, bnd_eq, nI_1, or_zero, ih (i + 1) acc (by omega) (by omega), whF, if_pos q]
      · rw [if_neg q, f_X11_where_28, bnd_eq, bnd_eq, nI_1, ih (i + 1) _ (by omega) (by omega), whF, if_neg q]
theorem mwhere_ok {b : Nat} (B : MB C F ar b s) (hfu : 100 ≤ fu) (k : Int32) : f_X11_where fu (mW C F v ar) 123 k = some (whF s.1 k 0 0 8) := by
  rw [f_X11_where, bnd_eq, bnd_eq]
  exact mwhere_loop B hfu k fu 0 0 (by omega) (by omega)
theorem where_res (G : Good C F v ar s V n) (hfu : 100 ≤ fu) (k : Int32) : ∃ x, f_X10_where fu (mW C F v ar) 0 k = some x ∧ f_X11_where fu (mW C F v ar) 123 k = some x := by
  refine ⟨_, ?_, mwhere_ok G.1.mb hfu k⟩
  rw [f_X10_where, bnd_eq, bnd_eq]
  exact cwhere_loop G hfu k fu 0 0 (by omega) (by omega)
/-- WITHIN -/
def wiG (x y : Int32) (m : Int32) (L : List Nat) (j : Nat) : Nat := if (x ≤ nI (nth L j / 2) ∧ nI (nth L j / 2) ≤ y) ∧ (m = 0 ∨ nth L j % 2 = 1) then 1 else 0
theorem mwithin_loop {b : Nat} (B : MB C F ar b s) {i : Nat} (hi : i < 8) (x y m : Int32) : ∀ N k acc, k ≤ (s.1 i).length → (s.1 i).length - k < N → f_X11_within_15 fu (mW C F v ar) N 123 (nI i) x y m (nI acc) (nI k) = some (nI (acc + smF (wiG x y m (s.1 i)) k (s.1 i).length)) := by
  have l1 := (B.2.2.2.2 i hi).len
  intro N
  induction N with
  | zero => intro k acc _ hN; omega
  | succ N ih =>
    intro k acc hk hN
    rw [f_X11_within_15, B.cl, B.many hi, some_bind']
    by_cases c : (s.1 i).length ≤ k
    · rw [if_pos (nI_le c (by omega)), smF_end _ c]; rfl
    · have hk' : k < (s.1 i).length := by omega
      have nx : ∀ z, f_X11_within_63 fu (mW C F v ar) (f_X11_within_15 fu (mW C F v ar) N) 123 (nI i) x y m (nI k) (nI acc) (nI z) = some (nI (acc + (z + smF (wiG x y m (s.1 i)) (k + 1) (s.1 i).length))) := fun z => by
        rw [f_X11_within_63, bnd_eq, bnd_eq, nI_add, nI_1, ih (k + 1) _ hk' (by omega), Nat.add_assoc]
      rw [if_neg (nI_ge hk' (by omega)), B.cl, B.key hi hk', some_bind', smF_cons _ hk']
      by_cases c2 : x ≤ nI (nth (s.1 i) k / 2) ∧ nI (nth (s.1 i) k / 2) ≤ y
      · rw [if_neg (fun q => (isIn_0 _ _ _).mp q c2)]
        by_cases c3 : m = 0
        · have e : wiG x y m (s.1 i) k = 1 := by unfold wiG; rw [if_pos ⟨c2, Or.inl c3⟩]
          rw [if_pos c3, e]; exact nx 1
        · rw [if_neg c3, B.cl, B.mark hi hk', some_bind']
          by_cases c4 : nth (s.1 i) k % 2 = 1
          · have e : wiG x y m (s.1 i) k = 1 := by unfold wiG; rw [if_pos ⟨c2, Or.inr c4⟩]
            rw [c4, if_pos (by decide), e]; exact nx 1
          · have e : wiG x y m (s.1 i) k = 0 := by unfold wiG; rw [if_neg (fun q => q.2.elim c3 c4)]
            rw [show nth (s.1 i) k % 2 = 0 by omega, if_neg (by decide), e]; exact nx 0
      · have e : wiG x y m (s.1 i) k = 0 := by unfold wiG; rw [if_neg (fun q => c2 q.1)]
        rw [if_pos ((isIn_0 _ _ _).mpr c2), e]; exact nx 0
theorem wi_0 {L : List Nat} (S : SOK L) (x y m : Int32) {j : Nat} (hj : j < L.length) (h : ¬ (bel L x ≤ j ∧ j < nab L y)) : wiG x y m L j = 0 := by
  unfold wiG
  rw [if_neg (fun q => h ((in_range S x y hj).mp q.1))]
theorem wi_range {L : List Nat} (S : SOK L) (x y m : Int32) : smF (wiG x y m L) 0 L.length = smF (wiG x y m L) (bel L x) (nab L y) := by
  have h1 := bel_le L x
  have h2 := nab_le L y
  rcases Nat.lt_or_ge (nab L y) (bel L x) with c | c
  · rw [smF_end _ (show nab L y ≤ bel L x by omega), smF_zero _ (fun j _ hj => wi_0 S x y m hj (by omega))]
  · rw [smF_split _ (Nat.zero_le (bel L x)) _ h1, smF_split _ c _ h2, smF_zero _ (i := 0) (fun j _ hj => wi_0 S x y m (by omega) (by omega)), smF_zero _ (i := nab L y) (fun j _ hj => wi_0 S x y m (by omega) (by omega))]
    omega
theorem smF_congr {f g : Nat → Nat} {i e : Nat} (h : ∀ j, i ≤ j → j < e → f j = g j) : smF f i e = smF g i e := by
  unfold smF
  congr 1
  apply List.map_congr_left
  intro j hj
  rw [List.mem_range'_1] at hj
  exact h j (by omega) (by omega)
theorem smF_const1 {f : Nat → Nat} : ∀ (e i : Nat), (∀ j, i ≤ j → j < e → f j = 1) → smF f i e = e - i
  | 0, i, _ => by rw [smF_end _ (by omega)]; omega
  | e + 1, i, h => by
    rcases Nat.lt_or_ge e i with c | c
    · rw [smF_end _ (by omega)]; omega
    · rw [smF_snoc f e i c, smF_const1 e i (fun j h1 h2 => h j h1 (by omega)), h e c (by omega)]; omega
theorem within_res (G : Good C F v ar s V n) (hfu : 100 ≤ fu) (a x y m : Int32) : ∃ z, f_X10_within fu (mW C F v ar) 0 a x y m = some z ∧ f_X11_within fu (mW C F v ar) 123 a x y m = some z := by
  have h := G.1.2.2.1
  have B := G.1.mb
  have O := G.1.2.2.2.1
  rw [f_X10_within, f_X11_within, G.st, some_bind', h.cl]
  rcases set_cases a with ⟨i, hi, rfl⟩ | ha
  · have S := O.1 i hi
    have l1 := S.len
    have n1 := bel_le (s.1 i) x
    have n2 := nab_le (s.1 i) y
    rw [heapAt_in h hi, some_bind', mSet_in hi, if_neg (by decide), bnd_eq, bnd_eq, show (0 : Int32) = nI 0 from rfl, mwithin_loop (fu := fu) B hi x y m fu 0 0 (by omega) (by omega), Nat.zero_add, wi_range S]
    dsimp only
    refine ⟨_, ?_, rfl⟩
    by_cases c : m = nI 0
    · rw [if_pos c, (h.ha hi).cl, howMany_ok (h.ha hi) S hfu, some_bind']
      congr 2
      unfold hmb
      exact (smF_const1 _ _ (fun j h1 h2 => by unfold wiG; rw [if_pos ⟨(in_range S x y (by omega)).mpr ⟨h1, h2⟩, Or.inl c⟩])).symm
    · rw [if_neg c, (h.ha hi).cl, marked_ok (h.ha hi) S hfu, some_bind']
      congr 2
      unfold mkb
      refine smF_congr (fun j h1 h2 => ?_)
      unfold wiG
      by_cases q : nth (s.1 i) j % 2 = 1
      · rw [if_pos ⟨(in_range S x y (by omega)).mpr ⟨h1, h2⟩, Or.inr q⟩, q]
      · rw [if_neg (fun z => z.2.elim c q)]; omega
  · rw [heapAt_out ha, some_bind', mSet_out ha, if_pos rfl]
    exact ⟨-1, rfl, rfl⟩
end Q
end
section
/-! FAR, OF -/
theorem ParV_u {P : Nat → Nat} {n x : Nat} {u u' : Int32} (hinj : ∀ i j, i < n → j < n → P i = P j → i = j) (h : ParV P n x u) (g : ParV P n x u') : u = u' := by
  rcases h with ⟨h1, h2⟩ | ⟨y, h1, h2, h3, h4, h5⟩
  · rcases g with ⟨g1, g2⟩ | ⟨z, g1, g2, g3, g4, g5⟩
    · rw [h1, g1]
    · exact absurd g4 (h2 z g2 g3)
  · rcases g with ⟨g1, g2⟩ | ⟨z, g1, g2, g3, g4, g5⟩
    · exact absurd h4 (g2 y h2 h3)
    · have e1 := anc_le (h5 z g2 g3 g4)
      have e2 := anc_le (g5 y h2 h3 h4)
      rw [h1, g1, hinj y z h2 g2 (by omega)]
/-- the key at a place, or none -/
def kV (K : List Nat) (u x : Int32) : Prop := (u = -1 ∧ x = -1) ∨ ∃ y, y < K.length ∧ u = nI y ∧ x = nI (nth K y)
theorem ckeyOf {w : MW} {K : List Nat} (T : TOK w K) (hl : K.length ≤ 61) {u x : Int32} (h : kV K u x) : f_X8_keyOf w 3 u = some x := by
  rcases h with ⟨h1, h2⟩ | ⟨y, h1, h2, h3⟩
  · rw [f_X8_keyOf, T.cl, h1, isNode_m1, some_bind', if_pos rfl, h2]
  · rw [f_X8_keyOf, T.cl, h2, isNode_in T h1 hl, some_bind', if_neg (by decide)]
    obtain ⟨ar, rt, t, t1, t2, t3⟩ := T
    rw [t.r0, some_bind', t.a0 (by omega), some_bind', t1 y h1, h3]
theorem mkeyOf {C : MW} (hC : C.length = 123) {F : Nat → Int32} {v : Int64} {ar : Nat → Nat → Int32} {K : List Nat} (hK : RH ar K) (hl : K.length ≤ 61) {u x : Int32} (h : kV K u x) : f_X11_keyOf (mW C F v ar) 123 u = some x := by
  rcases h with ⟨h1, h2⟩ | ⟨y, h1, h2, h3⟩
  · rw [f_X11_keyOf, if_pos h1, h2]
  · rw [f_X11_keyOf, h2, if_neg (m1_ne y (by omega)), m_gR hC F v ar 10 rfl, some_bind', m_a4 hC F v ar (by omega), some_bind', hK y h1, h3]
theorem count_rng {n f e : Nat} (he : e ≤ n) (hf : f ≤ e) : (List.range n).countP (fun y => decide (f ≤ y) && decide (y < e)) = e - f := by
  induction n with
  | zero => rw [show e - f = 0 by omega]; rfl
  | succ n ih =>
    rw [List.range_succ, List.countP_append, List.countP_singleton]
    rcases Nat.lt_or_ge n e with c | c
    · have e1 : e = n + 1 := by omega
      subst e1
      by_cases q : f ≤ n
      · rw [if_pos (by simp [q])]
        have : (List.range n).countP (fun y => decide (f ≤ y) && decide (y < n + 1)) = n - f := by
          clear ih
          have key : ∀ m, m ≤ n → (List.range m).countP (fun y => decide (f ≤ y) && decide (y < n + 1)) = m - f := by
            intro m
            induction m with
            | zero => intro _; rw [show 0 - f = 0 by omega]; rfl
            | succ m ih =>
              intro hm
              rw [List.range_succ, List.countP_append, List.countP_singleton, ih (by omega)]
              by_cases z : f ≤ m
              · rw [if_pos (by simp [z]; omega)]; omega
              · rw [if_neg (by simp [z])]; omega
          exact key n (Nat.le_refl _)
        rw [this]; omega
      · rw [if_neg (by simp [q])]
        have : (List.range n).countP (fun y => decide (f ≤ y) && decide (y < n + 1)) = 0 := by
          rw [List.countP_eq_zero]
          intro y hy
          have := List.mem_range.mp hy
          simp; omega
        rw [this]; omega
    · rw [if_neg (by simp; omega), ih c]; rfl
theorem und_sub {P : Nat → Nat} {n f e x : Nat} (S : SubT P n f e) (hA : ArgM P f e x) : und P n x = e - 1 - f := by
  obtain ⟨a1, a2, a3⟩ := id hA
  have h1 := count_rng S.1 (show f ≤ e by omega)
  rw [countP_or' (q := fun z => decide (z = x)) (r := fun y => decide (y ≠ x) && ancB P x y) (List.range n) (fun z hz => ?_) (fun z _ => ?_), count_one (by have := S.1; omega)] at h1
  · unfold und; omega
  · have := sub_anc S hA (List.mem_range.mp hz)
    rw [Bool.eq_iff_iff, Bool.and_eq_true, Bool.or_eq_true, Bool.and_eq_true, decide_eq_true_eq, decide_eq_true_eq, decide_eq_true_eq, decide_eq_true_eq, ancB_iff, this]
    omega
  · rw [Bool.and_eq_true, decide_eq_true_eq, decide_eq_true_eq]
    rintro ⟨q1, q2, _⟩
    exact q2 q1
section Q
variable {C : MW} {F : Nat → Int32} {v : Int64} {ar : Nat → Nat → Int32} {s : AS} {V : List AS} {n : Nat} {fu : Nat}
theorem tks_31 : ∀ k, k ∈ tKs → 1 ≤ k ∧ k < 31 := by decide
theorem g_tree (G : Good C F v ar s V n) (hfu : 100 ≤ fu) {i : Nat} (hi : i < 8) : ∃ C1, f_X7_treeOf fu (mW C F v ar) 1 (13 + 2 * i) = some (3, mW C1 F v ar) ∧ TOK (mW C1 F v ar) (kys (s.1 i)) ∧ Good C1 F v ar s V n ∧ ∀ k, k ∉ actKs → C1[k]? = C[k]? := by
  obtain ⟨w', g1, g2, g3, g4, g5⟩ := treeOf_ok hfu G.1.2.2.1 G.2.1 G.1.2.2.2.1.1 hi
  obtain ⟨C1, e1, e2, e3, e4⟩ := good_q G g5 tks_31 g3 g4
  subst e1
  exact ⟨C1, g1, g2, e3, e4⟩
theorem far_res (G : Good C F v ar s V n) (hfu : 20000 ≤ fu) (a x y : Int32) : Res C F ar s V (f_X10_far fu (mW C F v ar) 0 a x y) (fun w => f_X11_far fu w 123 a x y) := by
  have h := G.1.2.2.1
  have B := G.1.mb
  have O := G.1.2.2.2.1
  have hfu2 : 100 ≤ fu := by omega
  have hfu3 : 200 ≤ fu := by omega
  rcases set_cases a with ⟨i, hi, rfl⟩ | ha
  · have S := O.1 i hi
    have l1 := S.len
    have KK := kys_ok S
    have hkl := kys_len (s.1 i)
    obtain ⟨C1, t1, t2, G1, t4⟩ := g_tree G hfu2 hi
    have h1 := G1.1.2.2.1
    have B1 := G1.1.mb
    have pre : ∀ z, f_X8_steps fu (mW C1 F v ar) 3 (plc (s.1 i) x) (plc (s.1 i) y) = some z → f_X10_far fu (mW C F v ar) 0 (nI i) x y = some (z, mW C1 F v ar) := fun z hz => by
      rw [f_X10_far, G.st, some_bind', h.cl, heapAt_in h hi, some_bind']
      dsimp only
      rw [some_bind', h.cl, t1, some_bind', (h1.ha hi).cl, rankOf_ok (h1.ha hi) S hfu2, some_bind', (h1.ha hi).cl, rankOf_ok (h1.ha hi) S hfu2, some_bind', t2.cl, hz, some_bind']
    by_cases c1 : plc (s.1 i) x = -1
    · refine q_res G1 t4 (pre (-1) ?_) (F' := F) (v' := v) (ar' := ar) ?_ (fun _ _ => rfl) (fun _ _ => rfl)
      · rw [f_X8_steps, t2.cl, c1, isNode_m1, some_bind', if_pos rfl]
      · rw [f_X11_far, mSet_in hi, if_neg (by decide), B1.cl, B1.place hi hfu2, some_bind', if_pos c1]
    · obtain ⟨p1, p2⟩ := plc_ne c1
      by_cases c2 : plc (s.1 i) y = -1
      · refine q_res G1 t4 (pre (-1) ?_) (F' := F) (v' := v) (ar' := ar) ?_ (fun _ _ => rfl) (fun _ _ => rfl)
        · rw [f_X8_steps, t2.cl, p2, isNode_in t2 (by omega) (by omega), some_bind', if_neg (by decide), t2.cl, c2, isNode_m1, some_bind', if_pos rfl]
        · rw [f_X11_far, mSet_in hi, if_neg (by decide), B1.cl, B1.place hi hfu2, some_bind', if_neg c1, B1.cl, B1.place hi hfu2, some_bind', if_pos c2]
      · obtain ⟨q1, q2⟩ := plc_ne c2
        obtain ⟨m, hm⟩ := argm_ex (pF (kys (s.1 i))) (min (bel (s.1 i) x) (bel (s.1 i) y)) (max (bel (s.1 i) x) (bel (s.1 i) y) + 1) (by omega)
        obtain ⟨g, k1, k2, k3⟩ := laysRow_ok (v := v) hi hfu2 B1
        obtain ⟨F2, m', k4, k5, k6⟩ := mfar_ok (v := v) (F := upd F 11 (nI (s.1 i).length)) B1.1 hfu3 KK k2 (by rw [upd_eq, hkl]) (i := bel (s.1 i) x) (j := bel (s.1 i) y) (by omega) (by omega)
        have em : m' = m := argm_u (fun p q hp hq e => KK.inj hp hq e) (by omega) k5 hm
        rw [em] at k4
        refine q_res G1 t4 (pre _ (by rw [p2, q2]; exact steps_ok hfu3 t2 KK (by omega) (by omega) hm)) (F' := F2) (v' := v) (ar' := ua ar 4 g) ?_ (fun k hk => by rw [k6 k (by omega), upd_ne _ _ (by omega)]) (fun k hk => ua_ne _ _ (by omega))
        rw [f_X11_far, mSet_in hi, if_neg (by decide), B1.cl, B1.place hi hfu2, some_bind', if_neg c1, B1.cl, B1.place hi hfu2, some_bind', if_neg c2, B1.cl, k1, some_bind', k3.cl, k3.place hi hfu2, some_bind', k3.cl, k3.place hi hfu2, some_bind', p2, q2, k3.cl, k4, some_bind']
  · refine q_res G (fun _ _ => rfl) (x := -1) ?_ (F' := F) (v' := v) (ar' := ar) ?_ (fun _ _ => rfl) (fun _ _ => rfl)
    · rw [f_X10_far, G.st, some_bind', h.cl, heapAt_out ha, some_bind']
    · rw [f_X11_far, mSet_out ha, if_pos rfl]
theorem of_res (G : Good C F v ar s V n) (hfu : 20000 ≤ fu) (a b c : Int32) : Res C F ar s V (f_X10_of fu (mW C F v ar) 0 a b c) (fun w => f_X11_of fu w 123 a b c) := by
  have h := G.1.2.2.1
  have B := G.1.mb
  have O := G.1.2.2.2.1
  have hfu2 : 100 ≤ fu := by omega
  have hfu3 : 200 ≤ fu := by omega
  rcases set_cases a with ⟨i, hi, rfl⟩ | ha
  · have S := O.1 i hi
    have l1 := S.len
    have KK := kys_ok S
    have hkl := kys_len (s.1 i)
    have hinj : ∀ p q, p < (kys (s.1 i)).length → q < (kys (s.1 i)).length → pF (kys (s.1 i)) p = pF (kys (s.1 i)) q → p = q := fun p q hp hq e => KK.inj hp hq e
    have pre0 : f_X10_of fu (mW C F v ar) 0 (nI i) b c = f_X10_of_25_1 fu (mW C F v ar) 0 b c (13 + 2 * i) (plc (s.1 i) b) := by
      rw [f_X10_of, G.st, some_bind', h.cl, heapAt_in h hi, some_bind']
      dsimp only
      rw [(h.ha hi).cl, rankOf_ok (h.ha hi) S hfu2, some_bind']
    by_cases c1 : plc (s.1 i) b = -1
    · refine q_res G (fun _ _ => rfl) (x := -1) ?_ (F' := F) (v' := v) (ar' := ar) ?_ (fun _ _ => rfl) (fun _ _ => rfl)
      · rw [pre0, f_X10_of_25_1, bnd_eq, if_pos c1]
      · rw [f_X11_of, mSet_in hi, if_neg (by decide), B.cl, B.place hi hfu2, some_bind', if_pos c1]
    · obtain ⟨p1, p2⟩ := plc_ne c1
      have hpk := key_eq S c1
      have hlt := S.lt p1
      obtain ⟨at_, hat⟩ : ∃ z, z = bel (s.1 i) b := ⟨_, rfl⟩
      rw [← hat] at p1 p2 hpk hlt
      -- the model's way, over any class's cells
      have mpre : ∀ C1, Good C1 F v ar s V n → ∃ g F2 f e, RH (ua ar 4 g) (kys (s.1 i)) ∧ WayOK (kys (s.1 i)) at_ F2 f e ∧ (∀ k, k < 11 ∨ 22 < k → F2 k = F k) ∧ MB C1 F2 (ua ar 4 g) 0 s ∧ f_X11_of fu (mW C1 F v ar) 123 (nI i) b c = (if c = 0 then some (nI at_, mW C1 F2 v (ua ar 4 g)) else if c = 1 then (cl (mW C1 F2 v (ua ar 4 g)) 11 123 (f_X11_markAt (mW C1 F2 v (ua ar 4 g)) 123 (nI i) (nI at_))).bind fun q16 => some (q16, mW C1 F2 v (ua ar 4 g)) else if c = 2 then (gI (mW C1 F2 v (ua ar 4 g)) 11 123 15).bind fun x20 => some (x20, mW C1 F2 v (ua ar 4 g)) else if c = 3 then (gI (mW C1 F2 v (ua ar 4 g)) 11 123 14).bind fun x22 => (cl (mW C1 F2 v (ua ar 4 g)) 11 123 (f_X11_keyOf (mW C1 F2 v (ua ar 4 g)) 123 x22)).bind fun q23 => some (q23, mW C1 F2 v (ua ar 4 g)) else if c = 4 then (gI (mW C1 F2 v (ua ar 4 g)) 11 123 12).bind fun x27 => (cl (mW C1 F2 v (ua ar 4 g)) 11 123 (f_X11_ahead fu (mW C1 F2 v (ua ar 4 g)) 123 x27 (nI at_ - (1 : Int32)))).bind fun q28 => (cl (mW C1 F2 v (ua ar 4 g)) 11 123 (f_X11_keyOf (mW C1 F2 v (ua ar 4 g)) 123 q28)).bind fun q31 => some (q31, mW C1 F2 v (ua ar 4 g)) else if c = 5 then (gI (mW C1 F2 v (ua ar 4 g)) 11 123 13).bind fun x35 => (cl (mW C1 F2 v (ua ar 4 g)) 11 123 (f_X11_ahead fu (mW C1 F2 v (ua ar 4 g)) 123 (nI at_ + (1 : Int32)) x35)).bind fun q36 => (cl (mW C1 F2 v (ua ar 4 g)) 11 123 (f_X11_keyOf (mW C1 F2 v (ua ar 4 g)) 123 q36)).bind fun q39 => some (q39, mW C1 F2 v (ua ar 4 g)) else if c = 6 then some ((f_X11_priority b), mW C1 F2 v (ua ar 4 g)) else if c = 7 then (gI (mW C1 F2 v (ua ar 4 g)) 11 123 13).bind fun x44 => (gI (mW C1 F2 v (ua ar 4 g)) 11 123 12).bind fun x45 => some ((x44 - x45), mW C1 F2 v (ua ar 4 g)) else some ((-1 : Int32), mW C1 F2 v (ua ar 4 g))) := by
        intro C1 G1
        have B1 := G1.1.mb
        obtain ⟨g, k1, k2, k3⟩ := laysRow_ok (v := v) hi hfu2 B1
        obtain ⟨F2, f, e, m1, m2, m3⟩ := goesTo_ok (v := v) (F := upd F 11 (nI (s.1 i).length)) G1.1.1 hfu3 KK k2 (by rw [upd_eq, hkl]) (x := at_) (by omega)
        refine ⟨g, F2, f, e, k2, m2, fun k hk => by rw [m3 k (by omega), upd_ne _ _ (by omega)], k3.F k3.1 (m3 9 (by omega)) k3.2.2.2.1 O.1, ?_⟩
        rw [f_X11_of, mSet_in hi, if_neg (by decide), B1.cl, B1.place hi hfu2, some_bind', if_neg c1, B1.cl, k1, some_bind', k3.cl, k3.place hi hfu2, some_bind', p2, bnd_eq, k3.cl, m1, some_bind']
      have pre1 : f_X10_of fu (mW C F v ar) 0 (nI i) b c = f_X10_of_25_1 fu (mW C F v ar) 0 b c (13 + 2 * i) (nI at_) := by rw [pre0, p2]
      have hm1 : ¬ nI at_ = -1 := m1_ne at_ (by omega)
      obtain ⟨C1, t1, t2, G1, t4⟩ := g_tree G hfu2 hi
      have h1 := G1.1.2.2.1
      obtain ⟨arT, rt, tw, tk, tx, tr⟩ := id t2
      have hx := tx at_ (by omega)
      have hnode := isNode_in t2 (show at_ < (kys (s.1 i)).length by omega) (by omega)
      by_cases d0 : c = 0
      · obtain ⟨g, F2, f, e, r1, r2, r3, r4, r5⟩ := mpre C G
        refine q_res G (fun _ _ => rfl) (x := nI at_) ?_ (F' := F2) (v' := v) (ar' := ua ar 4 g) ?_ r3 (fun k hk => ua_ne _ _ (by omega))
        · rw [pre1, f_X10_of_25_1, bnd_eq, if_neg hm1, if_pos d0]
        · rw [r5, if_pos d0]
      by_cases d1 : c = 1
      · obtain ⟨g, F2, f, e, r1, r2, r3, r4, r5⟩ := mpre C G
        refine q_res G (fun _ _ => rfl) (x := nI (nth (s.1 i) at_ % 2)) ?_ (F' := F2) (v' := v) (ar' := ua ar 4 g) ?_ r3 (fun k hk => ua_ne _ _ (by omega))
        · rw [pre1, f_X10_of_25_1, bnd_eq, if_neg hm1, if_neg d0, if_pos d1, (h.ha hi).cl, markAt_in (h.ha hi) S p1, some_bind']
        · rw [r5, if_neg d0, if_pos d1, r4.cl, r4.mark hi p1, some_bind']
      by_cases d6 : c = 6
      · obtain ⟨g, F2, f, e, r1, r2, r3, r4, r5⟩ := mpre C G
        have hpr : f_X10_priority b = f_X11_priority b := by rw [← hpk, cpri (by omega), mpri (by omega)]
        refine q_res G (fun _ _ => rfl) (x := f_X10_priority b) ?_ (F' := F2) (v' := v) (ar' := ua ar 4 g) ?_ r3 (fun k hk => ua_ne _ _ (by omega))
        · rw [pre1, f_X10_of_25_1, bnd_eq, if_neg hm1, if_neg d0, if_neg d1, if_neg (by rw [d6]; decide), if_neg (by rw [d6]; decide), if_neg (by rw [d6]; decide), if_neg (by rw [d6]; decide), if_pos d6]
        · rw [r5, if_neg d0, if_neg d1, if_neg (by rw [d6]; decide), if_neg (by rw [d6]; decide), if_neg (by rw [d6]; decide), if_neg (by rw [d6]; decide), if_pos d6, hpr]
      obtain ⟨g, F2, f, e, r1, r2, r3, r4, r5⟩ := mpre C1 G1
      obtain ⟨w12, w13, w15, w14, wS, wA⟩ := id r2
      have wA1 := wA.1
      have wA2 := wA.2.1
      have wS1 := wS.1
      by_cases d2 : c = 2
      · refine q_res G1 t4 (x := nI (dep (pF (kys (s.1 i))) (kys (s.1 i)).length at_)) ?_ (F' := F2) (v' := v) (ar' := ua ar 4 g) ?_ r3 (fun k hk => ua_ne _ _ (by omega))
        · rw [pre1, f_X10_of_25_1, bnd_eq, if_neg hm1, if_neg d0, if_neg d1, if_pos d2, G.st, some_bind', h.cl, t1, some_bind', t2.cl, f_X8_depthAt, t2.cl, hnode, some_bind', if_neg (by decide), tw.r4, some_bind', tw.a4 (by omega), some_bind', some_bind', hx.2.2.2.1]
        · rw [r5, if_neg d0, if_neg d1, if_pos d2, m_gI r4.1 F2 v _ 15 rfl, some_bind', w15]
      by_cases d3 : c = 3
      · obtain ⟨x, hkv⟩ : ∃ x, kV (kys (s.1 i)) (arT 1 at_) x := by
          rcases hx.1 with ⟨q1, _⟩ | ⟨y, q1, q2⟩
          · exact ⟨-1, Or.inl ⟨q1, rfl⟩⟩
          · exact ⟨_, Or.inr ⟨y, q2.1, q1, rfl⟩⟩
        have hu : F2 14 = arT 1 at_ := ParV_u hinj w14 hx.1
        refine q_res G1 t4 (x := x) ?_ (F' := F2) (v' := v) (ar' := ua ar 4 g) ?_ r3 (fun k hk => ua_ne _ _ (by omega))
        · rw [pre1, f_X10_of_25_1, bnd_eq, if_neg hm1, if_neg d0, if_neg d1, if_neg d2, if_pos d3, G.st, some_bind', h.cl, t1, some_bind', t2.cl, f_X8_keyAbove, t2.cl, hnode, some_bind', if_neg (by decide), tw.r1, some_bind', tw.a1 (by omega), some_bind', t2.cl, ckeyOf t2 (by omega) hkv, some_bind', some_bind']
        · rw [r5, if_neg d0, if_neg d1, if_neg d2, if_pos d3, m_gI r4.1 F2 v _ 14 rfl, some_bind', hu, r4.cl, mkeyOf r4.1 r1 (by omega) hkv, some_bind']
      by_cases d4 : c = 4
      · obtain ⟨u, x, hu1, hu2, hkv⟩ : ∃ u x, f_X11_ahead fu (mW C1 F2 v (ua ar 4 g)) 123 (nI f) (mI at_) = some u ∧ arT 2 at_ = u ∧ kV (kys (s.1 i)) u x := by
          rcases Nat.lt_or_ge f at_ with q | q
          · obtain ⟨m, m1, m2⟩ := ahead_in (v := v) (F := F2) r4.1 hfu3 KK r1 (f := f) (e := at_) (by omega) q
            refine ⟨nI m, _, m1, ?_, Or.inr ⟨m, by have := m2.2.1; omega, rfl, rfl⟩⟩
            rcases hx.2.1 with ⟨_, z2⟩ | ⟨y, z1, z2, z3, z4⟩
            · exact absurd ((sub_anc wS wA (by omega)).mpr ⟨Nat.le_refl f, by omega⟩) (z2 f q)
            · have z3' := (sub_anc wS wA (show y < (kys (s.1 i)).length by omega)).mp z3
              have : y = m := argm_u hinj (show at_ ≤ (kys (s.1 i)).length by omega) ⟨z3'.1, z2, fun z hz1 hz2 => z4 z hz2 ((sub_anc wS wA (by omega)).mpr ⟨hz1, by omega⟩)⟩ m2
              rw [z1, this]
          · refine ⟨-1, -1, ahead_out hfu3 (by omega) (by omega) q, ?_, Or.inl ⟨rfl, rfl⟩⟩
            rcases hx.2.1 with ⟨z1, _⟩ | ⟨y, z1, z2, z3, z4⟩
            · exact z1
            · have z3' := (sub_anc wS wA (show y < (kys (s.1 i)).length by omega)).mp z3
              omega
        refine q_res G1 t4 (x := x) ?_ (F' := F2) (v' := v) (ar' := ua ar 4 g) ?_ r3 (fun k hk => ua_ne _ _ (by omega))
        · rw [pre1, f_X10_of_25_1, bnd_eq, if_neg hm1, if_neg d0, if_neg d1, if_neg d2, if_neg d3, if_pos d4, G.st, some_bind', h.cl, t1, some_bind', t2.cl, f_X8_keyAtLeft, t2.cl, hnode, some_bind', if_neg (by decide), tw.r2, some_bind', tw.a2 (by omega), some_bind', hu2, t2.cl, ckeyOf t2 (by omega) hkv, some_bind', some_bind']
        · rw [r5, if_neg d0, if_neg d1, if_neg d2, if_neg d3, if_pos d4, m_gI r4.1 F2 v _ 12 rfl, some_bind', w12, mI_sub, r4.cl, hu1, some_bind', r4.cl, mkeyOf r4.1 r1 (by omega) hkv, some_bind']
      by_cases d5 : c = 5
      · obtain ⟨u, x, hu1, hu2, hkv⟩ : ∃ u x, f_X11_ahead fu (mW C1 F2 v (ua ar 4 g)) 123 (nI (at_ + 1)) (mI e) = some u ∧ arT 3 at_ = u ∧ kV (kys (s.1 i)) u x := by
          rcases Nat.lt_or_ge (at_ + 1) e with q | q
          · obtain ⟨m, m1, m2⟩ := ahead_in (v := v) (F := F2) r4.1 hfu3 KK r1 (f := at_ + 1) (e := e) (by omega) q
            refine ⟨nI m, _, m1, ?_, Or.inr ⟨m, by have := m2.2.1; omega, rfl, rfl⟩⟩
            rcases hx.2.2.1 with ⟨_, z2⟩ | ⟨y, z1, z2, z2', z3, z4⟩
            · exact absurd ((sub_anc wS wA (by omega)).mpr ⟨by omega, q⟩) (z2 (at_ + 1) (by omega) (by omega))
            · have z3' := (sub_anc wS wA z2').mp z3
              have : y = m := argm_u hinj wS1 ⟨by omega, z3'.2, fun z hz1 hz2 => z4 z (by omega) (by omega) ((sub_anc wS wA (by omega)).mpr ⟨by omega, hz2⟩)⟩ m2
              rw [z1, this]
          · refine ⟨-1, -1, ahead_out hfu3 (by omega) (by omega) q, ?_, Or.inl ⟨rfl, rfl⟩⟩
            rcases hx.2.2.1 with ⟨z1, _⟩ | ⟨y, z1, z2, z2', z3, z4⟩
            · exact z1
            · have z3' := (sub_anc wS wA z2').mp z3
              omega
        refine q_res G1 t4 (x := x) ?_ (F' := F2) (v' := v) (ar' := ua ar 4 g) ?_ r3 (fun k hk => ua_ne _ _ (by omega))
        · rw [pre1, f_X10_of_25_1, bnd_eq, if_neg hm1, if_neg d0, if_neg d1, if_neg d2, if_neg d3, if_neg d4, if_pos d5, G.st, some_bind', h.cl, t1, some_bind', t2.cl, f_X8_keyAtRight, t2.cl, hnode, some_bind', if_neg (by decide), tw.r3, some_bind', tw.a3 (by omega), some_bind', hu2, t2.cl, ckeyOf t2 (by omega) hkv, some_bind', some_bind']
        · rw [r5, if_neg d0, if_neg d1, if_neg d2, if_neg d3, if_neg d4, if_pos d5, m_gI r4.1 F2 v _ 13 rfl, some_bind', w13, nI_1, r4.cl, hu1, some_bind', r4.cl, mkeyOf r4.1 r1 (by omega) hkv, some_bind']
      by_cases d7 : c = 7
      · refine q_res G1 t4 (x := nI (und (pF (kys (s.1 i))) (kys (s.1 i)).length at_)) ?_ (F' := F2) (v' := v) (ar' := ua ar 4 g) ?_ r3 (fun k hk => ua_ne _ _ (by omega))
        · rw [pre1, f_X10_of_25_1, bnd_eq, if_neg hm1, if_neg d0, if_neg d1, if_neg d2, if_neg d3, if_neg d4, if_neg d5, if_neg d6, if_pos d7, G.st, some_bind', h.cl, t1, some_bind', t2.cl, f_X8_howManyBelow, t2.cl, hnode, some_bind', if_neg (by decide), tw.r5, some_bind', tw.a5 (by omega), some_bind', some_bind', hx.2.2.2.2]
        · obtain ⟨e', rfl⟩ : ∃ e', e = e' + 1 := ⟨e - 1, by omega⟩
          rw [r5, if_neg d0, if_neg d1, if_neg d2, if_neg d3, if_neg d4, if_neg d5, if_neg d6, if_pos d7, m_gI r4.1 F2 v _ 13 rfl, some_bind', m_gI r4.1 F2 v _ 12 rfl, some_bind', w13, w12, und_sub wS wA, mI_s, nI_sub (by omega)]
          rfl
      obtain ⟨g, F2, f, e, r1, r2, r3, r4, r5⟩ := mpre C G
      refine q_res G (fun _ _ => rfl) (x := -1) ?_ (F' := F2) (v' := v) (ar' := ua ar 4 g) ?_ r3 (fun k hk => ua_ne _ _ (by omega))
      · rw [pre1, f_X10_of_25_1, bnd_eq, if_neg hm1, if_neg d0, if_neg d1, if_neg d2, if_neg d3, if_neg d4, if_neg d5, if_neg d6, if_neg d7]
      · rw [r5, if_neg d0, if_neg d1, if_neg d2, if_neg d3, if_neg d4, if_neg d5, if_neg d6, if_neg d7]
  · refine q_res G (fun _ _ => rfl) (x := -1) ?_ (F' := F) (v' := v) (ar' := ar) ?_ (fun _ _ => rfl) (fun _ _ => rfl)
    · rw [f_X10_of, G.st, some_bind', h.cl, heapAt_out ha, some_bind', f_X10_of_25, bnd_eq]
    · rw [f_X11_of, mSet_out ha, if_pos rfl]
end Q
end
section
/-! SET -/
theorem chigh_loop {fu : Nat} {w : MW} {K : List Nat} (T : TOK w K) (O : KO K) : ∀ N x acc, acc ≤ 100 → x ≤ K.length → K.length - x < N → f_X8_high_4 fu w N 3 (nI acc) (nI x) = some (nI (hiF (pF K) K.length x acc)) := by
  have h61 := O.2.2
  obtain ⟨ar, rt, t, t1, t2, t3⟩ := T
  intro N
  induction N with
  | zero => intro x acc _ _ hN; omega
  | succ N ih =>
    intro x acc ha hx hN
    rw [f_X8_high_4, t.siz, some_bind']
    by_cases c : K.length ≤ x
    · rw [if_pos (nI_le c (by omega)), hiF_end _ _ c]
    · have hx' : x < K.length := by omega
      have hd := dep_lt (P := pF K) hx'
      rw [if_neg (nI_ge hx' (by omega)), t.r4, some_bind', t.a4 (by omega), some_bind', (t2 x hx').2.2.2.1, nI_1, imax_n (by omega) (by omega), bnd_eq, bnd_eq, nI_1, ih (x + 1) _ (by omega) (by omega) (by omega), hiF_s _ _ hx']
theorem chigh_ok {fu : Nat} (hfu : 100 ≤ fu) {w : MW} {K : List Nat} (T : TOK w K) (O : KO K) : f_X8_high fu w 3 = some (nI (hiF (pF K) K.length 0 0)) := by
  rw [f_X8_high, bnd_eq, bnd_eq]
  exact chigh_loop T O fu 0 0 (by omega) (by omega) (by have := O.2.2; omega)
theorem cdeps_loop {fu : Nat} {w : MW} {K : List Nat} (T : TOK w K) (O : KO K) : ∀ N x acc, x ≤ K.length → K.length - x < N → f_X8_allDepths_4 fu w N 3 (nI acc) (nI x) = some (nI (acc + smF (dep (pF K) K.length) x K.length)) := by
  have h61 := O.2.2
  obtain ⟨ar, rt, t, t1, t2, t3⟩ := T
  intro N
  induction N with
  | zero => intro x acc _ hN; omega
  | succ N ih =>
    intro x acc hx hN
    rw [f_X8_allDepths_4, t.siz, some_bind']
    by_cases c : K.length ≤ x
    · rw [if_pos (nI_le c (by omega)), smF_end _ c]; rfl
    · have hx' : x < K.length := by omega
      rw [if_neg (nI_ge hx' (by omega)), t.r4, some_bind', t.a4 (by omega), some_bind', (t2 x hx').2.2.2.1, bnd_eq, bnd_eq, nI_add, nI_1, ih (x + 1) _ (by omega) (by omega), smF_cons _ hx', Nat.add_assoc]
theorem cdeps_ok {fu : Nat} (hfu : 100 ≤ fu) {w : MW} {K : List Nat} (T : TOK w K) (O : KO K) : f_X8_allDepths fu w 3 = some (nI (smF (dep (pF K) K.length) 0 K.length)) := by
  have := cdeps_loop (fu := fu) T O fu 0 0 (by omega) (by have := O.2.2; omega)
  rw [Nat.zero_add] at this
  rw [f_X8_allDepths, bnd_eq, bnd_eq]
  exact this
theorem csum_loop {fu : Nat} {w : MW} {h e : Nat} {L : List Nat} {fg : Int32} (H : HA w h e L fg) (S : SOK L) : ∀ N x acc, x ≤ L.length → L.length - x < N → f_X0_sum_4 fu w N h (nI acc) (nI x) = some (nI (acc + smF (fun j => nth L j / 2) x L.length)) := by
  have l1 := S.len
  intro N
  induction N with
  | zero => intro x acc _ hN; omega
  | succ N ih =>
    intro x acc hx hN
    rw [f_X0_sum_4, gI_ob H.2.1 rfl, some_bind']
    by_cases c : L.length ≤ x
    · rw [if_pos (nI_le c (by omega)), smF_end _ c]; rfl
    · have hx' : x < L.length := by omega
      rw [if_neg (nI_ge hx' (by omega)), H.cl, keyAt_in H S hx', some_bind', bnd_eq, bnd_eq, nI_add, nI_1, ih (x + 1) _ (by omega) (by omega), smF_cons _ hx', Nat.add_assoc]
/-- a stretch begins -/
def stG (L : List Nat) (j : Nat) : Nat := if j = 0 then 1 else if nth L j / 2 - nth L (j - 1) / 2 = 1 then 0 else 1
theorem cstr_loop {fu : Nat} {w : MW} {h e : Nat} {L : List Nat} {fg : Int32} (H : HA w h e L fg) (S : SOK L) : ∀ N x acc, x ≤ L.length → L.length - x < N → f_X0_stretches_4 fu w N h (nI acc) (nI x) = some (nI (acc + smF (stG L) x L.length)) := by
  have l1 := S.len
  intro N
  induction N with
  | zero => intro x acc _ hN; omega
  | succ N ih =>
    intro x acc hx hN
    rw [f_X0_stretches_4, gI_ob H.2.1 rfl, some_bind']
    by_cases c : L.length ≤ x
    · rw [if_pos (nI_le c (by omega)), smF_end _ c]; rfl
    · have hx' : x < L.length := by omega
      rw [if_neg (nI_ge hx' (by omega)), smF_cons _ hx']
      by_cases c0 : x = 0
      · have e1 : stG L x = 1 := by unfold stG; rw [if_pos c0]
        rw [if_pos ((nI_eq0 (by omega)).mpr c0), f_X0_stretches_33, bnd_eq, f_X0_stretches_36, bnd_eq, nI_1, nI_1, ih (x + 1) _ (by omega) (by omega), e1, Nat.add_assoc]
      · have b1 := S.lt hx'
        have b2 := S.inc (i := x - 1) (j := x) (by omega) hx'
        rw [if_neg (fun q => c0 ((nI_eq0 (by omega)).mp q)), H.cl, keyAt_in H S hx', some_bind', show (1 : Int32) = nI 1 from rfl, nI_sub (by omega : 1 ≤ x), H.cl, keyAt_in H S (by omega), some_bind', nI_sub (by omega)]
        by_cases c1 : nth L x / 2 - nth L (x - 1) / 2 = 1
        · have e1 : stG L x = 0 := by unfold stG; rw [if_neg c0, if_pos c1]
          rw [c1, if_pos (Int32.le_refl _), f_X0_stretches_36, bnd_eq, nI_1, ih (x + 1) _ (by omega) (by omega), e1, Nat.zero_add]
        · have e1 : stG L x = 1 := by unfold stG; rw [if_neg c0, if_neg c1]
          rw [if_neg (nI_ge (by omega) (by omega)), f_X0_stretches_33, bnd_eq, f_X0_stretches_36, bnd_eq, nI_1, nI_1, ih (x + 1) _ (by omega) (by omega), e1, Nat.add_assoc]
/-- the least difference so far -/
def lsS (L : List Nat) (l : Int32) (j : Nat) : Int32 := if j = 0 then l else if l = -1 then nI (nth L j / 2 - nth L (j - 1) / 2) else imin l (nI (nth L j / 2 - nth L (j - 1) / 2))
def lsF (L : List Nat) (x : Nat) (l : Int32) : Int32 := (List.range' x (L.length - x)).foldl (lsS L) l
theorem lsF_end (L : List Nat) {x : Nat} (l : Int32) (h : L.length ≤ x) : lsF L x l = l := by
  unfold lsF; rw [show L.length - x = 0 by omega]; rfl
theorem lsF_s (L : List Nat) {x : Nat} (l : Int32) (h : x < L.length) : lsF L x l = lsF L (x + 1) (lsS L l x) := by
  unfold lsF
  rw [show L.length - x = (L.length - (x + 1)) + 1 by omega, List.range'_succ, List.foldl_cons]
theorem cls_loop {fu : Nat} {w : MW} {h e : Nat} {L : List Nat} {fg : Int32} (H : HA w h e L fg) (S : SOK L) : ∀ N x l, 1 ≤ x → x ≤ 61 → L.length - x < N → f_X0_leastDifference_4 fu w N h l (nI x) = some (lsF L x l) := by
  have l1 := S.len
  intro N
  induction N with
  | zero => intro x l _ _ hN; omega
  | succ N ih =>
    intro x l hx1 hx hN
    rw [f_X0_leastDifference_4, gI_ob H.2.1 rfl, some_bind']
    by_cases c : L.length ≤ x
    · rw [if_pos (nI_le c (by omega)), lsF_end _ _ c]
    · have hx' : x < L.length := by omega
      have b1 := S.lt hx'
      have b2 := S.inc (i := x - 1) (j := x) (by omega) hx'
      rw [if_neg (nI_ge hx' (by omega)), H.cl, keyAt_in H S hx', some_bind', show (1 : Int32) = nI 1 from rfl, nI_sub (by omega : 1 ≤ x), H.cl, keyAt_in H S (by omega), some_bind', nI_sub (by omega), bnd_eq, lsF_s _ _ hx']
      unfold lsS
      rw [if_neg (show ¬ x = 0 by omega)]
      by_cases q : l = -nI 1
      · rw [if_pos q, if_pos (show l = -1 from q), f_X0_leastDifference_40, bnd_eq, bnd_eq, nI_1, ih (x + 1) _ (by omega) (by omega) (by omega)]
      · rw [if_neg q, if_neg (show ¬ l = -1 from q), f_X0_leastDifference_40, bnd_eq, bnd_eq, nI_1, ih (x + 1) _ (by omega) (by omega) (by omega)]
section Q
variable {C : MW} {F : Nat → Int32} {v : Int64} {ar : Nat → Nat → Int32} {s : AS} {V : List AS} {n : Nat} {fu : Nat}
/-- what is summed up -/
def tmv (what : Int32) (L : List Nat) (j : Nat) : Nat := if what = 3 then nth L j % 2 else if what = 8 then dep (pF (kys L)) L.length j else if what = 9 then stG L j else nth L j / 2
theorem msum_loop {b : Nat} (hfu : 200 ≤ fu) {i : Nat} (hi : i < 8) (what : Int32) : ∀ N k acc l F, MB C F ar b s → F 11 = nI (s.1 i).length → RH ar (kys (s.1 i)) → k ≤ (s.1 i).length → (s.1 i).length - k < N → ∃ F', f_X11_summed_13 fu N (mW C F v ar) 123 (nI i) what (nI acc) l (nI k) = some (if what = 7 then lsF (s.1 i) k l else nI (acc + smF (tmv what (s.1 i)) k (s.1 i).length), mW C F' v ar) ∧ FWy F F' := by
  intro N
  induction N with
  | zero => intro k acc l F _ _ _ _ hN; omega
  | succ N ih =>
    intro k acc l F B h11 hK hk hN
    have S := B.2.2.2.2 i hi
    have l1 := S.len
    have hC := B.1
    have KK := kys_ok S
    have hkl := kys_len (s.1 i)
    rw [f_X11_summed_13, m_gI hC F v ar 11 rfl, some_bind', h11]
    by_cases c : (s.1 i).length ≤ k
    · rw [if_pos (nI_le c (by omega)), lsF_end _ _ c, smF_end _ c]
      refine ⟨F, ?_, fun _ _ => rfl⟩
      by_cases q : what = 7
      · rw [if_pos q, if_pos q]
      · rw [if_neg q, if_neg q]; rfl
    · have hk' : k < (s.1 i).length := by omega
      have b1 := S.lt hk'
      have hKk := hK k (by omega)
      rw [kys_nth hk'] at hKk
      -- the next one
      have nx : ∀ F1 l' z, FWy F F1 → z = tmv what (s.1 i) k → l' = lsS (s.1 i) l k → ∃ F', f_X11_summed_140 fu (f_X11_summed_13 fu N) (mW C F1 v ar) 123 (nI i) what l' (nI k) (nI acc) (nI z) = some (if what = 7 then lsF (s.1 i) k l else nI (acc + smF (tmv what (s.1 i)) k (s.1 i).length), mW C F' v ar) ∧ FWy F F' := by
        intro F1 l' z hF hz hl
        obtain ⟨F', g1, g2⟩ := ih (k + 1) (acc + z) l' F1 (B.F hC (hF 9 (by omega)) B.2.2.2.1 B.2.2.2.2) (by rw [hF 11 (by omega)]; exact h11) hK (by omega) (by omega)
        rw [f_X11_summed_140, bnd_eq, bnd_eq, nI_add, nI_1, g1, lsF_s _ _ hk', smF_cons _ hk', hl, hz, Nat.add_assoc]
        exact ⟨F', rfl, hF.tr g2⟩
      have s75 : ∀ l' off, l' = lsS (s.1 i) l k → (0 < k → off = nI (nth (s.1 i) k / 2 - nth (s.1 i) (k - 1) / 2)) → ∃ F', f_X11_summed_75 fu (f_X11_summed_13 fu N) (mW C F v ar) 123 (nI i) what (nI acc) (nI k) off l' = some (if what = 7 then lsF (s.1 i) k l else nI (acc + smF (tmv what (s.1 i)) k (s.1 i).length), mW C F' v ar) ∧ FWy F F' := by
        intro l' off hl hoff
        rw [f_X11_summed_75, bnd_eq]
        by_cases w3 : what = 3
        · rw [if_pos w3, B.cl, B.mark hi hk', some_bind']
          exact nx F l' _ (fun _ _ => rfl) (by unfold tmv; rw [if_pos w3]) hl
        · rw [if_neg w3]
          by_cases w8 : what = 8
          · obtain ⟨F1, g1, g2⟩ := mdepth_ok (v := v) (F := F) hC hfu KK hK (by rw [h11, hkl]) (x := k) (by omega)
            rw [if_pos w8, B.cl, g1, some_bind']
            exact nx F1 l' _ g2 (by unfold tmv; rw [if_neg w3, if_pos w8, hkl]) hl
          · rw [if_neg w8]
            by_cases w9 : what = 9
            · have et : tmv what (s.1 i) k = stG (s.1 i) k := by unfold tmv; rw [if_neg w3, if_neg w8, if_pos w9]
              rw [if_pos w9]
              by_cases k0 : k = 0
              · rw [if_pos ((nI_le0 (by omega)).mpr k0)]
                exact nx F l' 1 (fun _ _ => rfl) (by rw [et]; unfold stG; rw [if_pos k0]) hl
              · have b2 := S.inc (i := k - 1) (j := k) (by omega) hk'
                rw [if_neg (fun q => k0 ((nI_le0 (by omega)).mp q)), hoff (by omega)]
                by_cases q : nth (s.1 i) k / 2 - nth (s.1 i) (k - 1) / 2 = 1
                · rw [q, if_pos (by decide)]
                  exact nx F l' 0 (fun _ _ => rfl) (by rw [et]; unfold stG; rw [if_neg k0, if_pos q]) hl
                · rw [if_neg (show ¬ nI (nth (s.1 i) k / 2 - nth (s.1 i) (k - 1) / 2) = (1 : Int32) from fun z => q ((nI_eq (b := 1) (by omega) (by omega)).mp z))]
                  exact nx F l' 1 (fun _ _ => rfl) (by rw [et]; unfold stG; rw [if_neg k0, if_neg q]) hl
            · rw [if_neg w9, m_gR hC F v ar 10 rfl, some_bind', m_a4 hC F v ar (by omega), some_bind', hKk]
              exact nx F l' _ (fun _ _ => rfl) (by unfold tmv; rw [if_neg w3, if_neg w8, if_neg w9]) hl
      rw [if_neg (nI_ge hk' (by omega))]
      by_cases k0 : k = 0
      · rw [if_pos ((nI_le0 (by omega)).mpr k0), f_X11_summed_48, bnd_eq, if_pos ((nI_le0 (by omega)).mpr k0)]
        exact s75 l 0 (by unfold lsS; rw [if_pos k0]) (fun q => by omega)
      · have b2 := S.inc (i := k - 1) (j := k) (by omega) hk'
        have hKk1 := hK (k - 1) (by omega)
        rw [kys_nth (by omega)] at hKk1
        rw [if_neg (fun q => k0 ((nI_le0 (by omega)).mp q)), m_gR hC F v ar 10 rfl, some_bind', m_a4 hC F v ar (by omega), some_bind', some_bind', show (1 : Int32) = nI 1 from rfl, nI_sub (by omega : 1 ≤ k), m_a4 hC F v ar (by omega), some_bind', hKk, hKk1, nI_sub (by omega), f_X11_summed_48, bnd_eq, if_neg (fun q => k0 ((nI_le0 (by omega)).mp q))]
        have hls : lsS (s.1 i) l k = if l = -1 then nI (nth (s.1 i) k / 2 - nth (s.1 i) (k - 1) / 2) else imin l (nI (nth (s.1 i) k / 2 - nth (s.1 i) (k - 1) / 2)) := by unfold lsS; rw [if_neg k0]
        by_cases q : l = -1
        · rw [if_pos q]
          exact s75 _ _ (by rw [hls, if_pos q]) (fun _ => rfl)
        · rw [if_neg q]
          by_cases q2 : l ≤ nI (nth (s.1 i) k / 2 - nth (s.1 i) (k - 1) / 2)
          · rw [if_pos q2]
            exact s75 _ _ (by rw [hls, if_neg q]; unfold imin; rw [if_neg (Int32.not_lt.mpr q2)]) (fun _ => rfl)
          · rw [if_neg q2]
            exact s75 _ _ (by rw [hls, if_neg q]; unfold imin; rw [if_pos (Int32.not_le.mp q2)]) (fun _ => rfl)
theorem msum_ok {b : Nat} (hfu : 200 ≤ fu) {i : Nat} (hi : i < 8) (what : Int32) {F : Nat → Int32} {ar : Nat → Nat → Int32} (B : MB C F ar b s) : ∃ F' g, f_X11_summed fu (mW C F v ar) 123 (nI i) what = some (if what = 7 then lsF (s.1 i) 0 (-1) else nI (smF (tmv what (s.1 i)) 0 (s.1 i).length), mW C F' v (ua ar 4 g)) ∧ (∀ k, k < 11 ∨ 15 < k → F' k = F k) := by
  have l1 := (B.2.2.2.2 i hi).len
  obtain ⟨g, k1, k2, k3⟩ := laysRow_ok (v := v) hi (show 100 ≤ fu by omega) B
  obtain ⟨F', m1, m2⟩ := msum_loop (v := v) hfu hi what fu 0 0 (-1) _ k3 (upd_eq _ _ _) k2 (by omega) (by omega)
  rw [Nat.zero_add] at m1
  refine ⟨F', g, ?_, fun k hk => by rw [m2 k (by omega), upd_ne _ _ (by omega)]⟩
  rw [f_X11_summed, B.cl, k1, some_bind', bnd_eq, bnd_eq, bnd_eq]
  exact m1
theorem set_res (G : Good C F v ar s V n) (hfu : 20000 ≤ fu) (a c : Int32) : Res C F ar s V (f_X10_set fu (mW C F v ar) 0 a c) (fun w => f_X11_set fu w 123 a c) := by
  have h := G.1.2.2.1
  have B := G.1.mb
  have O := G.1.2.2.2.1
  have hfu2 : 100 ≤ fu := by omega
  have hfu3 : 200 ≤ fu := by omega
  rcases set_cases a with ⟨i, hi, rfl⟩ | ha
  · have S := O.1 i hi
    have H := h.ha hi
    have l1 := S.len
    have KK := kys_ok S
    have hkl := kys_len (s.1 i)
    have hinj : ∀ p q, p < (kys (s.1 i)).length → q < (kys (s.1 i)).length → pF (kys (s.1 i)) p = pF (kys (s.1 i)) q → p = q := fun p q hp hq e => KK.inj hp hq e
    -- the model, over any class's cells
    have mp : ∀ C1, Good C1 F v ar s V n → ∃ g F1, RH (ua ar 4 g) (kys (s.1 i)) ∧ F1 11 = nI (s.1 i).length ∧ (∀ k, k < 11 ∨ 11 < k → F1 k = F k) ∧ MB C1 F1 (ua ar 4 g) 0 s ∧ f_X11_laysRow fu (mW C1 F v ar) 123 (nI i) = some (mW C1 F1 v (ua ar 4 g)) := by
      intro C1 G1
      obtain ⟨g, k1, k2, k3⟩ := laysRow_ok (v := v) hi hfu2 G1.1.mb
      exact ⟨g, _, k2, upd_eq _ _ _, fun k hk => upd_ne _ _ (by omega), k3, k1⟩
    have cp : cl (mW C F v ar) 7 1 (f_X7_heapAt (mW C F v ar) 1 (nI i)) = some (some (13 + 2 * i)) := by rw [h.cl, heapAt_in h hi]
    -- a plain answer
    have plain : ∀ x, f_X10_set fu (mW C F v ar) 0 (nI i) c = some (x, mW C F v ar) → (∀ g F1, RH (ua ar 4 g) (kys (s.1 i)) → F1 11 = nI (s.1 i).length → (∀ k, k < 11 ∨ 11 < k → F1 k = F k) → MB C F1 (ua ar 4 g) 0 s → f_X11_laysRow fu (mW C F v ar) 123 (nI i) = some (mW C F1 v (ua ar 4 g)) → ∃ F2 ar2, f_X11_set fu (mW C F v ar) 123 (nI i) c = some (x, mW C F2 v ar2) ∧ (∀ k, k < 11 ∨ 22 < k → F2 k = F k) ∧ (∀ k, k < 4 → ar2 k = ar k)) → Res C F ar s V (f_X10_set fu (mW C F v ar) 0 (nI i) c) (fun w => f_X11_set fu w 123 (nI i) c) := by
      intro x hx hm
      obtain ⟨g, F1, r1, r2, r3, r4, r5⟩ := mp C G
      obtain ⟨F2, ar2, q1, q2, q3⟩ := hm g F1 r1 r2 r3 r4 r5
      exact q_res G (fun _ _ => rfl) hx q1 q2 q3
    have ua4 : ∀ g k, k < 4 → ua ar 4 g k = ar k := fun g k hk => ua_ne _ _ (by omega)
    -- summed ones
    have summed : ∀ x, f_X10_set fu (mW C F v ar) 0 (nI i) c = some (x, mW C F v ar) → x = (if c = 7 then lsF (s.1 i) 0 (-1) else nI (smF (tmv c (s.1 i)) 0 (s.1 i).length)) → (c = 3 ∨ c = 7 ∨ c = 9 ∨ c = 10) → Res C F ar s V (f_X10_set fu (mW C F v ar) 0 (nI i) c) (fun w => f_X11_set fu w 123 (nI i) c) := by
      intro x hx hx2 hc
      refine plain x hx (fun g F1 r1 r2 r3 r4 r5 => ?_)
      obtain ⟨F2, g2, q1, q2⟩ := msum_ok (v := v) hfu3 hi c r4
      refine ⟨F2, ua (ua ar 4 g) 4 g2, ?_, fun k hk => by rw [q2 k (by omega), r3 k (by omega)], fun k hk => by rw [ua_ne _ _ (by omega), ua_ne _ _ (by omega)]⟩
      rw [f_X11_set, mSet_in hi, if_neg (by decide), B.cl, r5, some_bind']
      rcases hc with e | e | e | e <;> subst e <;> simp only [show ((3 : Int32) = 0) = False by decide, show ((3 : Int32) = 1) = False by decide, show ((3 : Int32) = 2) = False by decide, show ((7 : Int32) = 0) = False by decide, show ((7 : Int32) = 1) = False by decide, show ((7 : Int32) = 2) = False by decide, show ((7 : Int32) = 3) = False by decide, show ((7 : Int32) = 4) = False by decide, show ((7 : Int32) = 5) = False by decide, show ((7 : Int32) = 6) = False by decide, show ((9 : Int32) = 0) = False by decide, show ((9 : Int32) = 1) = False by decide, show ((9 : Int32) = 2) = False by decide, show ((9 : Int32) = 3) = False by decide, show ((9 : Int32) = 4) = False by decide, show ((9 : Int32) = 5) = False by decide, show ((9 : Int32) = 6) = False by decide, show ((9 : Int32) = 7) = False by decide, show ((9 : Int32) = 8) = False by decide, show ((10 : Int32) = 0) = False by decide, show ((10 : Int32) = 1) = False by decide, show ((10 : Int32) = 2) = False by decide, show ((10 : Int32) = 3) = False by decide, show ((10 : Int32) = 4) = False by decide, show ((10 : Int32) = 5) = False by decide, show ((10 : Int32) = 6) = False by decide, show ((10 : Int32) = 7) = False by decide, show ((10 : Int32) = 8) = False by decide, show ((10 : Int32) = 9) = False by decide, if_true, if_false] at q1 hx2 ⊢ <;> rw [r4.cl, q1, some_bind', hx2]
    by_cases d0 : c = 0
    · refine plain (nI (s.1 i).length) (by rw [f_X10_set, G.st, some_bind', cp, some_bind']; dsimp only; rw [if_pos d0, gI_ob H.2.1 rfl, some_bind']) (fun g F1 r1 r2 r3 r4 r5 => ⟨F1, ua ar 4 g, ?_, fun k hk => r3 k (by omega), ua4 g⟩)
      rw [f_X11_set, mSet_in hi, if_neg (by decide), B.cl, r5, some_bind', if_pos d0, m_gI r4.1 F1 v _ 11 rfl, some_bind', r2]
    by_cases d1 : c = 1
    · by_cases e0 : (s.1 i).length = 0
      · refine plain (-1) (by rw [f_X10_set, G.st, some_bind', cp, some_bind']; dsimp only; rw [if_neg d0, if_pos d1, H.cl, show (0 : Int32) = nI 0 from rfl, keyAt_out H (by omega) (by omega), some_bind']) (fun g F1 r1 r2 r3 r4 r5 => ⟨F1, ua ar 4 g, ?_, fun k hk => r3 k (by omega), ua4 g⟩)
        rw [f_X11_set, mSet_in hi, if_neg (by decide), B.cl, r5, some_bind', if_neg d0, if_pos d1, m_gI r4.1 F1 v _ 11 rfl, some_bind', r2, if_pos ((nI_eq0 (by omega)).mpr e0)]
      · refine plain (nI (nth (s.1 i) 0 / 2)) (by rw [f_X10_set, G.st, some_bind', cp, some_bind']; dsimp only; rw [if_neg d0, if_pos d1, H.cl, keyAt_0 H S (by omega), some_bind']) (fun g F1 r1 r2 r3 r4 r5 => ⟨F1, ua ar 4 g, ?_, fun k hk => r3 k (by omega), ua4 g⟩)
        have hr := r1 0 (by omega)
        rw [kys_nth (by omega)] at hr
        rw [f_X11_set, mSet_in hi, if_neg (by decide), B.cl, r5, some_bind', if_neg d0, if_pos d1, m_gI r4.1 F1 v _ 11 rfl, some_bind', r2, if_neg (fun q => e0 ((nI_eq0 (by omega)).mp q)), m_gR r4.1 F1 v _ 10 rfl, some_bind', show (0 : Int32) = nI 0 from rfl, m_a4 r4.1 F1 v _ (by omega), some_bind', hr]
    by_cases d2 : c = 2
    · by_cases e0 : (s.1 i).length = 0
      · refine plain (-1) (by rw [f_X10_set, G.st, some_bind', cp, some_bind']; dsimp only; rw [if_neg d0, if_neg d1, if_pos d2, gI_ob H.2.1 rfl, some_bind', H.cl, e0, show nI 0 - 1 = (-1 : Int32) from rfl, keyAt_m1, some_bind']) (fun g F1 r1 r2 r3 r4 r5 => ⟨F1, ua ar 4 g, ?_, fun k hk => r3 k (by omega), ua4 g⟩)
        rw [f_X11_set, mSet_in hi, if_neg (by decide), B.cl, r5, some_bind', if_neg d0, if_neg d1, if_pos d2, m_gI r4.1 F1 v _ 11 rfl, some_bind', r2, if_pos ((nI_eq0 (by omega)).mpr e0)]
      · refine plain (nI (nth (s.1 i) ((s.1 i).length - 1) / 2)) (by rw [f_X10_set, G.st, some_bind', cp, some_bind']; dsimp only; rw [if_neg d0, if_neg d1, if_pos d2, gI_ob H.2.1 rfl, some_bind', H.cl, show (1 : Int32) = nI 1 from rfl, nI_sub (by omega), keyAt_in H S (by omega), some_bind']) (fun g F1 r1 r2 r3 r4 r5 => ⟨F1, ua ar 4 g, ?_, fun k hk => r3 k (by omega), ua4 g⟩)
        have hr := r1 ((s.1 i).length - 1) (by omega)
        rw [kys_nth (by omega)] at hr
        rw [f_X11_set, mSet_in hi, if_neg (by decide), B.cl, r5, some_bind', if_neg d0, if_neg d1, if_pos d2, m_gI r4.1 F1 v _ 11 rfl, some_bind', r2, if_neg (fun q => e0 ((nI_eq0 (by omega)).mp q)), m_gR r4.1 F1 v _ 10 rfl, some_bind', some_bind', show (1 : Int32) = nI 1 from rfl, nI_sub (by omega), m_a4 r4.1 F1 v _ (by omega), some_bind', hr]
    by_cases d3 : c = 3
    · refine summed _ (by rw [f_X10_set, G.st, some_bind', cp, some_bind']; dsimp only; rw [if_neg d0, if_neg d1, if_neg d2, if_pos d3, H.cl, marked_ok H S hfu2, some_bind']) ?_ (Or.inl d3)
      rw [if_neg (by rw [d3]; decide)]
      unfold mkb
      rw [show (0 : Int32) = nI 0 from rfl, show (9999 : Int32) = nI 9999 from rfl, bel_zero S, nab_all S]
      congr 1
      refine smF_congr (fun j _ _ => ?_)
      unfold tmv
      rw [if_pos d3]
    by_cases d4 : c = 4
    · obtain ⟨C1, t1, t2, G1, t4⟩ := g_tree G hfu2 hi
      obtain ⟨arT, rt, tw, tk, tx, tr⟩ := id t2
      obtain ⟨g, F1, r1, r2, r3, r4, r5⟩ := mp C1 G1
      obtain ⟨x, hx1, hx2⟩ : ∃ x, f_X8_rootKey (mW C1 F v ar) 3 = some x ∧ f_X11_set fu (mW C1 F v ar) 123 (nI i) c = some (x, mW C1 F1 v (ua ar 4 g)) := by
        rcases tr with ⟨e0, er⟩ | ⟨r, e1, er, e2⟩
        · refine ⟨-1, ?_, ?_⟩
          · rw [f_X8_rootKey, tw.roo, some_bind', er, t2.cl, ckeyOf t2 (by omega) (Or.inl ⟨rfl, rfl⟩), some_bind']
          · rw [f_X11_set, mSet_in hi, if_neg (by decide), G1.1.mb.cl, r5, some_bind', if_neg d0, if_neg d1, if_neg d2, if_neg d3, if_pos d4, m_gI r4.1 F1 v _ 11 rfl, some_bind', r2, if_pos ((nI_eq0 (by omega)).mpr (by omega))]
        · have hr := r1 r e1
          obtain ⟨m, m1, m2⟩ := ahead_in (v := v) (F := F1) r4.1 hfu3 KK r1 (f := 0) (e := (s.1 i).length) (by omega) (by omega)
          have em : m = r := argm_u hinj (by omega) m2 ⟨by omega, by omega, fun z _ hz => e2 z (by omega)⟩
          subst em
          refine ⟨nI (nth (kys (s.1 i)) m), ?_, ?_⟩
          · rw [f_X8_rootKey, tw.roo, some_bind', er, t2.cl, ckeyOf t2 (by omega) (Or.inr ⟨m, e1, rfl, rfl⟩), some_bind']
          · rw [f_X11_set, mSet_in hi, if_neg (by decide), G1.1.mb.cl, r5, some_bind', if_neg d0, if_neg d1, if_neg d2, if_neg d3, if_pos d4, m_gI r4.1 F1 v _ 11 rfl, some_bind', r2, if_neg (fun q => by have := (nI_eq0 (by omega)).mp q; omega), m_gR r4.1 F1 v _ 10 rfl, some_bind', some_bind', mI_sub, r4.cl, show (0 : Int32) = nI 0 from rfl, m1, some_bind', m_a4 r4.1 F1 v _ (by omega), some_bind', hr]
      refine q_res G1 t4 ?_ hx2 (fun k hk => r3 k (by omega)) (ua4 g)
      rw [f_X10_set, G.st, some_bind', cp, some_bind']
      dsimp only
      rw [if_neg d0, if_neg d1, if_neg d2, if_neg d3, if_pos d4, some_bind', h.cl, t1, some_bind', t2.cl, hx1, some_bind']
    by_cases d5 : c = 5
    · obtain ⟨C1, t1, t2, G1, t4⟩ := g_tree G hfu2 hi
      obtain ⟨g, F1, r1, r2, r3, r4, r5⟩ := mp C1 G1
      obtain ⟨F2, m1, m2⟩ := mhigh_ok (v := v) (F := F1) r4.1 hfu3 KK r1 (by rw [r2, hkl])
      refine q_res G1 t4 (x := nI (hiF (pF (kys (s.1 i))) (kys (s.1 i)).length 0 0)) ?_ (F' := F2) (v' := v) (ar' := ua ar 4 g) ?_ (fun k hk => by rw [m2 k (by omega), r3 k (by omega)]) (ua4 g)
      · rw [f_X10_set, G.st, some_bind', cp, some_bind']
        dsimp only
        rw [if_neg d0, if_neg d1, if_neg d2, if_neg d3, if_neg d4, if_pos d5, some_bind', h.cl, t1, some_bind', t2.cl, chigh_ok hfu2 t2 KK, some_bind']
      · rw [f_X11_set, mSet_in hi, if_neg (by decide), G1.1.mb.cl, r5, some_bind', if_neg d0, if_neg d1, if_neg d2, if_neg d3, if_neg d4, if_pos d5, r4.cl, m1, some_bind']
    by_cases d6 : c = 6
    · refine plain (s.2 i) (by rw [f_X10_set, G.st, some_bind', cp, some_bind']; dsimp only; rw [if_neg d0, if_neg d1, if_neg d2, if_neg d3, if_neg d4, if_neg d5, if_pos d6, gI_ob H.2.1 rfl, some_bind']) (fun g F1 r1 r2 r3 r4 r5 => ⟨F1, ua ar 4 g, ?_, fun k hk => r3 k (by omega), ua4 g⟩)
      rw [f_X11_set, mSet_in hi, if_neg (by decide), B.cl, r5, some_bind', if_neg d0, if_neg d1, if_neg d2, if_neg d3, if_neg d4, if_neg d5, if_pos d6, r4.cl, r4.finger hi, some_bind']
    by_cases d7 : c = 7
    · refine summed (lsF (s.1 i) 1 (-1)) (by rw [f_X10_set, G.st, some_bind', cp, some_bind']; dsimp only; rw [if_neg d0, if_neg d1, if_neg d2, if_neg d3, if_neg d4, if_neg d5, if_neg d6, if_pos d7, H.cl, f_X0_leastDifference, bnd_eq, bnd_eq, show (1 : Int32) = nI 1 from rfl, cls_loop H S fu 1 _ (by omega) (by omega) (by omega), some_bind']) ?_ (Or.inr (Or.inl d7))
      rw [if_pos d7]
      rcases Nat.eq_zero_or_pos (s.1 i).length with q | q
      · rw [lsF_end _ _ (by omega), lsF_end _ _ (by omega)]
      · rw [lsF_s _ _ q]; rfl
    by_cases d8 : c = 8
    · obtain ⟨C1, t1, t2, G1, t4⟩ := g_tree G hfu2 hi
      obtain ⟨g, F1, r1, r2, r3, r4, r5⟩ := mp C1 G1
      obtain ⟨F2, g2, q1, q2⟩ := msum_ok (v := v) hfu3 hi c r4
      refine q_res G1 t4 (x := nI (smF (dep (pF (kys (s.1 i))) (kys (s.1 i)).length) 0 (kys (s.1 i)).length)) ?_ (F' := F2) (v' := v) (ar' := ua (ua ar 4 g) 4 g2) ?_ (fun k hk => by rw [q2 k (by omega), r3 k (by omega)]) (fun k hk => by rw [ua_ne _ _ (by omega), ua_ne _ _ (by omega)])
      · rw [f_X10_set, G.st, some_bind', cp, some_bind']
        dsimp only
        rw [if_neg d0, if_neg d1, if_neg d2, if_neg d3, if_neg d4, if_neg d5, if_neg d6, if_neg d7, if_pos d8, some_bind', h.cl, t1, some_bind', t2.cl, cdeps_ok hfu2 t2 KK, some_bind']
      · rw [if_neg d7] at q1
        rw [f_X11_set, mSet_in hi, if_neg (by decide), G1.1.mb.cl, r5, some_bind', if_neg d0, if_neg d1, if_neg d2, if_neg d3, if_neg d4, if_neg d5, if_neg d6, if_neg d7, if_pos d8, r4.cl, q1, some_bind', hkl]
        have e9 : smF (tmv c (s.1 i)) 0 (s.1 i).length = smF (dep (pF (kys (s.1 i))) (s.1 i).length) 0 (s.1 i).length := by
          refine smF_congr (fun j _ _ => ?_)
          unfold tmv
          rw [if_neg d3, if_pos d8]
        rw [← e9]
    by_cases d9 : c = 9
    · have hl := cstr_loop (fu := fu) H S fu 0 0 (by omega) (by omega)
      rw [Nat.zero_add] at hl
      refine summed (nI (smF (stG (s.1 i)) 0 (s.1 i).length)) (by rw [f_X10_set, G.st, some_bind', cp, some_bind']; dsimp only; rw [if_neg d0, if_neg d1, if_neg d2, if_neg d3, if_neg d4, if_neg d5, if_neg d6, if_neg d7, if_neg d8, if_pos d9, H.cl, f_X0_stretches, bnd_eq, bnd_eq, show (0 : Int32) = nI 0 from rfl, hl, some_bind']) ?_ (Or.inr (Or.inr (Or.inl d9)))
      rw [if_neg d7]
      congr 1
      refine smF_congr (fun j _ _ => ?_)
      unfold tmv
      rw [if_neg d3, if_neg d8, if_pos d9]
    by_cases d10 : c = 10
    · have hl := csum_loop (fu := fu) H S fu 0 0 (by omega) (by omega)
      rw [Nat.zero_add] at hl
      refine summed (nI (smF (fun j => nth (s.1 i) j / 2) 0 (s.1 i).length)) (by rw [f_X10_set, G.st, some_bind', cp, some_bind']; dsimp only; rw [if_neg d0, if_neg d1, if_neg d2, if_neg d3, if_neg d4, if_neg d5, if_neg d6, if_neg d7, if_neg d8, if_neg d9, if_pos d10, H.cl, f_X0_sum, bnd_eq, bnd_eq, show (0 : Int32) = nI 0 from rfl, hl, some_bind']) ?_ (Or.inr (Or.inr (Or.inr d10)))
      rw [if_neg d7]
      congr 1
      refine smF_congr (fun j _ _ => ?_)
      unfold tmv
      rw [if_neg d3, if_neg d8, if_neg d9]
    refine plain (-1) (by rw [f_X10_set, G.st, some_bind', cp, some_bind']; dsimp only; rw [if_neg d0, if_neg d1, if_neg d2, if_neg d3, if_neg d4, if_neg d5, if_neg d6, if_neg d7, if_neg d8, if_neg d9, if_neg d10]) (fun g F1 r1 r2 r3 r4 r5 => ⟨F1, ua ar 4 g, ?_, fun k hk => r3 k (by omega), ua4 g⟩)
    rw [f_X11_set, mSet_in hi, if_neg (by decide), B.cl, r5, some_bind', if_neg d0, if_neg d1, if_neg d2, if_neg d3, if_neg d4, if_neg d5, if_neg d6, if_neg d7, if_neg d8, if_neg d9, if_neg d10]
  · refine q_res G (fun _ _ => rfl) (x := -1) ?_ (F' := F) (v' := v) (ar' := ar) ?_ (fun _ _ => rfl) (fun _ _ => rfl)
    · rw [f_X10_set, G.st, some_bind', h.cl, heapAt_out ha, some_bind']
    · rw [f_X11_set, mSet_out ha, if_pos rfl]
end Q
end
section
/-! PAIR, CHEAPEST -/
section Q
variable {C : MW} {F : Nat → Int32} {v : Int64} {ar : Nat → Nat → Int32} {s : AS} {V : List AS} {n : Nat} {fu : Nat}
theorem k11_31 : ∀ k, k ∈ [11] → 1 ≤ k ∧ k < 31 := by decide
theorem pair_res (G : Good C F v ar s V n) (hfu : 20000 ≤ fu) (a b c : Int32) : Res C F ar s V (f_X10_pair fu (mW C F v ar) 0 a b c) (fun w => f_X11_pair fu w 123 a b c) := by
  have h := G.1.2.2.1
  have B := G.1.mb
  have O := G.1.2.2.2.1
  have hfu2 : 2000 ≤ fu := by omega
  have hfu3 : 100 ≤ fu := by omega
  rcases two_cases a b with ⟨t, o, ht, ho, hto, rfl, rfl⟩ | hab
  · have S := O.1 t ht
    have S2 := O.1 o ho
    have l1 := S.len
    have l2 := S2.len
    have hl := (evs_len S S2).2
    obtain ⟨w1, g1, g2, g3, g4, g5⟩ := cweave h G.2.1 O.1 hfu2 ht ho
    obtain ⟨C1, e1, e2, G1, e4⟩ := good_q G g5 k11_31 g3 g4
    subst e1
    have B1 := G1.1.mb
    obtain ⟨F1, k1, k2, k3⟩ := lays_ok (v := v) hfu2 ht ho B1
    have B2 : MB C1 F1 ar 0 s := B1.F B1.1 (k3 9 (by omega)) B1.2.2.2.1 O.1
    obtain ⟨a1, a2, a3, a4, a5, h11⟩ := G.2.1.2.1
    have cw : f_X7_weaveOf fu (mW C F v ar) 1 (13 + 2 * t) (13 + 2 * o) = some (11, mW C1 F v ar) := by
      rw [f_X7_weaveOf, h.wv, some_bind', cl_ob h11, g1, some_bind', g3.wv, some_bind']
    have fin : ∀ x, (∀ p : Option (Int32 × MW), p = some (x, mW C1 F v ar) → True) → f_X10_pair fu (mW C F v ar) 0 (nI t) (nI o) c = some (x, mW C1 F v ar) → f_X11_pair fu (mW C1 F v ar) 123 (nI t) (nI o) c = some (x, mW C1 F1 v ar) → Res C F ar s V (f_X10_pair fu (mW C F v ar) 0 (nI t) (nI o) c) (fun w => f_X11_pair fu w 123 (nI t) (nI o) c) := fun x _ hx hy => q_res G1 e4 hx hy (fun k hk => k3 k (by omega)) (fun _ _ => rfl)
    have cpre : f_X10_pair fu (mW C F v ar) 0 (nI t) (nI o) c = (if c = 0 then (gI (mW C1 F v ar) 9 11 0).bind fun x21 => some (x21, mW C1 F v ar) else if c = 1 then (gI (mW C1 F v ar) 9 11 1).bind fun x23 => some (x23, mW C1 F v ar) else if c = 2 then (gI (mW C1 F v ar) 9 11 2).bind fun x25 => some (x25, mW C1 F v ar) else if c = 3 then (gI (mW C1 F v ar) 9 11 4).bind fun x27 => (gI (mW C1 F v ar) 9 11 1).bind fun x28 => some ((x27 - x28), mW C1 F v ar) else if c = 4 then (gI (mW C1 F v ar) 9 11 3).bind fun x30 => some (x30, mW C1 F v ar) else if c = 5 then (gR (mW C1 F v ar) 10 0 0).bind fun x32 => (cl (mW C1 F v ar) 7 x32 (f_X7_whyNotJoin (mW C1 F v ar) x32 (13 + 2 * t) (13 + 2 * o))).bind fun q33 => if q33 = 0 then some ((1 : Int32), mW C1 F v ar) else some ((0 : Int32), mW C1 F v ar) else if c = 6 then (gR (mW C1 F v ar) 10 0 0).bind fun x37 => (cl (mW C1 F v ar) 7 x37 (f_X7_whyNotMelt (mW C1 F v ar) x37 (13 + 2 * o) 11)).bind fun q38 => if q38 = 0 then some ((1 : Int32), mW C1 F v ar) else some ((0 : Int32), mW C1 F v ar) else some ((-1 : Int32), mW C1 F v ar)) := by
      rw [f_X10_pair, G.st, some_bind', h.cl, heapAt_in h ht, some_bind']
      dsimp only
      rw [some_bind', h.cl, heapAt_in h ho, some_bind']
      dsimp only
      rw [if_neg (set_ne ht ho hto), some_bind', h.cl, cw, some_bind']
    have mpre : f_X11_pair fu (mW C1 F v ar) 123 (nI t) (nI o) c = (if c = 0 then (gI (mW C1 F1 v ar) 11 123 16).bind fun x8 => some (x8, mW C1 F1 v ar) else if c = 1 then (cl (mW C1 F1 v ar) 11 123 (f_X11_twins fu (mW C1 F1 v ar) 123 (nI t) (nI o))).bind fun q10 => some (q10, mW C1 F1 v ar) else if c = 2 then (gI (mW C1 F1 v ar) 11 123 17).bind fun x14 => some (x14, mW C1 F1 v ar) else if c = 3 then (cl (mW C1 F1 v ar) 11 123 (f_X11_many (mW C1 F1 v ar) 123 (nI t))).bind fun q16 => (cl (mW C1 F1 v ar) 11 123 (f_X11_many (mW C1 F1 v ar) 123 (nI o))).bind fun q19 => (cl (mW C1 F1 v ar) 11 123 (f_X11_twins fu (mW C1 F1 v ar) 123 (nI t) (nI o))).bind fun q22 => some (((q16 + q19) - ((2 : Int32) * q22)), mW C1 F1 v ar) else if c = 4 then (gI (mW C1 F1 v ar) 11 123 18).bind fun x26 => some (x26, mW C1 F1 v ar) else if c = 5 then (cl (mW C1 F1 v ar) 11 123 (f_X11_refusesJoin (mW C1 F1 v ar) 123 (nI t) (nI o))).bind fun q28 => if q28 = 0 then some ((1 : Int32), mW C1 F1 v ar) else some ((0 : Int32), mW C1 F1 v ar) else if c = 6 then (cl (mW C1 F1 v ar) 11 123 (f_X11_refusesMelt fu (mW C1 F1 v ar) 123 (nI t) (nI o))).bind fun q32 => if q32 = 0 then some ((1 : Int32), mW C1 F1 v ar) else some ((0 : Int32), mW C1 F1 v ar) else some ((-1 : Int32), mW C1 F1 v ar)) := by
      rw [f_X11_pair, B1.cl, mTwo_in ht ho hto, some_bind', if_neg (by decide), B1.cl, k1, some_bind']
    have tr : ∀ (x : Int32) (p : Option (Int32 × MW)), p = some (x, mW C1 F v ar) → True := fun _ _ _ => trivial
    by_cases d0 : c = 0
    · exact fin _ (tr _) (by rw [cpre, if_pos d0, gI_ob g2 rfl, some_bind']) (by rw [mpre, if_pos d0, m_gI B2.1 F1 v ar 16 rfl, some_bind', k2.1])
    by_cases d1 : c = 1
    · exact fin _ (tr _) (by rw [cpre, if_neg d0, if_pos d1, gI_ob g2 rfl, some_bind']) (by rw [mpre, if_neg d0, if_pos d1, B2.cl, twins_ok hfu3 ht ho B2, some_bind'])
    by_cases d2 : c = 2
    · exact fin _ (tr _) (by rw [cpre, if_neg d0, if_neg d1, if_pos d2, gI_ob g2 rfl, some_bind']) (by rw [mpre, if_neg d0, if_neg d1, if_pos d2, m_gI B2.1 F1 v ar 17 rfl, some_bind', k2.2.1])
    by_cases d3 : c = 3
    · have tl := twN_le (s.1 t) (s.1 o)
      have hle : twN (s.1 t) (s.1 o) ≤ (evs (s.1 t) (s.1 o)).length := by
        rw [← (evs_len S S2).1]; exact List.count_le_length
      refine fin (nI ((evs (s.1 t) (s.1 o)).length - twN (s.1 t) (s.1 o))) (tr _) ?_ ?_
      · rw [cpre, if_neg d0, if_neg d1, if_neg d2, if_pos d3, gI_ob g2 rfl, some_bind', gI_ob g2 rfl, some_bind', nI_sub hle]
      · rw [mpre, if_neg d0, if_neg d1, if_neg d2, if_pos d3, B2.cl, B2.many ht, some_bind', B2.cl, B2.many ho, some_bind', B2.cl, twins_ok hfu3 ht ho B2, some_bind', nI_add, show (2 : Int32) = nI 2 from rfl, nI_mul, nI_sub (by omega)]
        congr 3
        omega
    by_cases d4 : c = 4
    · exact fin _ (tr _) (by rw [cpre, if_neg d0, if_neg d1, if_neg d2, if_neg d3, if_pos d4, gI_ob g2 rfl, some_bind']) (by rw [mpre, if_neg d0, if_neg d1, if_neg d2, if_neg d3, if_pos d4, m_gI B2.1 F1 v ar 18 rfl, some_bind', k2.2.2.1])
    by_cases d5 : c = 5
    · have e : wOf (wJoin s t o) = 0 ↔ wJoin s t o = 0 := by
        rcases wJoin_v s t o with q | q | q | q <;> rw [q] <;> decide
      by_cases q : wJoin s t o = 0
      · exact fin 1 (tr _) (by rw [cpre, if_neg d0, if_neg d1, if_neg d2, if_neg d3, if_neg d4, if_pos d5, G1.st, some_bind', g3.cl, cwhy_ok g3 O ht ho, some_bind', if_pos q]) (by rw [mpre, if_neg d0, if_neg d1, if_neg d2, if_neg d3, if_neg d4, if_pos d5, B2.cl, mrJoin B2 ht ho hto, some_bind', if_pos (e.mpr q)])
      · exact fin 0 (tr _) (by rw [cpre, if_neg d0, if_neg d1, if_neg d2, if_neg d3, if_neg d4, if_pos d5, G1.st, some_bind', g3.cl, cwhy_ok g3 O ht ho, some_bind', if_neg q]) (by rw [mpre, if_neg d0, if_neg d1, if_neg d2, if_neg d3, if_neg d4, if_pos d5, B2.cl, mrJoin B2 ht ho hto, some_bind', if_neg (fun z => q (e.mp z))])
    by_cases d6 : c = 6
    · have hc := rs_cost S S2
      have e : wOf (xMelt s t o).1 = (if (s.1 o).length = 0 then 2 else if 60 < (evs (s.1 t) (s.1 o)).length then 4 else 0) := by
        unfold xMelt
        split
        · rw [wOf_2]
        · split
          · rw [wOf_4]
          · rw [wOf_n (by omega)]
      by_cases q1 : (s.1 o).length = 0
      · exact fin 0 (tr _) (by rw [cpre, if_neg d0, if_neg d1, if_neg d2, if_neg d3, if_neg d4, if_neg d5, if_pos d6, G1.st, some_bind', g3.cl, whyNot_ok g3 O.1 ht ho g2, some_bind', if_pos q1, if_neg (by decide)]) (by rw [mpre, if_neg d0, if_neg d1, if_neg d2, if_neg d3, if_neg d4, if_neg d5, if_pos d6, B2.cl, mrMelt B2 hfu3 ht ho hto, some_bind', e, if_pos q1, if_neg (by decide)])
      · by_cases q2 : 60 < (evs (s.1 t) (s.1 o)).length
        · exact fin 0 (tr _) (by rw [cpre, if_neg d0, if_neg d1, if_neg d2, if_neg d3, if_neg d4, if_neg d5, if_pos d6, G1.st, some_bind', g3.cl, whyNot_ok g3 O.1 ht ho g2, some_bind', if_neg q1, if_pos q2, if_neg (by decide)]) (by rw [mpre, if_neg d0, if_neg d1, if_neg d2, if_neg d3, if_neg d4, if_neg d5, if_pos d6, B2.cl, mrMelt B2 hfu3 ht ho hto, some_bind', e, if_neg q1, if_pos q2, if_neg (by decide)])
        · exact fin 1 (tr _) (by rw [cpre, if_neg d0, if_neg d1, if_neg d2, if_neg d3, if_neg d4, if_neg d5, if_pos d6, G1.st, some_bind', g3.cl, whyNot_ok g3 O.1 ht ho g2, some_bind', if_neg q1, if_neg q2, if_pos rfl]) (by rw [mpre, if_neg d0, if_neg d1, if_neg d2, if_neg d3, if_neg d4, if_neg d5, if_pos d6, B2.cl, mrMelt B2 hfu3 ht ho hto, some_bind', e, if_neg q1, if_neg q2, if_pos rfl])
    exact fin (-1) (tr _) (by rw [cpre, if_neg d0, if_neg d1, if_neg d2, if_neg d3, if_neg d4, if_neg d5, if_neg d6]) (by rw [mpre, if_neg d0, if_neg d1, if_neg d2, if_neg d3, if_neg d4, if_neg d5, if_neg d6])
  · refine q_res G (fun _ _ => rfl) (x := -1) ?_ (F' := F) (v' := v) (ar' := ar) ?_ (fun _ _ => rfl) (fun _ _ => rfl)
    · rw [f_X10_pair, G.st, some_bind', h.cl]
      rcases set_cases a with ⟨i, hi, rfl⟩ | ha
      · rw [heapAt_in h hi, some_bind']
        dsimp only
        rw [some_bind', h.cl]
        rcases set_cases b with ⟨j, hj, rfl⟩ | hb
        · rw [heapAt_in h hj, some_bind']
          dsimp only
          rw [if_pos]
          rcases hab with h | h | h
          · exact absurd ⟨(in_set hi).1, (in_set hi).2, trivial⟩ (out_not (P := True) h)
          · exact absurd ⟨(in_set hj).1, (in_set hj).2, trivial⟩ (out_not (P := True) h)
          · exact h
        · rw [heapAt_out hb, some_bind']
      · rw [heapAt_out ha, some_bind']
        dsimp only
        rw [some_bind', h.cl]
        rcases set_cases b with ⟨j, hj, rfl⟩ | hb
        · rw [heapAt_in h hj, some_bind']
        · rw [heapAt_out hb, some_bind']
    · rw [f_X11_pair, B.cl, mTwo_out hab, some_bind', if_pos rfl]
/-- the cheapest so far -/
abbrev ChT : Type := Option (Nat × Nat × Nat)
def chM (o t x : Nat) (c : ChT) : ChT := match c with
  | none => some (o, t, x)
  | some q => if x < q.2.2 then some (o, t, x) else some q
def chS (hs : Nat → List Nat) (o t : Nat) (c : ChT) : ChT :=
  if (hs o).length = 0 ∨ (hs t).length = 0 ∨ 60 < (evs (hs o) (hs t)).length then c
  else chM o t (rsOf (hs o) (hs t)).2.1 c
def cv1 (c : ChT) : Int32 := match c with | none => -1 | some q => nI q.1
def cv2 (c : ChT) : Int32 := match c with | none => -1 | some q => nI q.2.1
def cv3 (c : ChT) : Int32 := match c with | none => -1 | some q => nI q.2.2
def cvm (c : ChT) : Int32 := match c with | none => 0 | some q => nI q.2.2
def ChB (c : ChT) : Prop := match c with | none => True | some q => q.1 < 8 ∧ q.2.2 < 200000
def St1 (w : MW) (c : ChT) : Prop := w[1]? = some (.inr (7, [.ref 2, .ref 3, .ref 11, .ref 29, .ref 12, .int (cv1 c), .int (cv2 c), .int (cv3 c)]))
theorem CS.st1 {w : MW} {hs : Nat → List Nat} {fg : Nat → Int32} (h : CS w hs fg) {a b c : Int32} : CS (w.set 1 (.inr (7, [.ref 2, .ref 3, .ref 11, .ref 29, .ref 12, .int a, .int b, .int c]))) hs fg := by
  obtain ⟨⟨a0, b0, c0, h1⟩, ⟨f, h2, h3⟩, h4⟩ := h
  have ch := Chg.st (ks := [1]) w (a := 1) (.inr (7, [.ref 2, .ref 3, .ref 11, .ref 29, .ref 12, .int a, .int b, .int c])) (by simp)
  exact ⟨⟨a, b, c, get_set_eq h1⟩, ⟨f, ch.at (by simp) h2, h3⟩, fun i hi => (h4 i hi).chg ch (by simp; omega) (by simp; omega)⟩
theorem take_ok2 {w : MW} (h : CS w s.1 s.2) (Z : Sc w) (O : ∀ q, q < 8 → SOK (s.1 q)) {o t : Nat} (ho : o < 8) (ht : t < 8) {c : ChT} (hc : St1 w c) (hB : ChB c) (hW : WC w (twN (s.1 o) (s.1 t)) (evs (s.1 o) (s.1 t)).length (rsOf (s.1 o) (s.1 t))) (h0 : ¬ (s.1 o).length = 0) (h1 : ¬ (s.1 t).length = 0) : ∃ w', f_X7_takeIfCheaper w 1 (nI o) (nI t) = some w' ∧ CS w' s.1 s.2 ∧ Sc w' ∧ St1 w' (chS s.1 o t c) ∧ Chg [1] w w' := by
  have hcost := rs_cost (O o ho) (O t ht)
  have why := whyNot_ok h O ho ht hW
  rw [if_neg h1] at why
  unfold St1 at hc
  have no : f_X7_takeIfCheaper_27 w 1 (nI o) (nI t) 0 = some w := by
    rw [f_X7_takeIfCheaper_27, bnd_eq, if_pos rfl]
  have yes : ∃ w', f_X7_takeIfCheaper_27 w 1 (nI o) (nI t) 1 = some w' ∧ CS w' s.1 s.2 ∧ Sc w' ∧ St1 w' (if 60 < (evs (s.1 o) (s.1 t)).length then c else some (o, t, (rsOf (s.1 o) (s.1 t)).2.1)) ∧ Chg [1] w w' := by
    rw [f_X7_takeIfCheaper_27, bnd_eq, if_neg (by decide), h.arr, some_bind', h.heap ht, some_bind', h.wv, some_bind', h.cl, why, some_bind']
    by_cases q : 60 < (evs (s.1 o) (s.1 t)).length
    · rw [if_pos q, if_neg (by decide), if_pos q]
      exact ⟨w, rfl, h, Z, hc, Chg.rf _ _⟩
    · rw [if_neg q, if_pos rfl, if_neg q, pV_ob hc (by simp), some_bind']
      dsimp only [List.set]
      have c1 := get_set_eq (x := .inr (7, [.ref 2, .ref 3, .ref 11, .ref 29, .ref 12, .int (nI o), .int (cv2 c), .int (cv3 c)])) hc
      have H1 := h.st1 (a := nI o) (b := cv2 c) (c := cv3 c)
      rw [pV_ob c1 (by simp), some_bind']
      dsimp only [List.set]
      have c2 := get_set_eq (x := .inr (7, [.ref 2, .ref 3, .ref 11, .ref 29, .ref 12, .int (nI o), .int (nI t), .int (cv3 c)])) c1
      have H2 := H1.st1 (a := nI o) (b := nI t) (c := cv3 c)
      have ch2 := (Chg.st (ks := [1]) w (a := 1) (.inr (7, [.ref 2, .ref 3, .ref 11, .ref 29, .ref 12, .int (nI o), .int (cv2 c), .int (cv3 c)])) (by simp)).tr (Chg.st (ks := [1]) _ (a := 1) (.inr (7, [.ref 2, .ref 3, .ref 11, .ref 29, .ref 12, .int (nI o), .int (nI t), .int (cv3 c)])) (by simp))
      have W2 := ch2.at (k := 11) (by simp) hW
      rw [H2.wv, some_bind', gI_ob W2 rfl, some_bind', pV_ob c2 (by simp), some_bind']
      have ch3 := ch2.tr (Chg.st (ks := [1]) _ (a := 1) (.inr (7, [.ref 2, .ref 3, .ref 11, .ref 29, .ref 12, .int (nI o), .int (nI t), .int (nI (rsOf (s.1 o) (s.1 t)).2.1)])) (by simp))
      exact ⟨_, rfl, H2.st1, Z.chg ch3 (fun k hk => by simp at hk; omega), get_set_eq c2, ch3⟩
  rw [f_X7_takeIfCheaper, gI_ob hc rfl, some_bind']
  have e0 : chS s.1 o t c = if 60 < (evs (s.1 o) (s.1 t)).length then c else chM o t (rsOf (s.1 o) (s.1 t)).2.1 c := by
    unfold chS
    by_cases q : 60 < (evs (s.1 o) (s.1 t)).length
    · rw [if_pos q, if_pos (Or.inr (Or.inr q))]
    · rw [if_neg q, if_neg (fun z => z.elim h0 (fun z => z.elim h1 q))]
  cases c with
  | none =>
    rw [if_pos (by rfl), e0]
    exact yes
  | some q =>
    have hq : q.2.2 < 200000 := hB.2
    rw [if_neg (show ¬ cv3 (some q) = -1 from m1_ne q.2.2 (by omega)), h.wv, some_bind', gI_ob hW rfl, some_bind', some_bind', e0]
    show ∃ w', _ ∧ _ ∧ _ ∧ St1 w' (if 60 < (evs (s.1 o) (s.1 t)).length then some q else if (rsOf (s.1 o) (s.1 t)).2.1 < q.2.2 then some (o, t, (rsOf (s.1 o) (s.1 t)).2.1) else some q) ∧ _
    by_cases z : q.2.2 ≤ (rsOf (s.1 o) (s.1 t)).2.1
    · rw [if_pos (show cv3 (some q) ≤ _ from nI_le z (by omega)), if_neg (show ¬ (rsOf (s.1 o) (s.1 t)).2.1 < q.2.2 by omega), no]
      refine ⟨w, rfl, h, Z, ?_, Chg.rf _ _⟩
      split
      · exact hc
      · exact hc
    · rw [if_neg (show ¬ cv3 (some q) ≤ _ from nI_ge (by omega) (by omega)), if_pos (show (rsOf (s.1 o) (s.1 t)).2.1 < q.2.2 by omega)]
      exact yes
theorem chS_b {hs : Nat → List Nat} (O : ∀ q, q < 8 → SOK (hs q)) {o t : Nat} (ho : o < 8) (ht : t < 8) {c : ChT} (h : ChB c) : ChB (chS hs o t c) := by
  have hcost := rs_cost (O o ho) (O t ht)
  unfold chS
  split
  · exact h
  · cases c with
    | none => exact ⟨ho, hcost⟩
    | some q =>
      unfold chM
      dsimp only
      split
      · exact ⟨ho, hcost⟩
      · exact h
/-- all pairs from (o, t) on -/
def chI (hs : Nat → List Nat) (o : Nat) : Nat → Nat → ChT → ChT
  | _, 0, c => c
  | t, n + 1, c => chI hs o (t + 1) n (chS hs o t c)
def chO (hs : Nat → List Nat) : Nat → Nat → ChT → ChT
  | _, 0, c => c
  | o, n + 1, c => chO hs (o + 1) n (chI hs o (o + 1) (7 - o) c)
theorem chI_b {hs : Nat → List Nat} (O : ∀ q, q < 8 → SOK (hs q)) {o : Nat} (ho : o < 8) : ∀ n t c, t + n ≤ 8 → ChB c → ChB (chI hs o t n c)
  | 0, _, _, _, h => h
  | n + 1, t, c, ht, h => chI_b O ho n (t + 1) _ (by omega) (chS_b O ho (by omega) h)
theorem cfind_in (O : AOK s.1) (hfu : 2000 ≤ fu) {lr : MW → Nat → Int32 → Option MW} {o : Nat} (ho : o < 8) : ∀ N t c w, CS w s.1 s.2 → Sc w → St1 w c → ChB c → t ≤ 8 → 8 - t < N → ∃ w', f_X7_findCheapest_27 fu lr N w 1 (nI o) (nI t) = lr w' 1 (nI (o + 1)) ∧ CS w' s.1 s.2 ∧ Sc w' ∧ St1 w' (chI s.1 o t (8 - t) c) ∧ Chg [1, 11] w w' := by
  intro N
  induction N with
  | zero => intro t c w _ _ _ _ _ hN; omega
  | succ N ih =>
    intro t c w h Z hc hB ht hN
    rw [f_X7_findCheapest_27]
    by_cases c8 : 8 ≤ t
    · rw [if_pos (show (8 : Int32) ≤ nI t from nI_le (a := 8) c8 (by omega)), bnd_eq, nI_1, show 8 - t = 0 by omega]
      exact ⟨w, rfl, h, Z, hc, Chg.rf _ _⟩
    · have ht8 : t < 8 := by omega
      have l1 := (O.1 o ho).len
      have l2 := (O.1 t ht8).len
      have e8 : 8 - t = (8 - (t + 1)) + 1 := by omega
      have skip : chS s.1 o t c = c → ∃ w', f_X7_findCheapest_82 fu lr (f_X7_findCheapest_27 fu lr N) w 1 (nI o) (nI t) = lr w' 1 (nI (o + 1)) ∧ CS w' s.1 s.2 ∧ Sc w' ∧ St1 w' (chI s.1 o t (8 - t) c) ∧ Chg [1, 11] w w' := by
        intro e
        rw [f_X7_findCheapest_82, bnd_eq, nI_1, e8]
        show ∃ w', _ ∧ _ ∧ _ ∧ St1 w' (chI s.1 o (t + 1) (8 - (t + 1)) (chS s.1 o t c)) ∧ _
        rw [e]
        exact ih (t + 1) c w h Z hc hB (by omega) (by omega)
      rw [if_neg (show ¬ (8 : Int32) ≤ nI t from nI_ge (b := 8) ht8 (by omega)), h.arr, some_bind', h.heap ho, some_bind', gI_ob (h.ha ho).2.1 rfl, some_bind']
      by_cases z0 : (s.1 o).length = 0
      · rw [if_pos ((nI_le0 (by omega)).mpr z0)]
        exact skip (by unfold chS; rw [if_pos (Or.inl z0)])
      · rw [if_neg (fun q => z0 ((nI_le0 (by omega)).mp q)), some_bind', h.heap ht8, some_bind', gI_ob (h.ha ht8).2.1 rfl, some_bind']
        by_cases z1 : (s.1 t).length = 0
        · rw [if_pos ((nI_le0 (by omega)).mpr z1)]
          exact skip (by unfold chS; rw [if_pos (Or.inr (Or.inl z1))])
        · obtain ⟨w1, g1, g2, g3, g4, g5⟩ := cweave h Z O.1 hfu ho ht8
          have hc1 : St1 w1 c := g5.at (by simp) hc
          obtain ⟨w2, k1, k2, k3, k4, k5⟩ := take_ok2 g3 g4 O.1 ho ht8 hc1 hB g2 z0 z1
          obtain ⟨w3, m1, m2, m3, m4, m5⟩ := ih (t + 1) _ w2 k2 k3 k4 (chS_b O.1 ho ht8 hB) (by omega) (by omega)
          obtain ⟨a1, a2, a3, a4, a5, h11⟩ := Z.2.1
          rw [if_neg (fun q => z1 ((nI_le0 (by omega)).mp q)), h.wv, some_bind', some_bind', h.heap ho, some_bind', some_bind', h.heap ht8, some_bind', cl_ob h11, g1, some_bind', g3.cl, k1, some_bind', f_X7_findCheapest_82, bnd_eq, nI_1, m1, e8]
          exact ⟨w3, rfl, m2, m3, m4, ((g5.mono (by simp)).tr (k5.mono (by simp))).tr m5⟩
theorem cfind_out (O : AOK s.1) (hfu : 2000 ≤ fu) : ∀ N o c w, CS w s.1 s.2 → Sc w → St1 w c → ChB c → o ≤ 8 → 8 - o < N → ∃ w', f_X7_findCheapest_17 fu N w 1 (nI o) = some w' ∧ CS w' s.1 s.2 ∧ Sc w' ∧ St1 w' (chO s.1 o (8 - o) c) ∧ Chg [1, 11] w w' := by
  intro N
  induction N with
  | zero => intro o c w _ _ _ _ _ hN; omega
  | succ N ih =>
    intro o c w h Z hc hB ho hN
    rw [f_X7_findCheapest_17]
    by_cases c8 : 8 ≤ o
    · rw [if_pos (show (8 : Int32) ≤ nI o from nI_le (a := 8) c8 (by omega)), show 8 - o = 0 by omega]
      exact ⟨w, rfl, h, Z, hc, Chg.rf _ _⟩
    · have ho8 : o < 8 := by omega
      obtain ⟨w1, g1, g2, g3, g4, g5⟩ := cfind_in (lr := f_X7_findCheapest_17 fu N) O hfu ho8 fu (o + 1) c w h Z hc hB (by omega) (by omega)
      rw [show 8 - (o + 1) = 7 - o by omega] at g4
      obtain ⟨w2, k1, k2, k3, k4, k5⟩ := ih (o + 1) _ w1 g2 g3 g4 (chI_b O.1 ho8 _ _ _ (by omega) hB) (by omega) (by omega)
      rw [if_neg (show ¬ (8 : Int32) ≤ nI o from nI_ge (b := 8) ho8 (by omega)), bnd_eq, nI_1, g1, k1, show 8 - o = (8 - (o + 1)) + 1 by omega]
      exact ⟨w2, rfl, k2, k3, k4, g5.tr k5⟩
theorem mfind_in (hfu : 2000 ≤ fu) {lr : MW → Nat → Int32 → Int32 → Int32 → Int32 → Int32 → Option (Int32 × MW)} {what : Int32} {o : Nat} (ho : o < 8) : ∀ N t c F, MB C F ar 0 s → ChB c → t ≤ 8 → o < t → 8 - t < N → ∃ F', f_X11_cheapest_23 fu lr N (mW C F v ar) 123 what (cv1 c) (cv2 c) (cvm c) (nI o) (nI t) = lr (mW C F' v ar) 123 what (cv1 (chI s.1 o t (8 - t) c)) (cv2 (chI s.1 o t (8 - t) c)) (cvm (chI s.1 o t (8 - t) c)) (nI (o + 1)) ∧ FS F F' := by
  intro N
  induction N with
  | zero => intro t c F _ _ _ _ hN; omega
  | succ N ih =>
    intro t c F B hB ht hot hN
    rw [f_X11_cheapest_23]
    by_cases c8 : 8 ≤ t
    · rw [if_pos (show (8 : Int32) ≤ nI t from nI_le (a := 8) c8 (by omega)), bnd_eq, nI_1, show 8 - t = 0 by omega]
      exact ⟨F, rfl, fun _ _ => rfl⟩
    · have ht8 : t < 8 := by omega
      have hto : o ≠ t := by omega
      have S := B.2.2.2.2 o ho
      have S2 := B.2.2.2.2 t ht8
      have l1 := S.len
      have l2 := S2.len
      have hcost := rs_cost S S2
      have e8 : 8 - t = (8 - (t + 1)) + 1 := by omega
      have nx : ∀ F1 c', FS F F1 → c' = chS s.1 o t c → ∃ F', f_X11_cheapest_90 fu lr (f_X11_cheapest_23 fu lr N) (mW C F1 v ar) 123 what (cv1 c') (cv2 c') (cvm c') (nI o) (nI t) = lr (mW C F' v ar) 123 what (cv1 (chI s.1 o t (8 - t) c)) (cv2 (chI s.1 o t (8 - t) c)) (cvm (chI s.1 o t (8 - t) c)) (nI (o + 1)) ∧ FS F F' := by
        intro F1 c' hF hc'
        subst hc'
        obtain ⟨F2, k1, k2⟩ := ih (t + 1) (chS s.1 o t c) F1 (B.F B.1 (hF 9 (by omega)) B.2.2.2.1 B.2.2.2.2) (chS_b B.2.2.2.2 ho ht8 hB) (by omega) (by omega) (by omega)
        rw [f_X11_cheapest_90, bnd_eq, nI_1, k1, e8]
        exact ⟨F2, rfl, hF.tr k2⟩
      have e : wOf (xMelt s o t).1 = (if (s.1 t).length = 0 then 2 else if 60 < (evs (s.1 o) (s.1 t)).length then 4 else 0) := by
        unfold xMelt
        split
        · rw [wOf_2]
        · split
          · rw [wOf_4]
          · rw [wOf_n (by omega)]
      rw [if_neg (show ¬ (8 : Int32) ≤ nI t from nI_ge (b := 8) ht8 (by omega)), B.cl, B.many ho, some_bind']
      by_cases z0 : (s.1 o).length = 0
      · rw [if_pos ((nI_eq0 (by omega)).mpr z0)]
        exact nx F c (fun _ _ => rfl) (by unfold chS; rw [if_pos (Or.inl z0)])
      · rw [if_neg (fun q => z0 ((nI_eq0 (by omega)).mp q)), B.cl, mrMelt B (by omega) ho ht8 hto, some_bind', e]
        by_cases z1 : (s.1 t).length = 0
        · rw [if_pos z1, if_neg (by decide)]
          exact nx F c (fun _ _ => rfl) (by unfold chS; rw [if_pos (Or.inr (Or.inl z1))])
        · rw [if_neg z1]
          by_cases z2 : 60 < (evs (s.1 o) (s.1 t)).length
          · rw [if_pos z2, if_neg (by decide)]
            exact nx F c (fun _ _ => rfl) (by unfold chS; rw [if_pos (Or.inr (Or.inr z2))])
          · obtain ⟨F1, g1, g2, g3⟩ := lays_ok (v := v) hfu ho ht8 B
            rw [if_neg z2, if_pos (by decide), B.cl, g1, some_bind']
            have ech : chS s.1 o t c = chM o t (rsOf (s.1 o) (s.1 t)).2.1 c := by
              unfold chS
              rw [if_neg (fun z => z.elim z0 (fun z => z.elim z1 z2))]
            have k78 : f_X11_cheapest_78 fu lr (f_X11_cheapest_23 fu lr N) (mW C F1 v ar) 123 what (nI o) (nI t) = f_X11_cheapest_90 fu lr (f_X11_cheapest_23 fu lr N) (mW C F1 v ar) 123 what (cv1 (some (o, t, (rsOf (s.1 o) (s.1 t)).2.1))) (cv2 (some (o, t, (rsOf (s.1 o) (s.1 t)).2.1))) (cvm (some (o, t, (rsOf (s.1 o) (s.1 t)).2.1))) (nI o) (nI t) := by
              rw [f_X11_cheapest_78, bnd_eq, bnd_eq, m_gI B.1 F1 v ar 17 rfl, some_bind', bnd_eq, g2.2.1]; rfl
            cases c with
            | none =>
              rw [if_pos (by rfl), k78]
              exact nx F1 _ g3 ech.symm
            | some q =>
              have hq := hB.2
              have hq1 := hB.1
              rw [if_neg (show ¬ cv1 (some q) = -1 from m1_ne q.1 (by omega)), m_gI B.1 F1 v ar 17 rfl, some_bind', g2.2.1]
              by_cases z : (rsOf (s.1 o) (s.1 t)).2.1 < q.2.2
              · rw [if_pos (show nI _ < cvm (some q) from nI_lt z (by omega)), k78]
                exact nx F1 _ g3 (by rw [ech]; unfold chM; dsimp only; rw [if_pos z])
              · rw [if_neg (show ¬ nI _ < cvm (some q) from nI_nlt (by omega) (by omega))]
                exact nx F1 _ g3 (by rw [ech]; unfold chM; dsimp only; rw [if_neg z])
/-- the model's answer -/
def chA (what : Int32) (c : ChT) : Int32 := if cv1 c = -1 then -1 else if what = 0 then cv1 c else if what = 1 then cv2 c else if what = 2 then cvm c else -1
theorem mfind_out (hfu : 2000 ≤ fu) {what : Int32} : ∀ N o c F, MB C F ar 0 s → ChB c → o ≤ 8 → 8 - o < N → ∃ F', f_X11_cheapest_10 fu N (mW C F v ar) 123 what (cv1 c) (cv2 c) (cvm c) (nI o) = some (chA what (chO s.1 o (8 - o) c), mW C F' v ar) ∧ FS F F' := by
  intro N
  induction N with
  | zero => intro o c F _ _ _ hN; omega
  | succ N ih =>
    intro o c F B hB ho hN
    rw [f_X11_cheapest_10]
    by_cases c8 : 8 ≤ o
    · rw [if_pos (show (8 : Int32) ≤ nI o from nI_le (a := 8) c8 (by omega)), show 8 - o = 0 by omega]
      refine ⟨F, ?_, fun _ _ => rfl⟩
      show _ = some (chA what c, _)
      unfold chA
      by_cases q : cv1 c = -1
      · rw [if_pos q, if_pos q]
      · rw [if_neg q, if_neg q]
        by_cases q0 : what = 0
        · rw [if_pos q0, if_pos q0]
        · rw [if_neg q0, if_neg q0]
          by_cases q1 : what = 1
          · rw [if_pos q1, if_pos q1]
          · rw [if_neg q1, if_neg q1]
            by_cases q2 : what = 2
            · rw [if_pos q2, if_pos q2]
            · rw [if_neg q2, if_neg q2]
    · have ho8 : o < 8 := by omega
      obtain ⟨F1, g1, g2⟩ := mfind_in (v := v) (lr := f_X11_cheapest_10 fu N) (what := what) hfu ho8 fu (o + 1) c F B hB (by omega) (by omega) (by omega)
      rw [show 8 - (o + 1) = 7 - o by omega] at g1
      obtain ⟨F2, k1, k2⟩ := ih (o + 1) (chI s.1 o (o + 1) (7 - o) c) F1 (B.F B.1 (g2 9 (by omega)) B.2.2.2.1 B.2.2.2.2) (chI_b B.2.2.2.2 ho8 _ _ _ (by omega) hB) (by omega) (by omega)
      rw [if_neg (show ¬ (8 : Int32) ≤ nI o from nI_ge (b := 8) ho8 (by omega)), bnd_eq, nI_1, g1, k1, show 8 - o = (8 - (o + 1)) + 1 by omega]
      exact ⟨F2, rfl, g2.tr k2⟩
theorem chO_b {hs : Nat → List Nat} (O : ∀ q, q < 8 → SOK (hs q)) : ∀ n o c, o + n ≤ 8 → ChB c → ChB (chO hs o n c)
  | 0, _, _, _, h => h
  | n + 1, o, c, ho, h => chO_b O n (o + 1) _ (by omega) (chI_b O (by omega) _ _ _ (by omega) h)
theorem k111_31 : ∀ k, k ∈ [1, 11] → 1 ≤ k ∧ k < 31 := by decide
theorem cheapest_res (G : Good C F v ar s V n) (hfu : 20000 ≤ fu) (what : Int32) : Res C F ar s V (f_X10_cheapest fu (mW C F v ar) 0 what) (fun w => f_X11_cheapest fu w 123 what) := by
  have h := G.1.2.2.1
  have O := G.1.2.2.2.1
  have hfu2 : 2000 ≤ fu := by omega
  obtain ⟨a, b, c, h1⟩ := id h.1
  have c1 := get_set_eq (x := .inr (7, [.ref 2, .ref 3, .ref 11, .ref 29, .ref 12, .int (-1), .int b, .int c])) h1
  have c2 := get_set_eq (x := .inr (7, [.ref 2, .ref 3, .ref 11, .ref 29, .ref 12, .int (-1), .int (-1), .int c])) c1
  have c3 := get_set_eq (x := .inr (7, [.ref 2, .ref 3, .ref 11, .ref 29, .ref 12, .int (-1), .int (-1), .int (-1)])) c2
  have ch := ((Chg.st (ks := [1]) (mW C F v ar) (a := 1) (.inr (7, [.ref 2, .ref 3, .ref 11, .ref 29, .ref 12, .int (-1), .int b, .int c])) (by simp)).tr (Chg.st (ks := [1]) _ (a := 1) (.inr (7, [.ref 2, .ref 3, .ref 11, .ref 29, .ref 12, .int (-1), .int (-1), .int c])) (by simp))).tr (Chg.st (ks := [1]) _ (a := 1) (.inr (7, [.ref 2, .ref 3, .ref 11, .ref 29, .ref 12, .int (-1), .int (-1), .int (-1)])) (by simp))
  obtain ⟨w1, g1, g2, g3, g4, g5⟩ := cfind_out (fu := fu) O hfu2 fu 0 none _ ((h.st1).st1).st1 (G.2.1.chg ch (fun k hk => by simp at hk; omega)) c3 trivial (by omega) (by omega)
  obtain ⟨C1, e1, e2, G1, e4⟩ := good_q G ((ch.mono (by simp)).tr g5) k111_31 g2 g3
  subst e1
  obtain ⟨F1, k1, k2⟩ := mfind_out (v := v) (what := what) hfu2 fu 0 none F G1.1.mb trivial (by omega) (by omega)
  have hb := chO_b (hs := s.1) O.1 8 0 none (by omega) trivial
  have cpre : f_X7_findCheapest fu (mW C F v ar) 1 = some (mW C1 F v ar) := by
    rw [f_X7_findCheapest, pV_ob h1 (by simp), some_bind']
    dsimp only [List.set]
    rw [pV_ob c1 (by simp), some_bind']
    dsimp only [List.set]
    rw [pV_ob c2 (by simp), some_bind']
    dsimp only [List.set]
    rw [bnd_eq]
    exact g1
  refine q_res G1 e4 (x := chA what (chO s.1 0 8 none)) ?_ (F' := F1) (v' := v) (ar' := ar) ?_ (fun k hk => k2 k (by omega)) (fun _ _ => rfl)
  · rw [f_X10_cheapest, G.st, some_bind', h.cl, cpre, some_bind', G1.st, some_bind', gI_ob g4 rfl, some_bind']
    show _ = some (chA what (chO s.1 0 (8 - 0) none), _)
    rw [show 8 - 0 = 8 from rfl] at g4 ⊢
    unfold chA
    cases hq : chO s.1 0 8 none with
    | none =>
      rw [hq] at g4
      rw [if_pos (show cv1 none = -1 from rfl)]
      by_cases q0 : what = 0
      · rw [if_pos q0]; rfl
      · rw [if_neg q0]
        by_cases q1 : what = 1
        · rw [if_pos q1, some_bind', gI_ob g4 rfl, some_bind']; rfl
        · rw [if_neg q1]
          by_cases q2 : what = 2
          · rw [if_pos q2, some_bind', gI_ob g4 rfl, some_bind']; rfl
          · rw [if_neg q2]
    | some z =>
      rw [hq] at g4 hb
      have hz := hb.1
      rw [if_neg (show ¬ cv1 (some z) = -1 from m1_ne z.1 (by omega))]
      by_cases q0 : what = 0
      · rw [if_pos q0, if_pos q0]
      · rw [if_neg q0, if_neg q0]
        by_cases q1 : what = 1
        · rw [if_pos q1, if_pos q1, some_bind', gI_ob g4 rfl, some_bind']
        · rw [if_neg q1, if_neg q1]
          by_cases q2 : what = 2
          · rw [if_pos q2, if_pos q2, some_bind', gI_ob g4 rfl, some_bind']; rfl
          · rw [if_neg q2, if_neg q2]
  · rw [f_X11_cheapest, bnd_eq, bnd_eq, bnd_eq, bnd_eq]
    exact k1
end Q
end
section
/-! WOULD -/
theorem gK_no (v3 : Int32) : ∀ (ks : List Nat), (∀ k ∈ ks, ¬ nI k = v3) → gK v3 none ks = ks
  | [], _ => rfl
  | k :: ks, h => by
    rw [gK, if_neg (h k List.mem_cons_self), gK_no v3 ks (fun x hx => h x (List.mem_cons_of_mem _ hx))]
    rfl
theorem kys_cons (e : Nat) (L : List Nat) : kys (e :: L) = e / 2 :: kys L := rfl
theorem gK_ins : ∀ (L : List Nat) (k : Nat), SOK L → k < 10000 → (∀ e ∈ L, e / 2 ≠ k) → gK (-1) (some k) (kys L) = insAt (kys L) (bel L (nI k)) [k]
  | [], k, _, _, _ => rfl
  | e :: L, k, S, hk, hn => by
    have he := S.2.1 e List.mem_cons_self
    have hne := hn e List.mem_cons_self
    have hK := (kys_ok S.tail).2.1
    rw [kys_cons, gK, bel_cons, if_neg (m1_ne (e / 2) (by omega))]
    by_cases c : k < e / 2
    · rw [if_pos c, if_neg (nI_nlt (by omega) (by omega)), gK_none (kys L) hK]
      rfl
    · rw [if_neg c, if_pos (nI_lt (by omega) (by omega)), gK_ins L k S.tail hk (fun x hx => hn x (List.mem_cons_of_mem _ hx))]
      rfl
theorem gK_era : ∀ (L : List Nat) (k : Nat), SOK L → k < 10000 → (∃ e ∈ L, e / 2 = k) → gK (nI k) none (kys L) = (kys L).eraseIdx (bel L (nI k))
  | [], k, _, _, h => by obtain ⟨e, he, _⟩ := h; simp at he
  | e :: L, k, S, hk, h => by
    have he := S.2.1 e List.mem_cons_self
    have P := (List.pairwise_cons.mp S.1).1
    rw [kys_cons, gK, bel_cons]
    by_cases c : e / 2 = k
    · rw [if_pos (by rw [c]), if_neg (by rw [c]; exact Int32.not_lt.mpr (Int32.le_refl _)), gK_no (nI k) (kys L) (fun x hx => ?_)]
      · rfl
      · obtain ⟨y, hy, rfl⟩ := List.mem_map.mp hx
        intro q
        have h1 := P y hy
        have h2 := S.2.1 y (List.mem_cons_of_mem _ hy)
        have := (nI_eq (by omega) (by omega)).mp q
        omega
    · obtain ⟨y, hy, hy2⟩ := h
      rcases List.mem_cons.mp hy with rfl | hy
      · exact absurd hy2 c
      · have h1 := P y hy
        rw [if_neg (fun q => c ((nI_eq (by omega) (by omega)).mp q)), if_pos (nI_lt (by omega) (by omega)), gK_era L k S.tail hk ⟨y, hy, hy2⟩]
        rfl
theorem nth_take {K : List Nat} {r j : Nat} (h : j < r) : nth (K.take r) j = nth K j := by
  unfold nth
  rw [List.getD_eq_getElem?_getD, List.getElem?_take_of_lt h, List.getD_eq_getElem?_getD]
theorem nth_drop {K : List Nat} {r j : Nat} : nth (K.drop r) j = nth K (r + j) := by
  unfold nth
  rw [List.getD_eq_getElem?_getD, List.getElem?_drop, List.getD_eq_getElem?_getD]
theorem KO_ins {L : List Nat} (S : SOK L) {k : Nat} (hk : k < 10000) (hn : ∀ e ∈ L, e / 2 ≠ k) : KO (insAt (kys L) (bel L (nI k)) [k]) := by
  have hb := bel_le L (nI k)
  have l1 := S.len
  have KK := kys_ok S
  have hkl := kys_len L
  refine ⟨?_, fun x hx => ?_, ?_⟩
  · unfold insAt
    rw [List.append_assoc]
    refine List.pairwise_append.mpr ⟨KK.1.sublist (List.take_sublist _ _), ?_, fun x hx y hy => ?_⟩
    · refine List.pairwise_append.mpr ⟨List.pairwise_singleton _ _, KK.1.sublist (List.drop_sublist _ _), fun x hx y hy => ?_⟩
      rw [List.mem_singleton.mp hx]
      obtain ⟨j, hj, rfl⟩ := mem_nth hy
      rw [List.length_drop] at hj
      rw [nth_drop, kys_nth (by omega)]
      have h1 := bel_iff (nI k) L S (bel L (nI k) + j) (by omega)
      have h2 := S.lt (show bel L (nI k) + j < L.length by omega)
      have h3 := hn _ (nth_mem (show bel L (nI k) + j < L.length by omega))
      rcases Nat.lt_or_ge (nth L (bel L (nI k) + j) / 2) k with q | q
      · have := h1.mpr (nI_lt q (by omega)); omega
      · omega
    · obtain ⟨j, hj, rfl⟩ := mem_nth hx
      rw [List.length_take] at hj
      rw [nth_take (by omega), kys_nth (by omega)]
      have h2 := S.lt (show j < L.length by omega)
      have h1 := (nI_ltI (by omega) (by omega)).mp ((bel_iff (nI k) L S j (by omega)).mp (by omega))
      rcases List.mem_append.mp hy with hy | hy
      · rw [List.mem_singleton.mp hy]; exact h1
      · obtain ⟨z, hz, rfl⟩ := mem_nth hy
        rw [List.length_drop] at hz
        rw [nth_drop, kys_nth (by omega)]
        exact S.inc (by omega) (by omega)
  · rcases mem_insT hx with hx | hx
    · rw [List.mem_singleton.mp hx]; exact hk
    · exact KK.2.1 x hx
  · rw [insAt_len (by omega), hkl]
    show L.length + 1 ≤ 61
    omega
theorem KO_era {L : List Nat} (S : SOK L) (r : Nat) : KO ((kys L).eraseIdx r) := by
  have KK := kys_ok S
  exact ⟨KK.1.sublist (List.eraseIdx_sublist _ _), fun k hk => KK.2.1 k ((List.eraseIdx_sublist _ _).subset hk), Nat.le_trans (List.eraseIdx_sublist _ _).length_le KK.2.2⟩
section Q
variable {C : MW} {F : Nat → Int32} {v : Int64} {ar : Nat → Nat → Int32} {s : AS} {V : List AS} {n : Nat} {fu : Nat}
/-- from m on down to a, each is the one before it -/
def rwR (g : Nat → Int32) (a m : Nat) : Nat → Int32 := fun j => if a < j ∧ j ≤ m then g (j - 1) else g j
theorem wr_loop (hC : C.length = 123) {k v3 : Int32} {a : Nat} : ∀ N m ar, a ≤ m → m < 64 → m - a < N → f_X11_would_98 fu N (mW C F v ar) 123 k v3 (nI a) (nI m) = f_X11_would_127 fu (mW C F v (ua ar 4 (rwR (ar 4) a m))) 123 k v3 (nI a) := by
  intro N
  induction N with
  | zero => intro m ar _ _ hN; omega
  | succ N ih =>
    intro m ar ha hm hN
    rw [f_X11_would_98]
    by_cases c : m ≤ a
    · have e : rwR (ar 4) a m = ar 4 := by
        funext j; unfold rwR; rw [if_neg (by omega)]
      rw [if_pos (nI_le c (by omega)), e, ua_self]
    · rw [if_neg (nI_ge (by omega) (by omega)), m_gR hC F v ar 10 rfl, some_bind', some_bind', show (1 : Int32) = nI 1 from rfl, nI_sub (by omega), m_a4 hC F v ar (by omega), some_bind', m_s4 hC F v ar _ hm, some_bind', bnd_eq, nI_m1' (by omega), ih (m - 1) _ (by omega) (by omega) (by omega), ua_ua, ua_eq]
      congr 3
      funext j
      unfold rwR
      by_cases q : j = m
      · subst q
        rw [if_neg (by omega), upd_eq, if_pos (by omega)]
      · by_cases q2 : a < j ∧ j ≤ m - 1
        · rw [if_pos q2, upd_ne _ _ (by omega), if_pos (by omega)]
        · rw [if_neg q2, upd_ne _ _ q, if_neg (by omega)]
/-- from a on up to m, each is the one behind it -/
def rwL (g : Nat → Int32) (a m : Nat) : Nat → Int32 := fun j => if a ≤ j ∧ j + 1 < m then g (j + 1) else g j
theorem wl_loop (hC : C.length = 123) {k v3 : Int32} {a0 : Int32} {m : Nat} (h11 : F 11 = nI m) (hm : m ≤ 64) : ∀ N a ar, a < m → m - a < N → f_X11_would_56 fu N (mW C F v ar) 123 k v3 a0 (nI a) = f_X11_would_127 fu (mW C F v (ua ar 4 (rwL (ar 4) a m))) 123 k v3 a0 := by
  intro N
  induction N with
  | zero => intro a ar _ hN; omega
  | succ N ih =>
    intro a ar ha hN
    rw [f_X11_would_56, m_gI hC F v ar 11 rfl, some_bind', h11, nI_1]
    by_cases c : m ≤ a + 1
    · have e : rwL (ar 4) a m = ar 4 := by
        funext j; unfold rwL; rw [if_neg (by omega)]
      rw [if_pos (nI_le c (by omega)), e, ua_self]
    · rw [if_neg (nI_ge (by omega) (by omega)), m_gR hC F v ar 10 rfl, some_bind', some_bind', m_a4 hC F v ar (by omega), some_bind', m_s4 hC F v ar _ (by omega), some_bind', bnd_eq, ih (a + 1) _ (by omega) (by omega), ua_ua, ua_eq]
      congr 3
      funext j
      unfold rwL
      by_cases q : j = a
      · subst q
        rw [if_neg (by omega), upd_eq, if_pos (by omega)]
      · by_cases q2 : a + 1 ≤ j ∧ j + 1 < m
        · rw [if_pos q2, upd_ne _ _ (by omega), if_pos (by omega)]
        · rw [if_neg q2, upd_ne _ _ q, if_neg (by omega)]
theorem would_res (G : Good C F v ar s V n) (hfu : 20000 ≤ fu) (a b : Int32) {g : Nat} (hg : g ≤ 1) : Res C F ar s V (f_X10_would fu (mW C F v ar) 0 a b (nI g)) (fun w => f_X11_would fu w 123 a b (nI g)) := by
  have h := G.1.2.2.1
  have B := G.1.mb
  have O := G.1.2.2.2.1
  have hfu2 : 100 ≤ fu := by omega
  have hfu3 : 200 ≤ fu := by omega
  rcases set_cases a with ⟨i, hi, rfl⟩ | ha
  · rcases key_cases b with ⟨k, hk, rfl⟩ | hb
    · have S := O.1 i hi
      have l1 := S.len
      have hkl := kys_len (s.1 i)
      have hbe := bel_le (s.1 i) (nI k)
      obtain ⟨z, hz, hz2⟩ : ∃ z, z ≤ 1 ∧ ((z = 0 ∧ plc (s.1 i) (nI k) = -1) ∨ (z = 1 ∧ ¬ plc (s.1 i) (nI k) = -1)) := by
        by_cases q : plc (s.1 i) (nI k) = -1
        · exact ⟨0, by omega, Or.inl ⟨rfl, q⟩⟩
        · exact ⟨1, by omega, Or.inr ⟨rfl, q⟩⟩
      have cpre : f_X10_would fu (mW C F v ar) 0 (nI i) (nI k) (nI g) = f_X10_would_39 fu (mW C F v ar) 0 (nI k) (nI g) (13 + 2 * i) (nI z) := by
        rw [f_X10_would, G.st, some_bind', h.cl, heapAt_in h hi, some_bind']
        dsimp only
        rw [isKey_in hk, if_neg (by decide), (h.ha hi).cl, rankOf_ok (h.ha hi) S hfu2, some_bind']
        rcases hz2 with ⟨q1, q2⟩ | ⟨q1, q2⟩
        · rw [if_pos q2, q1]; rfl
        · rw [if_neg q2, q1]; rfl
      have mpre : ∀ C1, MB C1 F ar 0 s → f_X11_would fu (mW C1 F v ar) 123 (nI i) (nI k) (nI g) = f_X11_would_29 fu (mW C1 F v ar) 123 (nI i) (nI k) (nI g) (nI z) := fun C1 B1 => by
        rw [f_X11_would, mSet_in hi, mKey_in hk, if_neg (by decide), if_neg (by decide), B1.cl, B1.place hi hfu2, some_bind']
        rcases hz2 with ⟨q1, q2⟩ | ⟨q1, q2⟩
        · rw [if_pos q2, q1]; rfl
        · rw [if_neg q2, q1]; rfl
      by_cases c : z = g
      · subst c
        -- the class, of a row of keys
        have cl1 : ∀ (o : Option Nat) (v2 v3 : Int32), (∀ m, o = some m → v2 = nI m ∧ m < 10000) → (o = none → v2 = -1) → KO (gK v3 o (kys (s.1 i))) → ∃ C1, f_X10_would_76 fu (mW C F v ar) 0 3 (13 + 2 * i) v2 v3 = some (nI (hiF (pF (gK v3 o (kys (s.1 i)))) (gK v3 o (kys (s.1 i))).length 0 0), mW C1 F v ar) ∧ Good C1 F v ar s V n ∧ ∀ k, k ∉ actKs → C1[k]? = C[k]? := by
          intro o v2 v3 ho hn hK
          obtain ⟨w1, g1, g2, g3⟩ := grow_ok hfu2 S (by omega) (by omega) o ho hn (h.ha hi) G.2.1.1 hK
          have H1 := h.chg g3 (fun k hk => by simp at hk; omega)
          obtain ⟨C1, e1, e2, G1, e4⟩ := good_q G g3 tks_31 H1 (G.2.1.tree g3 g2.sh)
          subst e1
          obtain ⟨⟨p, q, t1⟩, -⟩ := G.2.1.1
          refine ⟨C1, ?_, G1, e4⟩
          rw [f_X10_would_76, cl_ob t1, g1, some_bind', G1.st, some_bind', H1.tr, some_bind', g2.cl, chigh_ok hfu2 g2 hK, some_bind']
        -- the model, of a row of keys
        have fin : ∀ (K : List Nat) C1 F1 ar1, C1.length = 123 → KO K → RH ar1 K → F1 11 = nI K.length → ∃ F2, f_X11_high fu (mW C1 F1 v ar1) 123 = some (nI (hiF (pF K) K.length 0 0), mW C1 F2 v ar1) ∧ FWy F1 F2 := fun K C1 F1 ar1 hC1 hK hR h11 => mhigh_ok (v := v) hC1 hfu3 hK hR h11
        rcases hz2 with ⟨q1, q2⟩ | ⟨q1, q2⟩
        · subst q1
          have hno := (plc_iff S (by omega)).mp q2
          have eK := gK_ins (s.1 i) k S hk hno
          have hK := KO_ins S hk hno
          rw [← eK] at hK
          obtain ⟨C1, k1, G1, k3⟩ := cl1 (some k) (nI k) (-1) (fun m hm => by simp at hm; rw [← hm]; exact ⟨rfl, hk⟩) (fun q => by simp at q) hK
          have B1 := G1.1.mb
          obtain ⟨gr, r1, r2, r3⟩ := laysRow_ok (v := v) hi hfu2 B1
          have hrow : RH (ua (ua ar 4 gr) 4 (upd (rwR (ua ar 4 gr 4) (bel (s.1 i) (nI k)) (s.1 i).length) (bel (s.1 i) (nI k)) (nI k))) (gK (-1) (some k) (kys (s.1 i))) := by
            rw [eK]
            intro j hj
            rw [insAt_len (by omega), hkl] at hj
            have hj' : j < (s.1 i).length + 1 := hj
            rw [ua_eq, nth_insAt (by omega)]
            have e1 : ([k] : List Nat).length = 1 := rfl
            rw [e1]
            by_cases c1 : j < bel (s.1 i) (nI k)
            · rw [if_pos c1, upd_ne _ _ (by omega)]
              unfold rwR
              rw [if_neg (by omega)]
              exact r2 j (by omega)
            · rw [if_neg c1]
              by_cases c2 : j = bel (s.1 i) (nI k)
              · rw [if_pos (by omega), c2, upd_eq, Nat.sub_self]; rfl
              · rw [if_neg (by omega), upd_ne _ _ c2]
                unfold rwR
                rw [if_pos (by omega)]
                exact r2 (j - 1) (by omega)
          have hlen : (gK (-1) (some k) (kys (s.1 i))).length = (s.1 i).length + 1 := by rw [eK, insAt_len (by omega), hkl]; rfl
          obtain ⟨F2, m1, m2⟩ := fin _ C1 (upd (upd F 11 (nI (s.1 i).length)) 11 (nI ((s.1 i).length + 1))) _ G1.1.1 hK hrow (by rw [upd_eq, hlen])
          refine q_res G1 k3 (x := nI (hiF (pF (gK (-1) (some k) (kys (s.1 i)))) (gK (-1) (some k) (kys (s.1 i))).length 0 0)) ?_ (F' := F2) (v' := v) (ar' := ua (ua ar 4 gr) 4 (upd (rwR (ua ar 4 gr 4) (bel (s.1 i) (nI k)) (s.1 i).length) (bel (s.1 i) (nI k)) (nI k))) ?_ (fun p hp => by rw [m2 p (by omega), upd_ne _ _ (by omega), upd_ne _ _ (by omega)]) (fun p hp => by rw [ua_ne _ _ (by omega), ua_ne _ _ (by omega)])
          · rw [cpre, f_X10_would_39, bnd_eq, if_pos rfl, G.st, some_bind', h.tr, some_bind', if_pos (by decide), f_X10_would_67, if_pos (by decide), k1]
          · rw [mpre C1 B1, f_X11_would_29, if_pos rfl, B1.cl, r1, some_bind', r3.cl, r3.below hi hfu2, some_bind', bnd_eq, if_pos (by decide), m_gI r3.1 _ v _ 11 rfl, some_bind', upd_eq, bnd_eq, wr_loop r3.1 fu _ _ hbe (by omega) (by omega), f_X11_would_127, if_pos (by decide), m_gR r3.1 _ v _ 10 rfl, some_bind', m_s4 r3.1 _ v _ _ (by omega), some_bind', f_X11_would_139, m_gI r3.1 _ v _ 11 rfl, some_bind', upd_eq, if_pos (by decide), f_X11_would_153, nI_1, m_p r3.1 _ v _ 11 (by omega) mFw.2.2.2.2, some_bind', m_cl r3.1, ua_ua, ua_eq, m1, some_bind']
        · subst q1
          obtain ⟨p1, p2⟩ := plc_ne q2
          have hkk := key_eq S q2
          have hlt := S.lt p1
          have hin : ∃ e ∈ s.1 i, e / 2 = k := ⟨_, nth_mem p1, (nI_eq (by omega) (by omega)).mp hkk⟩
          have eK := gK_era (s.1 i) k S hk hin
          have hK := KO_era S (bel (s.1 i) (nI k))
          rw [← eK] at hK
          obtain ⟨C1, k1, G1, k3⟩ := cl1 none (-1) (nI k) (fun m hm => by simp at hm) (fun _ => rfl) hK
          have B1 := G1.1.mb
          obtain ⟨gr, r1, r2, r3⟩ := laysRow_ok (v := v) hi hfu2 B1
          have hlen : (gK (nI k) none (kys (s.1 i))).length = (s.1 i).length - 1 := by rw [eK, List.length_eraseIdx_of_lt (by omega), hkl]
          have hrow : RH (ua (ua ar 4 gr) 4 (rwL (ua ar 4 gr 4) (bel (s.1 i) (nI k)) (s.1 i).length)) (gK (nI k) none (kys (s.1 i))) := by
            intro j hj
            rw [hlen] at hj
            rw [eK, ua_eq, nth_erase]
            unfold rwL
            by_cases c1 : j < bel (s.1 i) (nI k)
            · rw [if_pos c1, if_neg (by omega)]
              exact r2 j (by omega)
            · rw [if_neg c1, if_pos (by omega)]
              exact r2 (j + 1) (by omega)
          obtain ⟨F2, m1, m2⟩ := fin _ C1 (upd (upd F 11 (nI (s.1 i).length)) 11 (nI ((s.1 i).length - 1))) _ G1.1.1 hK hrow (by rw [upd_eq, hlen])
          refine q_res G1 k3 (x := nI (hiF (pF (gK (nI k) none (kys (s.1 i)))) (gK (nI k) none (kys (s.1 i))).length 0 0)) ?_ (F' := F2) (v' := v) (ar' := ua (ua ar 4 gr) 4 (rwL (ua ar 4 gr 4) (bel (s.1 i) (nI k)) (s.1 i).length)) ?_ (fun p hp => by rw [m2 p (by omega), upd_ne _ _ (by omega), upd_ne _ _ (by omega)]) (fun p hp => by rw [ua_ne _ _ (by omega), ua_ne _ _ (by omega)])
          · rw [cpre, f_X10_would_39, bnd_eq, if_pos rfl, G.st, some_bind', h.tr, some_bind', if_neg (by decide), f_X10_would_67, if_neg (by decide), k1]
          · rw [mpre C1 B1, f_X11_would_29, if_pos rfl, B1.cl, r1, some_bind', r3.cl, r3.below hi hfu2, some_bind', bnd_eq, if_neg (by decide), bnd_eq, wl_loop r3.1 (upd_eq _ _ _) (by omega) fu _ _ p1 (by omega), f_X11_would_127, if_neg (by decide), f_X11_would_139, m_gI r3.1 _ v _ 11 rfl, some_bind', upd_eq, if_neg (by decide), f_X11_would_153, nI_m1 (by omega), m_p r3.1 _ v _ 11 (by omega) mFw.2.2.2.2, some_bind', m_cl r3.1, m1, some_bind']
      · refine q_res G (fun _ _ => rfl) (x := -1) ?_ (F' := F) (v' := v) (ar' := ar) ?_ (fun _ _ => rfl) (fun _ _ => rfl)
        · rw [cpre, f_X10_would_39, bnd_eq, if_neg (fun q => c ((nI_eq (by omega) (by omega)).mp q))]
        · rw [mpre C B, f_X11_would_29, if_neg (fun q => c ((nI_eq (by omega) (by omega)).mp q))]
    · refine q_res G (fun _ _ => rfl) (x := -1) ?_ (F' := F) (v' := v) (ar' := ar) ?_ (fun _ _ => rfl) (fun _ _ => rfl)
      · rw [f_X10_would, G.st, some_bind', h.cl, heapAt_in h hi, some_bind']
        dsimp only
        rw [isKey_out hb, if_pos rfl]
      · rw [f_X11_would, mSet_in hi, mKey_out hb, if_neg (by decide), if_pos rfl]
  · refine q_res G (fun _ _ => rfl) (x := -1) ?_ (F' := F) (v' := v) (ar' := ar) ?_ (fun _ _ => rfl) (fun _ _ => rfl)
    · rw [f_X10_would, G.st, some_bind', h.cl, heapAt_out ha, some_bind']
    · rw [f_X11_would, mSet_out ha, if_pos rfl]
end Q
end
section
/-! all keys of all sets, in order -/
def kk (hs : Nat → List Nat) (t j : Nat) : Nat := nth (hs t) j / 2
def PI (hs : Nat → List Nat) (hd : Nat → Nat) : Prop := (∀ t, t < 8 → hd t ≤ (hs t).length) ∧ ∀ t j t' j', t < 8 → t' < 8 → j < hd t → hd t' ≤ j' → j' < (hs t').length → kk hs t j < kk hs t' j' ∨ (kk hs t j = kk hs t' j' ∧ t < t')
/-- the set whose head is next -/
def Nx (hs : Nat → List Nat) (hd : Nat → Nat) (m σ : Nat) : Prop := σ < m ∧ hd σ < (hs σ).length ∧ ∀ u, u < m → hd u < (hs u).length → kk hs σ (hd σ) ≤ kk hs u (hd u) ∧ (kk hs σ (hd σ) = kk hs u (hd u) → σ ≤ u)
section P
variable {hs : Nat → List Nat} {hd : Nat → Nat}
theorem kk_mono (O : ∀ q, q < 8 → SOK (hs q)) {t i j : Nat} (ht : t < 8) (hij : i < j) (hj : j < (hs t).length) : kk hs t i < kk hs t j := (O t ht).inc hij hj
theorem kk_lt (O : ∀ q, q < 8 → SOK (hs q)) {t j : Nat} (ht : t < 8) (hj : j < (hs t).length) : kk hs t j < 10000 := by
  have := (O t ht).lt hj
  unfold kk; omega
theorem PI_step (O : ∀ q, q < 8 → SOK (hs q)) (P : PI hs hd) {σ : Nat} (h : Nx hs hd 8 σ) : PI hs (va_up hd σ (hd σ + 1)) := by
  obtain ⟨h1, h2, h3⟩ := h
  refine ⟨fun t ht => ?_, fun t j t' j' ht ht' hj hj' hl => ?_⟩
  · by_cases c : t = σ
    · subst c; rw [vu_eq]; omega
    · rw [vu_ne _ _ c]; exact P.1 t ht
  · have hj0 : hd t' ≤ j' := by
      by_cases c : t' = σ
      · subst c; rw [vu_eq] at hj'; omega
      · rw [vu_ne _ _ c] at hj'; exact hj'
    by_cases c : t = σ ∧ j = hd σ
    · obtain ⟨rfl, rfl⟩ := c
      by_cases c2 : t' = t
      · subst c2
        rw [vu_eq] at hj'
        exact Or.inl (kk_mono O ht (by omega) hl)
      · have h4 := h3 t' ht' (by omega)
        rcases Nat.lt_or_ge (hd t') j' with q | q
        · have := kk_mono O ht' q hl
          exact Or.inl (by omega)
        · have e : j' = hd t' := by omega
          rw [e]
          rcases Nat.lt_or_ge (kk hs t (hd t)) (kk hs t' (hd t')) with z | z
          · exact Or.inl z
          · have z2 := h4.2 (by omega)
            exact Or.inr ⟨by omega, by omega⟩
    · refine P.2 t j t' j' ht ht' ?_ hj0 hl
      by_cases c2 : t = σ
      · subst c2; rw [vu_eq] at hj; omega
      · rw [vu_ne _ _ c2] at hj; exact hj
/-- how many of a set are ahead of an element -/
def rkT (hs : Nat → List Nat) (s i t : Nat) : Nat := bel (hs t) (nI (kk hs s i)) + (if t < s ∧ ¬ plc (hs t) (nI (kk hs s i)) = -1 then 1 else 0)
theorem bel_lt {L : List Nat} (S : SOK L) {k j : Nat} (hk : k < 10000) (hj : j < L.length) : j < bel L (nI k) ↔ nth L j / 2 < k := by
  have := S.lt hj
  rw [bel_iff (nI k) L S j hj, nI_ltI (by omega) (by omega)]
theorem bel_own {L : List Nat} (S : SOK L) {j : Nat} (hj : j < L.length) : bel L (nI (nth L j / 2)) = j := by
  have hb := S.lt hj
  refine bel_eq S (by omega) (fun i hi => nI_lt (S.inc hi hj) (by omega)) (fun i h1 h2 h3 => ?_)
  have h4 := S.lt h2
  have h5 := (nI_ltI (by omega) (by omega)).mp h3
  rcases Nat.lt_or_ge j i with q | q
  · have := S.inc q h2; omega
  · rw [show i = j by omega] at h5; omega
/-- a key that is there is at its place -/
theorem at_bel {L : List Nat} (S : SOK L) {k : Nat} (hk : k < 10000) (h : ¬ plc L (nI k) = -1) : bel L (nI k) < L.length ∧ nth L (bel L (nI k)) / 2 = k := by
  obtain ⟨h1, -⟩ := plc_ne h
  have h2 := key_eq S h
  have h3 := S.lt h1
  exact ⟨h1, (nI_eq (by omega) (by omega)).mp h2⟩
theorem rk_ge (O : ∀ q, q < 8 → SOK (hs q)) (P : PI hs hd) {s i : Nat} (hs8 : s < 8) (hi : i < (hs s).length) (h : hd s ≤ i) {t : Nat} (ht : t < 8) : hd t ≤ rkT hs s i t := by
  have hk := kk_lt O hs8 hi
  have hl := P.1 t ht
  unfold rkT
  rcases Nat.eq_zero_or_pos (hd t) with q | q
  · omega
  · have h1 := P.2 t (hd t - 1) s i ht hs8 (by omega) h hi
    rcases h1 with h1 | ⟨h1, h2⟩
    · have := (bel_lt (O t ht) hk (show hd t - 1 < (hs t).length by omega)).mpr h1
      omega
    · have e : bel (hs t) (nI (kk hs s i)) = hd t - 1 := by rw [← h1]; exact bel_own (O t ht) (by omega)
      rw [if_pos ⟨h2, fun q2 => (plc_iff (O t ht) (by omega)).mp q2 _ (nth_mem (show hd t - 1 < (hs t).length by omega)) h1⟩]
      omega
theorem rk_le (O : ∀ q, q < 8 → SOK (hs q)) (P : PI hs hd) {s i : Nat} (hs8 : s < 8) (hi : i < hd s) {t : Nat} (ht : t < 8) : rkT hs s i t ≤ hd t := by
  have hl := P.1 t ht
  have hls := P.1 s hs8
  have hk := kk_lt O hs8 (show i < (hs s).length by omega)
  have hb := bel_le (hs t) (nI (kk hs s i))
  unfold rkT
  split
  · rename_i c
    obtain ⟨h1, h2⟩ := at_bel (O t ht) hk c.2
    rcases Nat.lt_or_ge (bel (hs t) (nI (kk hs s i))) (hd t) with q | q
    · omega
    · have h3 := P.2 s i t _ hs8 ht hi q h1
      have h4 : kk hs t (bel (hs t) (nI (kk hs s i))) = kk hs s i := h2
      omega
  · rcases Nat.lt_or_ge (hd t) (bel (hs t) (nI (kk hs s i))) with q | q
    · have h3 := P.2 s i t (hd t) hs8 ht hi (Nat.le_refl _) (by omega)
      have h4 := (bel_lt (O t ht) hk (show hd t < (hs t).length by omega)).mp q
      have h5 : kk hs t (hd t) < kk hs s i := h4
      omega
    · omega
theorem rk_eq (O : ∀ q, q < 8 → SOK (hs q)) (P : PI hs hd) {σ : Nat} (h : Nx hs hd 8 σ) {t : Nat} (ht : t < 8) : rkT hs σ (hd σ) t = hd t := by
  obtain ⟨h1, h2, h3⟩ := h
  have hge := rk_ge O P h1 h2 (Nat.le_refl _) ht
  have hk := kk_lt O h1 h2
  have hl := P.1 t ht
  have hb := bel_le (hs t) (nI (kk hs σ (hd σ)))
  have e1 : bel (hs t) (nI (kk hs σ (hd σ))) ≤ hd t := by
    rcases Nat.lt_or_ge (hd t) (bel (hs t) (nI (kk hs σ (hd σ)))) with q | q
    · have h4 : kk hs t (hd t) < kk hs σ (hd σ) := (bel_lt (O t ht) hk (show hd t < (hs t).length by omega)).mp q
      have := (h3 t ht (by omega)).1
      omega
    · exact q
  unfold rkT at hge ⊢
  split at hge
  · rename_i c
    rw [if_pos c]
    obtain ⟨q1, q2⟩ := at_bel (O t ht) hk c.2
    rcases Nat.lt_or_ge (bel (hs t) (nI (kk hs σ (hd σ)))) (hd t) with q | q
    · omega
    · have e2 : hd t = bel (hs t) (nI (kk hs σ (hd σ))) := by omega
      have q3 : kk hs t (hd t) = kk hs σ (hd σ) := by rw [e2]; exact q2
      have := (h3 t ht (by omega)).2 q3.symm
      omega
  · rename_i c
    rw [if_neg c]
    omega
theorem sum8_le {f g : Nat → Nat} (h : ∀ t, t < 8 → f t ≤ g t) : smF f 0 8 ≤ smF g 0 8 := by
  rw [smF8, smF8]
  have := h 0 (by omega); have := h 1 (by omega); have := h 2 (by omega); have := h 3 (by omega)
  have := h 4 (by omega); have := h 5 (by omega); have := h 6 (by omega); have := h 7 (by omega)
  omega
theorem sum8_lt {f g : Nat → Nat} (h : ∀ t, t < 8 → f t ≤ g t) {u : Nat} (hu : u < 8) (hlt : f u < g u) : smF f 0 8 < smF g 0 8 := by
  rw [smF8, smF8]
  have := h 0 (by omega); have := h 1 (by omega); have := h 2 (by omega); have := h 3 (by omega)
  have := h 4 (by omega); have := h 5 (by omega); have := h 6 (by omega); have := h 7 (by omega)
  have : u = 0 ∨ u = 1 ∨ u = 2 ∨ u = 3 ∨ u = 4 ∨ u = 5 ∨ u = 6 ∨ u = 7 := by omega
  rcases this with rfl | rfl | rfl | rfl | rfl | rfl | rfl | rfl <;> omega
theorem sum8_up (f : Nat → Nat) {u : Nat} (hu : u < 8) (x : Nat) : smF (va_up f u x) 0 8 + f u = smF f 0 8 + x := by
  rw [smF8, smF8]
  have : u = 0 ∨ u = 1 ∨ u = 2 ∨ u = 3 ∨ u = 4 ∨ u = 5 ∨ u = 6 ∨ u = 7 := by omega
  rcases this with rfl | rfl | rfl | rfl | rfl | rfl | rfl | rfl <;> simp [va_up] <;> omega
/-- who has the rank k has the key that comes then -/
theorem rk_u (O : ∀ q, q < 8 → SOK (hs q)) (P : PI hs hd) {σ : Nat} (h : Nx hs hd 8 σ) {s i : Nat} (hs8 : s < 8) (hi : i < (hs s).length) (he : smF (rkT hs s i) 0 8 = smF hd 0 8) : s = σ ∧ i = hd σ := by
  rcases Nat.lt_or_ge i (hd s) with c | c
  · have h1 : rkT hs s i s = i := by
      unfold rkT
      rw [if_neg (fun q => by omega)]
      show bel (hs s) (nI (kk hs s i)) + 0 = i
      unfold kk
      rw [bel_own (O s hs8) hi, Nat.add_zero]
    have := sum8_lt (f := rkT hs s i) (g := hd) (fun t ht => rk_le O P hs8 c ht) hs8 (by omega)
    omega
  · by_cases c2 : s = σ ∧ i = hd σ
    · exact c2
    · have P2 := PI_step O P h
      have hc : va_up hd σ (hd σ + 1) s ≤ i := by
        by_cases z : s = σ
        · subst z; rw [vu_eq]; omega
        · rw [vu_ne _ _ z]; exact c
      have h1 := sum8_le (f := va_up hd σ (hd σ + 1)) (g := rkT hs s i) (fun t ht => rk_ge O P2 hs8 hi hc ht)
      have h2 := sum8_up hd h.1 (hd σ + 1)
      omega
theorem rk_lt (O : ∀ q, q < 8 → SOK (hs q)) {s i : Nat} (hs8 : s < 8) (hi : i < (hs s).length) : smF (rkT hs s i) 0 8 < smF (fun t => (hs t).length) 0 8 := by
  have P : PI hs (fun t => (hs t).length) := ⟨fun t _ => Nat.le_refl _, fun t j t' j' _ _ _ h1 h2 => absurd h2 (Nat.not_lt.mpr h1)⟩
  have h1 : rkT hs s i s = i := by
    unfold rkT
    rw [if_neg (fun q => by omega)]
    show bel (hs s) (nI (kk hs s i)) + 0 = i
    unfold kk
    rw [bel_own (O s hs8) hi, Nat.add_zero]
  exact sum8_lt (fun t ht => rk_le O P hs8 hi ht) hs8 (by omega)
end P
/-- the heads' cells -/
def H30 (w : MW) (hd : Nat → Nat) : Prop := ∃ f, w[30]? = some (.inl (.int, 8, .inl f)) ∧ ∀ t, t < 8 → f t = nI (hd t)
section Q
variable {C : MW} {F : Nat → Int32} {v : Int64} {ar : Nat → Nat → Int32} {s : AS} {V : List AS} {n : Nat} {fu : Nat}
theorem begin_loop {w0 : MW} : ∀ N t w f, w[29]? = some (.inr (2, [.ref 2, .ref 30])) → w[30]? = some (.inl (.int, 8, .inl f)) → (∀ u, u < t → f u = nI 0) → t ≤ 8 → 8 - t < N → ∃ w', f_X2_begin_2 fu N w 29 (nI t) = some w' ∧ H30 w' (fun _ => 0) ∧ Chg [30] w w' := by
  intro N
  induction N with
  | zero => intro t w f _ _ _ _ hN; omega
  | succ N ih =>
    intro t w f h29 h30 hf ht hN
    rw [f_X2_begin_2]
    by_cases c : 8 ≤ t
    · rw [if_pos (show (8 : Int32) ≤ nI t from nI_le (a := 8) c (by omega))]
      exact ⟨w, rfl, ⟨f, h30, fun u hu => hf u (by omega)⟩, Chg.rf _ _⟩
    · have ch := Chg.st (ks := [30]) w (a := 30) (.inl (.int, 8, .inl (upd f t 0))) (by simp)
      obtain ⟨w', g1, g2, g3⟩ := ih (t + 1) (w.set 30 (.inl (.int, 8, .inl (upd f t 0)))) (upd f t 0) (ch.at (by simp) h29) (get_set_eq h30) (fun u hu => by
        by_cases q : u = t
        · subst q; rw [upd_eq]; rfl
        · rw [upd_ne _ _ q]; exact hf u (by omega)) (by omega) (by omega)
      rw [if_neg (show ¬ (8 : Int32) ≤ nI t from nI_ge (b := 8) (by omega) (by omega)), gR_ob h29 rfl, some_bind', sI_ar h30 (by omega) (by omega), some_bind', bnd_eq, nI_1, g1]
      exact ⟨w', rfl, g2, ch.tr g3⟩
theorem next_loop {w : MW} (h : CS w s.1 s.2) (Z : Sc w) (O : ∀ q, q < 8 → SOK (s.1 q)) {hd : Nat → Nat} (H : H30 w hd) (hb : ∀ t, t < 8 → hd t ≤ 60) : ∀ N t (b : Option Nat), t ≤ 8 → 8 - t < N → (b = none → ∀ u, u < t → (s.1 u).length ≤ hd u) → (∀ σ, b = some σ → Nx s.1 hd t σ) → ((∃ σ, Nx s.1 hd 8 σ ∧ f_X2_next_6 fu N w 29 (match b with | none => -1 | some σ => nI (kk s.1 σ (hd σ))) (match b with | none => -1 | some σ => nI σ) (nI t) = f_X2_next_66 fu w 29 (nI (kk s.1 σ (hd σ))) (nI σ)) ∨ (∀ u, u < 8 → (s.1 u).length ≤ hd u)) := by
  obtain ⟨f, h30, hf⟩ := H
  have h29 := Z.2.2.2.1
  intro N
  induction N with
  | zero => intro t b _ hN; omega
  | succ N ih =>
    intro t b ht hN hb1 hb2
    rw [f_X2_next_6]
    by_cases c : 8 ≤ t
    · have e8 : t = 8 := by omega
      subst e8
      rw [if_pos (show (8 : Int32) ≤ nI 8 by decide)]
      cases b with
      | none => exact Or.inr (hb1 rfl)
      | some σ => exact Or.inl ⟨σ, hb2 σ rfl, rfl⟩
    · have ht8 : t < 8 := by omega
      have S := O t ht8
      have l1 := S.len
      have hbt := hb t ht8
      obtain ⟨g, h2, h3⟩ := id h.2.1
      have hal : aL w (.object RX0) 2 = some (nI 8) := aL_ar h2
      have hka : f_X0_keyAt w (13 + 2 * t) (nI (hd t)) = some (if hd t < (s.1 t).length then nI (kk s.1 t (hd t)) else -1) := by
        by_cases q : hd t < (s.1 t).length
        · rw [if_pos q]; exact keyAt_in (h.ha ht8) S q
        · rw [if_neg q]; exact keyAt_out (h.ha ht8) (by omega) (by omega)
      rw [if_neg (show ¬ (8 : Int32) ≤ nI t from nI_ge (b := 8) ht8 (by omega)), gR_ob h29 rfl, some_bind', hal, some_bind', if_neg (nI_ge ht8 (by omega)), some_bind', h.heap ht8, some_bind', gR_ob h29 rfl, some_bind', aI_ar h30 ht8 (by omega), some_bind', hf t ht8, (h.ha ht8).cl, hka, some_bind', bnd_eq]
      -- the set is empty from here on
      by_cases q : hd t < (s.1 t).length
      · have hkb := kk_lt O ht8 q
        rw [if_pos q, if_neg (m1_ne _ (by omega))]
        cases b with
        | none =>
          dsimp only
          rw [if_pos rfl, f_X2_next_55, bnd_eq, bnd_eq, f_X2_next_60, bnd_eq, nI_1]
          refine ih (t + 1) (some t) (by omega) (by omega) (fun z => by simp at z) (fun σ hσ => ?_)
          simp at hσ; subst hσ
          refine ⟨by omega, q, fun u hu hul => ?_⟩
          rcases Nat.lt_or_ge u t with z | z
          · have := hb1 rfl u z; omega
          · rw [show u = t by omega]; exact ⟨Nat.le_refl _, fun _ => Nat.le_refl _⟩
        | some σ =>
          obtain ⟨n1, n2, n3⟩ := hb2 σ rfl
          have hkσ := kk_lt O (show σ < 8 by omega) n2
          dsimp only
          rw [if_neg (m1_ne _ (by omega))]
          by_cases z : kk s.1 σ (hd σ) ≤ kk s.1 t (hd t)
          · rw [if_pos (nI_le z (by omega)), f_X2_next_60, bnd_eq, nI_1]
            refine ih (t + 1) (some σ) (by omega) (by omega) (fun z => by simp at z) (fun σ' hσ => ?_)
            simp at hσ; subst hσ
            refine ⟨by omega, n2, fun u hu hul => ?_⟩
            rcases Nat.lt_or_ge u t with y | y
            · exact n3 u y hul
            · rw [show u = t by omega]; exact ⟨z, fun _ => by omega⟩
          · rw [if_neg (nI_ge (by omega) (by omega)), f_X2_next_55, bnd_eq, bnd_eq, f_X2_next_60, bnd_eq, nI_1]
            refine ih (t + 1) (some t) (by omega) (by omega) (fun z => by simp at z) (fun σ' hσ => ?_)
            simp at hσ; subst hσ
            refine ⟨by omega, q, fun u hu hul => ?_⟩
            rcases Nat.lt_or_ge u t with y | y
            · have := n3 u y hul; exact ⟨by omega, fun e => by omega⟩
            · rw [show u = t by omega]; exact ⟨Nat.le_refl _, fun _ => Nat.le_refl _⟩
      · rw [if_neg q, if_pos rfl, f_X2_next_60, bnd_eq, nI_1]
        refine ih (t + 1) b (by omega) (by omega) (fun z u hu => ?_) (fun σ hσ => ?_)
        · rcases Nat.lt_or_ge u t with y | y
          · exact hb1 z u y
          · rw [show u = t by omega]; omega
        · obtain ⟨n1, n2, n3⟩ := hb2 σ hσ
          refine ⟨by omega, n2, fun u hu hul => ?_⟩
          rcases Nat.lt_or_ge u t with y | y
          · exact n3 u y hul
          · rw [show u = t by omega] at hul; omega
theorem next_ok {w : MW} (h : CS w s.1 s.2) (Z : Sc w) (O : ∀ q, q < 8 → SOK (s.1 q)) {hd : Nat → Nat} (H : H30 w hd) (P : PI s.1 hd) (hfu : 100 ≤ fu) (hlt : smF hd 0 8 < smF (fun t => (s.1 t).length) 0 8) : ∃ σ w', Nx s.1 hd 8 σ ∧ f_X2_next fu w 29 = some (nI (kk s.1 σ (hd σ)), w') ∧ H30 w' (va_up hd σ (hd σ + 1)) ∧ CS w' s.1 s.2 ∧ Sc w' ∧ Chg [30] w w' := by
  have hl : ∀ t, t < 8 → hd t ≤ 60 := fun t ht => Nat.le_trans (P.1 t ht) (O t ht).len
  rcases next_loop (fu := fu) h Z O H hl fu 0 none (by omega) (by omega) (fun _ u hu => by omega) (fun σ hσ => by simp at hσ) with ⟨σ, g1, g2⟩ | g
  · obtain ⟨f, h30, hf⟩ := H
    have h29 := Z.2.2.2.1
    obtain ⟨n1, n2, n3⟩ := id g1
    have ch := Chg.st (ks := [30]) w (a := 30) (.inl (.int, 8, .inl (upd f σ (nI (hd σ + 1))))) (by simp)
    refine ⟨σ, _, g1, ?_, ⟨_, get_set_eq h30, fun t ht => ?_⟩, h.chg ch (fun k hk => by simp at hk; omega), ?_, ch⟩
    · rw [f_X2_next, bnd_eq, bnd_eq, bnd_eq]
      refine g2.trans ?_
      rw [f_X2_next_66, if_neg (m1_ne σ (by omega)), gR_ob h29 rfl, some_bind', aI_ar h30 n1 (by omega), some_bind', hf σ n1, nI_1, sI_ar h30 n1 (by omega), some_bind']
    · by_cases q : t = σ
      · subst q; rw [upd_eq, vu_eq]
      · rw [upd_ne _ _ q, vu_ne _ _ q]; exact hf t ht
    · obtain ⟨z1, ⟨a, b, c, d, e, z2⟩, ⟨f', z3⟩, z4, z5⟩ := Z
      exact ⟨z1.chg ch (fun k hk => by simp at hk; omega), ⟨a, b, c, d, e, ch.at (by simp) z2⟩, ⟨f', ch.at (by simp) z3⟩, ch.at (by simp) z4, ⟨_, get_set_eq h30⟩⟩
  · have := sum8_le g
    omega
theorem begin_ok {w : MW} (h : CS w s.1 s.2) (Z : Sc w) (hfu : 100 ≤ fu) : ∃ w', f_X2_begin fu w 29 = some w' ∧ H30 w' (fun _ => 0) ∧ CS w' s.1 s.2 ∧ Sc w' ∧ Chg [30] w w' := by
  obtain ⟨f, h30⟩ := Z.2.2.2.2
  obtain ⟨w', g1, g2, g3⟩ := begin_loop (fu := fu) (w0 := w) fu 0 w f Z.2.2.2.1 h30 (fun u hu => by omega) (by omega) (by omega)
  refine ⟨w', ?_, g2, h.chg g3 (fun k hk => by simp at hk; omega), ?_, g3⟩
  · rw [f_X2_begin, bnd_eq]; exact g1
  · obtain ⟨z1, ⟨a, b, c, d, e, z2⟩, ⟨f', z3⟩, z4, z5⟩ := Z
    obtain ⟨f2, q1, q2⟩ := g2
    exact ⟨z1.chg g3 (fun k hk => by simp at hk; omega), ⟨a, b, c, d, e, g3.at (by simp) z2⟩, ⟨f', g3.at (by simp) z3⟩, g3.at (by simp) z4, ⟨f2, q1⟩⟩
theorem CS.pd {w : MW} {hs : Nat → List Nat} {fg : Nat → Int32} (h : CS w hs fg) : gR w 7 1 3 = some 29 := by
  obtain ⟨a, b, c, h1⟩ := h.1
  exact gR_ob h1 rfl
theorem PI_0 (hs : Nat → List Nat) : PI hs (fun _ => 0) := ⟨fun _ _ => Nat.zero_le _, fun _ _ _ _ _ _ h _ _ => absurd h (Nat.not_lt_zero _)⟩
end Q
end
section
/-! MERGED; unlike keys -/
section Q
variable {C : MW} {F : Nat → Int32} {v : Int64} {ar : Nat → Nat → Int32} {s : AS} {V : List AS} {n : Nat} {fu : Nat}
theorem k30_31 : ∀ k, k ∈ [30] → 1 ≤ k ∧ k < 31 := by decide
theorem cmerged_loop (O : AOK s.1) (hfu : 100 ≤ fu) {k : Nat} (hk : k < smF (fun t => (s.1 t).length) 0 8) : ∀ N p w hd key, CS w s.1 s.2 → Sc w → C0 w → H30 w hd → PI s.1 hd → smF hd 0 8 = p → p ≤ k → k - p + 1 < N → ∃ w' hd' σ, f_X10_merged_31 fu N w 0 (nI k) key (nI p) = some (nI (kk s.1 σ (hd' σ)), w') ∧ PI s.1 hd' ∧ smF hd' 0 8 = k ∧ Nx s.1 hd' 8 σ ∧ CS w' s.1 s.2 ∧ Sc w' ∧ Chg [30] w w' := by
  have ht := O.2
  intro N
  induction N with
  | zero => intro p w hd key _ _ _ _ _ _ _ hN; omega
  | succ N ih =>
    intro p w hd key h Z T H P hp hpk hN
    obtain ⟨σ, w1, g1, g2, g3, g4, g5, g6⟩ := next_ok (fu := fu) h Z O.1 H P hfu (by omega)
    have T1 := T.chg g6 (by simp)
    obtain ⟨a, b, t0⟩ := id T
    rw [f_X10_merged_31, if_neg (nI_nlt hpk (by omega)), gR_ob t0 rfl, some_bind', h.pd, some_bind', cl_ob Z.2.2.2.1, g2, some_bind', bnd_eq, bnd_eq, nI_1]
    have hs1 := sum8_up hd g1.1 (hd σ + 1)
    rcases Nat.lt_or_ge p k with q | q
    · obtain ⟨w2, hd2, σ2, k1, k2, k3, k4, k5, k6, k7⟩ := ih (p + 1) w1 _ (nI (kk s.1 σ (hd σ))) g4 g5 T1 g3 (PI_step O.1 P g1) (by omega) (by omega) (by omega)
      exact ⟨w2, hd2, σ2, k1, k2, k3, k4, k5, k6, g6.tr k7⟩
    · obtain ⟨N', rfl⟩ : ∃ N', N = N' + 1 := ⟨N - 1, by omega⟩
      rw [f_X10_merged_31, if_pos (nI_lt (by omega) (by omega))]
      exact ⟨w1, hd, σ, rfl, P, by omega, g1, g4, g5, g6⟩
theorem mrk_loop {b : Nat} (B : MB C F ar b s) (hfu : 100 ≤ fu) {lr8 : Nat → Int32 → Int32 → Option Int32} {lr16 : Nat → Int32 → Int32 → Int32 → Option Int32} {i j : Nat} (hi : i < 8) (hj : j < (s.1 i).length) (k : Int32) : ∀ N t acc, t ≤ 8 → 8 - t < N → f_X11_merged_31 fu (mW C F v ar) lr8 lr16 N 123 k (nI i) (nI j) (nI acc) (nI t) = if nI (acc + smF (rkT s.1 i j) t 8) = k then some (nI (kk s.1 i j)) else lr16 123 k (nI i) (nI (j + 1)) := by
  intro N
  induction N with
  | zero => intro t acc _ hN; omega
  | succ N ih =>
    intro t acc ht hN
    rw [f_X11_merged_31]
    by_cases c : 8 ≤ t
    · rw [if_pos (show (8 : Int32) ≤ nI t from nI_le (a := 8) c (by omega)), smF_end _ c, Nat.add_zero]
      by_cases q : nI acc = k
      · rw [if_pos q, if_pos q, B.cl, B.key hi hj, some_bind']; rfl
      · rw [if_neg q, if_neg q, bnd_eq, nI_1]
    · have ht8 : t < 8 := by omega
      have nx : ∀ z, z = rkT s.1 i j t → f_X11_merged_31 fu (mW C F v ar) lr8 lr16 N 123 k (nI i) (nI j) (nI (acc + z)) (nI (t + 1)) = if nI (acc + smF (rkT s.1 i j) t 8) = k then some (nI (kk s.1 i j)) else lr16 123 k (nI i) (nI (j + 1)) := fun z hz => by
        rw [ih (t + 1) _ (by omega) (by omega), hz, smF_cons _ ht8, Nat.add_assoc]
      have m79 : ∀ z y, f_X11_merged_79 fu (mW C F v ar) lr8 lr16 (f_X11_merged_31 fu (mW C F v ar) lr8 lr16 N) 123 k (nI i) (nI j) (nI t) (nI acc) (nI z) (nI y) = f_X11_merged_31 fu (mW C F v ar) lr8 lr16 N 123 k (nI i) (nI j) (nI (acc + (z + y))) (nI (t + 1)) := fun z y => by
        rw [f_X11_merged_79, bnd_eq, bnd_eq, nI_add, nI_add, nI_1]
      rw [if_neg (show ¬ (8 : Int32) ≤ nI t from nI_ge (b := 8) ht8 (by omega)), B.cl, B.key hi hj, some_bind', B.cl, B.below ht8 hfu, some_bind']
      by_cases q : i ≤ t
      · rw [if_pos (nI_le q (by omega)), show (0 : Int32) = nI 0 from rfl, m79]
        exact nx _ (by unfold rkT; rw [if_neg (fun z => by omega)]; rfl)
      · rw [if_neg (nI_ge (by omega) (by omega)), some_bind', B.cl, B.place ht8 hfu, some_bind']
        by_cases q2 : plc (s.1 t) (nI (nth (s.1 i) j / 2)) = -1
        · rw [if_pos q2, show (0 : Int32) = nI 0 from rfl, m79]
          exact nx _ (by unfold rkT; rw [if_neg (fun z => z.2 q2)]; rfl)
        · rw [if_neg q2, show (1 : Int32) = nI 1 from rfl, m79]
          exact nx _ (by unfold rkT; rw [if_pos ⟨by omega, q2⟩]; rfl)
theorem rk_small (O : AOK s.1) {i j : Nat} (hi : i < 8) (hj : j < (s.1 i).length) : smF (rkT s.1 i j) 0 8 < 240 := by
  have := rk_lt O.1 hi hj
  have := O.2
  omega
/-- from (i, j) on, whoever has the rank k has the key x -/
theorem msearch_hit {b : Nat} (B : MB C F ar b s) (O : AOK s.1) (hfu : 100 ≤ fu) {k σ ι : Nat} (hk : k < 2 ^ 31) (hσ : σ < 8) (hι : ι < (s.1 σ).length) (hr : smF (rkT s.1 σ ι) 0 8 = k) (hu : ∀ i j, i < 8 → j < (s.1 i).length → smF (rkT s.1 i j) 0 8 = k → i = σ ∧ j = ι) {lr8 : Nat → Int32 → Int32 → Option Int32} {i : Nat} (hi : i ≤ σ) (hlr : i < σ → lr8 123 (nI k) (nI (i + 1)) = some (nI (kk s.1 σ ι))) : ∀ N j, j ≤ (s.1 i).length → (i = σ → j ≤ ι) → (s.1 i).length - j < N → f_X11_merged_16 fu (mW C F v ar) lr8 N 123 (nI k) (nI i) (nI j) = some (nI (kk s.1 σ ι)) := by
  have l1 := (B.2.2.2.2 i (by omega)).len
  intro N
  induction N with
  | zero => intro j _ _ hN; omega
  | succ N ih =>
    intro j hj hji hN
    rw [f_X11_merged_16, B.cl, B.many (by omega), some_bind']
    by_cases c : (s.1 i).length ≤ j
    · rw [if_pos (nI_le c (by omega)), bnd_eq, nI_1]
      refine hlr ?_
      rcases Nat.lt_or_ge i σ with q | q
      · exact q
      · have e : i = σ := by omega
        have := hji e
        subst e; omega
    · have hj' : j < (s.1 i).length := by omega
      have hsm := rk_small O (show i < 8 by omega) hj'
      rw [if_neg (nI_ge hj' (by omega)), bnd_eq, bnd_eq, show (0 : Int32) = nI 0 from rfl, mrk_loop B hfu (by omega) hj' (nI k) fu 0 0 (by omega) (by omega), Nat.zero_add]
      by_cases q : smF (rkT s.1 i j) 0 8 = k
      · obtain ⟨e1, e2⟩ := hu i j (by omega) hj' q
        rw [if_pos (by rw [q]), e1, e2]
      · rw [if_neg (fun z => q ((nI_eq (by omega) hk).mp z))]
        exact ih (j + 1) (by omega) (fun e => by
          have := hji e
          rcases Nat.lt_or_ge j ι with z | z
          · omega
          · exfalso
            apply q
            rw [e, show j = ι by omega]; exact hr) (by omega)
theorem msearch_hit8 {b : Nat} (B : MB C F ar b s) (O : AOK s.1) (hfu : 100 ≤ fu) {k σ ι : Nat} (hk : k < 2 ^ 31) (hσ : σ < 8) (hι : ι < (s.1 σ).length) (hr : smF (rkT s.1 σ ι) 0 8 = k) (hu : ∀ i j, i < 8 → j < (s.1 i).length → smF (rkT s.1 i j) 0 8 = k → i = σ ∧ j = ι) : ∀ N i, i ≤ σ → σ - i < N → f_X11_merged_8 fu (mW C F v ar) N 123 (nI k) (nI i) = some (nI (kk s.1 σ ι)) := by
  intro N
  induction N with
  | zero => intro i _ hN; omega
  | succ N ih =>
    intro i hi hN
    have l1 := (O.1 i (by omega)).len
    rw [f_X11_merged_8, if_neg (show ¬ (8 : Int32) ≤ nI i from nI_ge (b := 8) (by omega) (by omega)), bnd_eq]
    exact msearch_hit B O hfu hk hσ hι hr hu hi (fun q => ih (i + 1) (by omega) (by omega)) fu 0 (by omega) (fun _ => by omega) (by omega)
theorem msearch_miss {b : Nat} (B : MB C F ar b s) (O : AOK s.1) (hfu : 100 ≤ fu) {k : Nat} (hk : k < 2 ^ 31) (hu : ∀ i j, i < 8 → j < (s.1 i).length → smF (rkT s.1 i j) 0 8 ≠ k) {lr8 : Nat → Int32 → Int32 → Option Int32} {i : Nat} (hi : i < 8) (hlr : lr8 123 (nI k) (nI (i + 1)) = some (-1)) : ∀ N j, j ≤ (s.1 i).length → (s.1 i).length - j < N → f_X11_merged_16 fu (mW C F v ar) lr8 N 123 (nI k) (nI i) (nI j) = some (-1) := by
  have l1 := (B.2.2.2.2 i hi).len
  intro N
  induction N with
  | zero => intro j _ hN; omega
  | succ N ih =>
    intro j hj hN
    rw [f_X11_merged_16, B.cl, B.many hi, some_bind']
    by_cases c : (s.1 i).length ≤ j
    · rw [if_pos (nI_le c (by omega)), bnd_eq, nI_1]
      exact hlr
    · have hj' : j < (s.1 i).length := by omega
      have hsm := rk_small O hi hj'
      rw [if_neg (nI_ge hj' (by omega)), bnd_eq, bnd_eq, show (0 : Int32) = nI 0 from rfl, mrk_loop B hfu hi hj' (nI k) fu 0 0 (by omega) (by omega), Nat.zero_add, if_neg (fun z => hu i j hi hj' ((nI_eq (by omega) hk).mp z))]
      exact ih (j + 1) (by omega) (by omega)
theorem msearch_miss8 {b : Nat} (B : MB C F ar b s) (O : AOK s.1) (hfu : 100 ≤ fu) {k : Nat} (hk : k < 2 ^ 31) (hu : ∀ i j, i < 8 → j < (s.1 i).length → smF (rkT s.1 i j) 0 8 ≠ k) : ∀ N i, i ≤ 8 → 8 - i < N → f_X11_merged_8 fu (mW C F v ar) N 123 (nI k) (nI i) = some (-1) := by
  intro N
  induction N with
  | zero => intro i _ hN; omega
  | succ N ih =>
    intro i hi hN
    rw [f_X11_merged_8]
    by_cases c : 8 ≤ i
    · rw [if_pos (show (8 : Int32) ≤ nI i from nI_le (a := 8) c (by omega))]
    · have l1 := (O.1 i (by omega)).len
      rw [if_neg (show ¬ (8 : Int32) ≤ nI i from nI_ge (b := 8) (by omega) (by omega)), bnd_eq]
      exact msearch_miss B O hfu hk hu (by omega) (ih (i + 1) (by omega) (by omega)) fu 0 (by omega) (by omega)
theorem merged_res (G : Good C F v ar s V n) (hfu : 20000 ≤ fu) (a : Int32) : ∃ x C1, f_X10_merged fu (mW C F v ar) 0 a = some (x, mW C1 F v ar) ∧ f_X11_merged fu (mW C1 F v ar) 123 a = some x ∧ Good C1 F v ar s V n ∧ ∀ k, k ∉ actKs → C1[k]? = C[k]? := by
  have h := G.1.2.2.1
  have B := G.1.mb
  have O := G.1.2.2.2.1
  have ht := O.2
  have hfu2 : 100 ≤ fu := by omega
  by_cases c : a < 0
  · refine ⟨-1, C, ?_, ?_, G, fun _ _ => rfl⟩
    · rw [f_X10_merged, if_pos c]
    · rw [f_X11_merged, if_neg (Int32.not_le.mpr c)]
  · obtain ⟨k, hk, rfl⟩ := nI_of c
    have mpre : ∀ C1, f_X11_merged fu (mW C1 F v ar) 123 (nI k) = f_X11_merged_8 fu (mW C1 F v ar) fu 123 (nI k) 0 := fun C1 => by
      rw [f_X11_merged, if_pos (Int32.not_lt.mp c), bnd_eq]
    rcases Nat.lt_or_ge k (smF (fun t => (s.1 t).length) 0 8) with q | q
    · obtain ⟨w1, g1, g2, g3, g4, g5⟩ := begin_ok (fu := fu) h G.2.1 hfu2
      obtain ⟨w2, hd, σ, k1, k2, k3, k4, k5, k6, k7⟩ := cmerged_loop (fu := fu) O hfu2 q fu 0 w1 _ (-1) g3 g4 (G.1.2.1.chg g5 (by simp)) g2 (PI_0 _) (by rw [smF8]) (by omega) (by omega)
      obtain ⟨C1, e1, e2, G1, e4⟩ := good_q G (g5.tr k7) k30_31 k5 k6
      subst e1
      refine ⟨nI (kk s.1 σ (hd σ)), C1, ?_, ?_, G1, e4⟩
      · rw [f_X10_merged, if_neg c, G.st, some_bind', h.cl, ctotal_ok h hfu2, some_bind', if_pos (nI_lt q (by omega)), some_bind', h.pd, some_bind', cl_ob G.2.1.2.2.2.1, g1, some_bind', bnd_eq, bnd_eq]
        exact k1
      · have hr : smF (rkT s.1 σ (hd σ)) 0 8 = k := by
          rw [← k3]
          exact smF_congr (fun t _ ht8 => rk_eq O.1 k2 k4 ht8)
        rw [mpre]
        exact msearch_hit8 G1.1.mb O hfu2 hk k4.1 k4.2.1 hr (fun i j hi hj he => rk_u O.1 k2 k4 hi hj (by rw [he, k3])) fu 0 (by omega) (by have := k4.1; omega)
    · refine ⟨-1, C, ?_, ?_, G, fun _ _ => rfl⟩
      · rw [f_X10_merged, if_neg c, G.st, some_bind', h.cl, ctotal_ok h hfu2, some_bind', if_neg (nI_nlt q hk)]
      · rw [mpre]
        exact msearch_miss8 B O hfu2 hk (fun i j hi hj => by have := rk_lt O.1 hi hj; omega) fu 0 (by omega) (by omega)
/-- the first set that has this key -/
def fsG (hs : Nat → List Nat) (t j : Nat) : Nat := if (List.range t).all (fun u => decide (plc (hs u) (nI (kk hs t j)) = -1)) = true then 1 else 0
theorem fsG_1 {hs : Nat → List Nat} {t j : Nat} : (List.range t).all (fun u => decide (plc (hs u) (nI (kk hs t j)) = -1)) = true ↔ ∀ u, u < t → plc (hs u) (nI (kk hs t j)) = -1 := by
  rw [List.all_eq_true]
  constructor
  · intro h u hu
    have := h u (List.mem_range.mpr hu)
    simpa using this
  · intro h u hu
    simpa using h u (List.mem_range.mp hu)
def PvOK (hs : Nat → List Nat) (hd : Nat → Nat) (p : Int32) : Prop := (p = -1 ∧ ∀ t, t < 8 → hd t = 0) ∨ ∃ t j, t < 8 ∧ j < hd t ∧ p = nI (kk hs t j) ∧ ∀ u i, u < 8 → i < hd u → kk hs u i ≤ kk hs t j
theorem pv_eq {hs : Nat → List Nat} {hd : Nat → Nat} (O : ∀ q, q < 8 → SOK (hs q)) (P : PI hs hd) {σ : Nat} (h : Nx hs hd 8 σ) {p : Int32} (hp : PvOK hs hd p) : nI (kk hs σ (hd σ)) = p ↔ ¬ ∀ u, u < σ → plc (hs u) (nI (kk hs σ (hd σ))) = -1 := by
  obtain ⟨h1, h2, h3⟩ := id h
  have hk := kk_lt O h1 h2
  constructor
  · intro e hall
    rcases hp with ⟨p1, _⟩ | ⟨t, j, t1, t2, t3, t4⟩
    · rw [p1] at e; exact m1_ne _ (by omega) e
    · have hkt := kk_lt O t1 (show j < (hs t).length by have := P.1 t t1; omega)
      rw [t3] at e
      have e2 := (nI_eq (by omega) (by omega)).mp e
      rcases P.2 t j σ (hd σ) t1 h1 t2 (Nat.le_refl _) h2 with q | ⟨q1, q2⟩
      · omega
      · have := hall t q2
        exact (plc_iff (O t t1) (by omega)).mp this _ (nth_mem (show j < (hs t).length by have := P.1 t t1; omega)) q1
  · intro hn
    obtain ⟨u, hu⟩ : ∃ u, u < σ ∧ ¬ plc (hs u) (nI (kk hs σ (hd σ))) = -1 := by
      refine Classical.byContradiction fun q => hn (fun u hu => ?_)
      refine Classical.byContradiction fun q2 => q ⟨u, hu, q2⟩
    obtain ⟨hu1, hu2⟩ := hu
    obtain ⟨q1, q2⟩ := at_bel (O u (by omega)) hk hu2
    have hr := rk_eq O P h (show u < 8 by omega)
    unfold rkT at hr
    rw [if_pos ⟨hu1, hu2⟩] at hr
    rcases hp with ⟨p1, p2⟩ | ⟨t, j, t1, t2, t3, t4⟩
    · have := p2 u (by omega); omega
    · have hge := t4 u (bel (hs u) (nI (kk hs σ (hd σ)))) (by omega) (by omega)
      have e1 : kk hs u (bel (hs u) (nI (kk hs σ (hd σ)))) = kk hs σ (hd σ) := q2
      have hle := P.2 t j σ (hd σ) t1 h1 t2 (Nat.le_refl _) h2
      rw [t3]
      congr 1
      omega
theorem cunlike_loop (O : AOK s.1) (hfu : 100 ≤ fu) : ∀ N p w hd prev acc, CS w s.1 s.2 → Sc w → H30 w hd → PI s.1 hd → PvOK s.1 hd prev → smF hd 0 8 = p → acc = smF (fun t => smF (fsG s.1 t) 0 (hd t)) 0 8 → p ≤ smF (fun t => (s.1 t).length) 0 8 → smF (fun t => (s.1 t).length) 0 8 - p < N → ∃ w', f_X7_unlike_19 fu N w 1 (nI (smF (fun t => (s.1 t).length) 0 8)) (nI acc) prev (nI p) = some (nI (smF (fun t => smF (fsG s.1 t) 0 (s.1 t).length) 0 8), w') ∧ CS w' s.1 s.2 ∧ Sc w' ∧ Chg [30] w w' := by
  have ht := O.2
  intro N
  induction N with
  | zero => intro p w hd prev acc _ _ _ _ _ _ _ _ hN; omega
  | succ N ih =>
    intro p w hd prev acc h Z H P hpv hp hacc hle hN
    rw [f_X7_unlike_19]
    by_cases c : smF (fun t => (s.1 t).length) 0 8 ≤ p
    · have he : ∀ t, t < 8 → hd t = (s.1 t).length := by
        intro t ht8
        rcases Nat.lt_or_ge (hd t) ((s.1 t).length) with q | q
        · have := sum8_lt (f := hd) (g := fun t => (s.1 t).length) P.1 ht8 q
          omega
        · have := P.1 t ht8; omega
      rw [if_pos (nI_le c (by omega))]
      refine ⟨w, ?_, h, Z, Chg.rf _ _⟩
      rw [hacc]
      congr 3
      exact smF_congr (fun t _ ht8 => by rw [he t ht8])
    · obtain ⟨σ, w1, g1, g2, g3, g4, g5, g6⟩ := next_ok (fu := fu) h Z O.1 H P hfu (by omega)
      obtain ⟨n1, n2, n3⟩ := id g1
      have hk := kk_lt O.1 n1 n2
      have hpe := pv_eq O.1 P g1 hpv
      have hs1 := sum8_up hd n1 (hd σ + 1)
      have P2 := PI_step O.1 P g1
      have hpv2 : PvOK s.1 (va_up hd σ (hd σ + 1)) (nI (kk s.1 σ (hd σ))) := by
        refine Or.inr ⟨σ, hd σ, n1, by rw [vu_eq]; omega, rfl, fun u i hu hi => ?_⟩
        by_cases q : u = σ
        · subst q
          rw [vu_eq] at hi
          rcases Nat.lt_or_ge i (hd u) with z | z
          · exact Nat.le_of_lt (kk_mono O.1 hu z n2)
          · rw [show i = hd u by omega]; exact Nat.le_refl _
        · rw [vu_ne _ _ q] at hi
          rcases P.2 u i σ (hd σ) hu n1 hi (Nat.le_refl _) n2 with z | z
          · omega
          · omega
      have hsum : smF (fun t => smF (fsG s.1 t) 0 (va_up hd σ (hd σ + 1) t)) 0 8 = smF (fun t => smF (fsG s.1 t) 0 (hd t)) 0 8 + fsG s.1 σ (hd σ) := by
        have e1 : (fun t => smF (fsG s.1 t) 0 (va_up hd σ (hd σ + 1) t)) = va_up (fun t => smF (fsG s.1 t) 0 (hd t)) σ (smF (fsG s.1 σ) 0 (hd σ + 1)) := by
          funext t
          by_cases q : t = σ
          · subst q; rw [vu_eq, vu_eq]
          · rw [vu_ne _ _ q, vu_ne _ _ q]
        rw [e1]
        have := sum8_up (fun t => smF (fsG s.1 t) 0 (hd t)) n1 (smF (fsG s.1 σ) 0 (hd σ + 1))
        have e2 : smF (fsG s.1 σ) 0 (hd σ + 1) = smF (fsG s.1 σ) 0 (hd σ) + fsG s.1 σ (hd σ) := smF_snoc _ _ _ (Nat.zero_le _)
        omega
      have nx : ∀ z, z = fsG s.1 σ (hd σ) → ∃ w', f_X7_unlike_46 fu (f_X7_unlike_19 fu N) w1 1 (nI (smF (fun t => (s.1 t).length) 0 8)) (nI p) (nI (kk s.1 σ (hd σ))) (nI acc) (nI z) = some (nI (smF (fun t => smF (fsG s.1 t) 0 (s.1 t).length) 0 8), w') ∧ CS w' s.1 s.2 ∧ Sc w' ∧ Chg [30] w w' := by
        intro z hz
        obtain ⟨w2, k1, k2, k3, k4⟩ := ih (p + 1) w1 _ (nI (kk s.1 σ (hd σ))) (acc + z) g4 g5 g3 P2 hpv2 (by omega) (by rw [hsum, hacc, hz]) (by omega) (by omega)
        rw [f_X7_unlike_46, bnd_eq, bnd_eq, bnd_eq, nI_add, nI_1, k1]
        exact ⟨w2, rfl, k2, k3, g6.tr k4⟩
      rw [if_neg (nI_ge (by omega) (by omega)), h.pd, some_bind', cl_ob Z.2.2.2.1, g2, some_bind', bnd_eq]
      by_cases q : nI (kk s.1 σ (hd σ)) = prev
      · rw [if_pos q]
        exact nx 0 (by unfold fsG; rw [if_neg (fun z => hpe.mp q (fsG_1.mp z))])
      · rw [if_neg q]
        refine nx 1 ?_
        unfold fsG
        rw [if_pos (fsG_1.mpr (Classical.byContradiction fun z => q (hpe.mpr z)))]
end Q
end
